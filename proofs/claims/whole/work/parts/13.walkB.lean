/-! ===== the walks, printed by gen/walk.py ===== -/
set_option maxRecDepth 20000 in
theorem mX0_forgetAll_0 : Cond.fieldLink RX0 17 "LeggedThrough$Acts" "many" "I" ∈ wsX0_forgetAll := by decide +kernel
set_option maxRecDepth 20000 in
theorem hinX0_forgetAll_X0 : ∀ w ∈ u_ws RX0 TX0 3, w ∈ wsX0_forgetAll := fun w h => List.mem_cons_of_mem _ (List.mem_append_right _ h)
set_option maxRecDepth 20000 in
set_option maxHeartbeats 4000000 in
theorem k_X0_forgetAll {l : Launch} {D : va_G} {cI cZ : ClassId} {q : Nat} {ad : Nat → Nat}   (S : zS) (r : zS) (h : f_X0_forgetAll  S = some r) : zU l yX0_forgetAll wsX0_forgetAll (zRm 0 0) D (zty cI cZ) zNw (wC cI q ad) [.ref (ad 3)] S r := by
  refine zU_of (cc := cX0_forgetAll) (maxL := 1)  (by decide +kernel) rfl (Nat.le_of_ble_eq_true rfl) zNw_ok (fun E hE1 hE2 C0 hR => ?_)
  subst hE1; subst hE2
  replace C0 : zCx E (zRm 0 0) cX0_forgetAll 1 RX0 wsX0_forgetAll (zty cI cZ) zNw := C0
  show zV E (wC cI q ad) 1 S 0 [(0, .ref (ad 3))] []
  delta f_X0_forgetAll at h
  refine zV_aload_n (n := 1) C0 0 dX0_forgetAll_0 rfl rfl ?_
  refine zV_iconst (n := 2) (v := (0 : Int32)) C0 dX0_forgetAll_1 rfl rfl ?_
  refine zV_put (n := 5) (ref := RX0) C0 hinX0_forgetAll_X0 4 rfl rfl 2 (Nat.le_of_ble_eq_true rfl) mX0_forgetAll_0 rfl tyX0 tyX0_ok nmX0 rfl (tyX0_ok 2 (Nat.le_of_ble_eq_true rfl)) rfl rfl (Nat.le_of_ble_eq_true rfl) (upd S.1 20 (0 : Int32), S.2) (wC_f20 cI q ad S (0 : Int32)) dX0_forgetAll_2 rfl ?_
  refine zV_topS (fun S_1 eS_1 => ?_)
  replace h := zlet_of eS_1 h
  clear eS_1
  exact zretU hR h dX0_forgetAll_5
set_option maxRecDepth 20000 in
theorem mX2_storeIn_0 : Cond.fieldLink RX2 9 "LeggedThrough$State" "grounds" "I" ∈ wsX2_storeIn := by decide +kernel
set_option maxRecDepth 20000 in
theorem mX2_storeIn_1 : Cond.fieldLink RX2 15 "LeggedThrough$State" "tired" "I" ∈ wsX2_storeIn := by decide +kernel
set_option maxRecDepth 20000 in
theorem mX2_storeIn_2 : Cond.fieldLink RX2 18 "LeggedThrough$State" "through" "I" ∈ wsX2_storeIn := by decide +kernel
set_option maxRecDepth 20000 in
theorem mX2_storeIn_3 : Cond.fieldLink RX2 21 "LeggedThrough$State" "clock" "I" ∈ wsX2_storeIn := by decide +kernel
set_option maxRecDepth 20000 in
theorem hinX2_storeIn_X2 : ∀ w ∈ u_ws RX2 TX2 4, w ∈ wsX2_storeIn := fun w h => List.mem_cons_of_mem _ (List.mem_append_right _ h)
set_option maxRecDepth 20000 in
set_option maxHeartbeats 4000000 in
theorem k_X2_storeIn {l : Launch} {D : va_G} {cI cZ : ClassId} {q : Nat} {ad : Nat → Nat} (k1 : Nat) (a2 : Int32) (hk1 : xok k1) (S : zS) (r : zS) (h : f_X2_storeIn k1 a2 S = some r) : zU l yX2_storeIn wsX2_storeIn (zRm 0 0) D (zty cI cZ) zNw (wC cI q ad) [.ref (ad 2), .ref (ad k1), .int a2] S r := by
  refine zU_of (cc := cX2_storeIn) (maxL := 4)  (by decide +kernel) rfl (Nat.le_of_ble_eq_true rfl) zNw_ok (fun E hE1 hE2 C0 hR => ?_)
  subst hE1; subst hE2
  replace C0 : zCx E (zRm 0 0) cX2_storeIn 4 RX2 wsX2_storeIn (zty cI cZ) zNw := C0
  show zV E (wC cI q ad) 4 S 0 [(0, .ref (ad 2)), (1, .ref (ad k1)), (2, .int a2)] []
  delta f_X2_storeIn at h
  refine zV_iload_n (n := 1) C0 2 dX2_storeIn_0 rfl rfl ?_
  refine zV_iconst (n := 2) (v := (4 : Int32)) C0 dX2_storeIn_1 rfl rfl ?_
  refine zV_imul (n := 3) C0 dX2_storeIn_2  rfl ?_
  refine zV_topi (fun x3_1 ex3_1 => ?_)
  replace h := zlet_of ex3_1 h
  clear ex3_1
  refine zV_istore_n (n := 4) C0 [(3, .int x3_1), (0, .ref (ad 2)), (1, .ref (ad k1)), (2, .int a2)] dX2_storeIn_3 rfl rfl (Nat.le_of_ble_eq_true rfl) rfl ?_
  refine zV_iload_n (n := 5) C0 0 dX2_storeIn_4 rfl rfl ?_
  refine zjoin_of h (fun k_3 hk_3 h => ?_)
  have Jk_3 : ∀ (S_2 : zS), k_3 (S_2) = some r → zV E (wC cI q ad) 4 S_2 50 [] [] := by
    intro S_2 h
    replace h := hk_3 _ h
    exact zretU hR h dX2_storeIn_50
  clear hk_3
  refine zV_if_lt (tgt := 50) (n := 8) C0 dX2_storeIn_5 rfl rfl (fun hb_13 => ?_) (fun hb_13 => ?_)
  · replace h := if_t hb_13 h
    refine zV_sub [] rfl ?_
    exact Jk_3 S h
  · replace h := if_f hb_13 h
    refine zV_iload_n (n := 9) C0 0 dX2_storeIn_8 rfl rfl ?_
    refine zV_aload_n (n := 10) C0 2 dX2_storeIn_9 rfl rfl ?_
    refine zV_alen (n := 11) C0 (k1 + 1) 0 (wC_at cI q ad S hk1) rfl rfl dX2_storeIn_10 rfl ?_
    refine zV_iconst (n := 12) (v := (4 : Int32)) C0 dX2_storeIn_11 rfl rfl ?_
    refine zV_isub (n := 13) C0 dX2_storeIn_12  rfl ?_
    refine zV_icmp_gt (tgt := 50) (n := 16) C0 dX2_storeIn_13 rfl rfl (fun hb_12 => ?_) (fun hb_12 => ?_)
    · replace h := if_t hb_12 h
      refine zV_sub [] rfl ?_
      exact Jk_3 S h
    · replace h := if_f hb_12 h
      refine zV_aload_n (n := 17) C0 2 dX2_storeIn_16 rfl rfl ?_
      refine zV_iload_n (n := 18) C0 0 dX2_storeIn_17 rfl rfl ?_
      refine zV_aload_n (n := 19) C0 1 dX2_storeIn_18 rfl rfl ?_
      refine zV_get (n := 22) (ref := RX2) C0 hinX2_storeIn_X2 3 rfl rfl 0 (Nat.le_of_ble_eq_true rfl) mX2_storeIn_0 rfl rfl dX2_storeIn_19 rfl ?_
      obtain ⟨hg_4, h⟩ := gd_of h
      refine zV_iast (n := 23) C0 (k1 + 1) 0 (wC_at cI q ad S hk1) rfl hg_4 (S.1, S.2.1, zur S.2.2 k1 (upd (S.2.2 k1) (x3_1).toNatClampNeg (S.1 15))) (wC_as cI q ad S hk1 (upd (S.2.2 k1) (x3_1).toNatClampNeg (S.1 15))) dX2_storeIn_22 rfl ?_
      refine zV_topS (fun S_5 eS_5 => ?_)
      replace h := zlet_of eS_5 h
      clear eS_5
      refine zV_aload_n (n := 24) C0 2 dX2_storeIn_23 rfl rfl ?_
      refine zV_iload_n (n := 25) C0 0 dX2_storeIn_24 rfl rfl ?_
      refine zV_iconst (n := 26) (v := (1 : Int32)) C0 dX2_storeIn_25 rfl rfl ?_
      refine zV_iadd (n := 27) C0 dX2_storeIn_26  rfl ?_
      refine zV_aload_n (n := 28) C0 1 dX2_storeIn_27 rfl rfl ?_
      refine zV_get (n := 31) (ref := RX2) C0 hinX2_storeIn_X2 3 rfl rfl 1 (Nat.le_of_ble_eq_true rfl) mX2_storeIn_1 rfl rfl dX2_storeIn_28 rfl ?_
      obtain ⟨hg_6, h⟩ := gd_of h
      refine zV_iast (n := 32) C0 (k1 + 1) 0 (wC_at cI q ad S_5 hk1) rfl hg_6 (S_5.1, S_5.2.1, zur S_5.2.2 k1 (upd (S_5.2.2 k1) ((x3_1 + (1 : Int32))).toNatClampNeg (S_5.1 16))) (wC_as cI q ad S_5 hk1 (upd (S_5.2.2 k1) ((x3_1 + (1 : Int32))).toNatClampNeg (S_5.1 16))) dX2_storeIn_31 rfl ?_
      refine zV_topS (fun S_7 eS_7 => ?_)
      replace h := zlet_of eS_7 h
      clear eS_7
      refine zV_aload_n (n := 33) C0 2 dX2_storeIn_32 rfl rfl ?_
      refine zV_iload_n (n := 34) C0 0 dX2_storeIn_33 rfl rfl ?_
      refine zV_iconst (n := 35) (v := (2 : Int32)) C0 dX2_storeIn_34 rfl rfl ?_
      refine zV_iadd (n := 36) C0 dX2_storeIn_35  rfl ?_
      refine zV_aload_n (n := 37) C0 1 dX2_storeIn_36 rfl rfl ?_
      refine zV_get (n := 40) (ref := RX2) C0 hinX2_storeIn_X2 3 rfl rfl 2 (Nat.le_of_ble_eq_true rfl) mX2_storeIn_2 rfl rfl dX2_storeIn_37 rfl ?_
      obtain ⟨hg_8, h⟩ := gd_of h
      refine zV_iast (n := 41) C0 (k1 + 1) 0 (wC_at cI q ad S_7 hk1) rfl hg_8 (S_7.1, S_7.2.1, zur S_7.2.2 k1 (upd (S_7.2.2 k1) ((x3_1 + (2 : Int32))).toNatClampNeg (S_7.1 17))) (wC_as cI q ad S_7 hk1 (upd (S_7.2.2 k1) ((x3_1 + (2 : Int32))).toNatClampNeg (S_7.1 17))) dX2_storeIn_40 rfl ?_
      refine zV_topS (fun S_9 eS_9 => ?_)
      replace h := zlet_of eS_9 h
      clear eS_9
      refine zV_aload_n (n := 42) C0 2 dX2_storeIn_41 rfl rfl ?_
      refine zV_iload_n (n := 43) C0 0 dX2_storeIn_42 rfl rfl ?_
      refine zV_iconst (n := 44) (v := (3 : Int32)) C0 dX2_storeIn_43 rfl rfl ?_
      refine zV_iadd (n := 45) C0 dX2_storeIn_44  rfl ?_
      refine zV_aload_n (n := 46) C0 1 dX2_storeIn_45 rfl rfl ?_
      refine zV_get (n := 49) (ref := RX2) C0 hinX2_storeIn_X2 3 rfl rfl 3 (Nat.le_of_ble_eq_true rfl) mX2_storeIn_3 rfl rfl dX2_storeIn_46 rfl ?_
      obtain ⟨hg_10, h⟩ := gd_of h
      refine zV_iast (n := 50) C0 (k1 + 1) 0 (wC_at cI q ad S_9 hk1) rfl hg_10 (S_9.1, S_9.2.1, zur S_9.2.2 k1 (upd (S_9.2.2 k1) ((x3_1 + (3 : Int32))).toNatClampNeg (S_9.1 18))) (wC_as cI q ad S_9 hk1 (upd (S_9.2.2 k1) ((x3_1 + (3 : Int32))).toNatClampNeg (S_9.1 18))) dX2_storeIn_49 rfl ?_
      refine zV_topS (fun S_11 eS_11 => ?_)
      replace h := zlet_of eS_11 h
      clear eS_11
      refine zV_sub [] rfl ?_
      exact Jk_3 S_11 h
set_option maxRecDepth 20000 in
theorem mX0_remember_0 : Cond.fieldLink RX0 17 "LeggedThrough$Acts" "many" "I" ∈ wsX0_remember := by decide +kernel
set_option maxRecDepth 20000 in
theorem mX0_remember_1 : Cond.fieldLink RX0 11 "LeggedThrough$Acts" "ring" "[I" ∈ wsX0_remember := by decide +kernel
set_option maxRecDepth 20000 in
theorem mX0_remember_2 : Cond.fieldLink RX0 21 "LeggedThrough$Acts" "first" "I" ∈ wsX0_remember := by decide +kernel
set_option maxRecDepth 20000 in
theorem hinX0_remember_X0 : ∀ w ∈ u_ws RX0 TX0 3, w ∈ wsX0_remember := fun w h => List.mem_cons_of_mem _ (List.mem_append_left _ (List.mem_append_right _ h))
set_option maxRecDepth 20000 in
set_option maxHeartbeats 4000000 in
theorem k_X0_remember {l : Launch} {D : va_G} {cI cZ : ClassId} {q : Nat} {ad : Nat → Nat}   (S : zS) (r : zS) (h : f_X0_remember  S = some r) : zU l yX0_remember wsX0_remember (zRm 1 23) D (zty cI cZ) zNw (wC cI q ad) [.ref (ad 3), .ref (ad 2)] S r := by
  refine zU_of (cc := cX0_remember) (maxL := 2)  (by decide +kernel) rfl (Nat.le_of_ble_eq_true rfl) zNw_ok (fun E hE1 hE2 C0 hR => ?_)
  subst hE1; subst hE2
  replace C0 : zCx E (zRm 1 23) cX0_remember 2 RX0 wsX0_remember (zty cI cZ) zNw := C0
  show zV E (wC cI q ad) 2 S 0 [(0, .ref (ad 3)), (1, .ref (ad 2))] []
  delta f_X0_remember at h
  refine zV_aload_n (n := 1) C0 0 dX0_remember_0 rfl rfl ?_
  refine zV_get (n := 4) (ref := RX0) C0 hinX0_remember_X0 4 rfl rfl 2 (Nat.le_of_ble_eq_true rfl) mX0_remember_0 rfl rfl dX0_remember_1 rfl ?_
  refine zV_bipush (n := 6) (v := (14 : Int32)) C0 dX0_remember_4 rfl rfl ?_
  refine zjoin_of h (fun k_2 hk_2 h => ?_)
  have Jk_2 : ∀ (S_1 : zS), k_2 (S_1) = some r → zV E (wC cI q ad) 2 S_1 32 [(0, .ref (ad 3)), (1, .ref (ad 2))] [] := by
    intro S_1 h
    replace h := hk_2 _ h
    refine zV_aload_n (n := 33) C0 1 dX0_remember_32 rfl rfl ?_
    refine zV_aload_n (n := 34) C0 0 dX0_remember_33 rfl rfl ?_
    refine zV_get (n := 37) (ref := RX0) C0 hinX0_remember_X0 4 rfl rfl 0 (Nat.le_of_ble_eq_true rfl) mX0_remember_1 rfl rfl dX0_remember_34 rfl ?_
    refine zV_aload_n (n := 38) C0 0 dX0_remember_37 rfl rfl ?_
    refine zV_get (n := 41) (ref := RX0) C0 hinX0_remember_X0 4 rfl rfl 1 (Nat.le_of_ble_eq_true rfl) mX0_remember_2 rfl rfl dX0_remember_38 rfl ?_
    refine zV_aload_n (n := 42) C0 0 dX0_remember_41 rfl rfl ?_
    refine zV_get (n := 45) (ref := RX0) C0 hinX0_remember_X0 4 rfl rfl 2 (Nat.le_of_ble_eq_true rfl) mX0_remember_0 rfl rfl dX0_remember_42 rfl ?_
    refine zV_iadd (n := 46) C0 dX0_remember_45  rfl ?_
    refine zV_bipush (n := 48) (v := (14 : Int32)) C0 dX0_remember_46 rfl rfl ?_
    refine zV_irem (n := 49) C0 dX0_remember_48 (by decide) rfl ?_
    obtain ⟨S_4, hc_3, h⟩ := ob_of h
    refine zV_callVU (n := 52) (st := []) (As := [.ref (ad 7), .int (zrem ((S_1.1 19) + (S_1.1 20)) (14 : Int32))]) C0 (k_X2_storeIn 7 (zrem ((S_1.1 19) + (S_1.1 20)) (14 : Int32)) (by decide) S_1 _ hc_3) gX0_remember_X2_storeIn rfl (hd_X2_storeIn) rfl ⟨rfl, rfl⟩ ⟨Nat.le_of_ble_eq_true rfl, Nat.le_of_ble_eq_true rfl⟩ 3 rfl rfl rfl (Nat.le_of_ble_eq_true rfl) dX0_remember_49 rfl ?_
    refine zV_aload_n (n := 53) C0 0 dX0_remember_52 rfl rfl ?_
    refine zV_dup (n := 54) C0 dX0_remember_53 rfl rfl ?_
    refine zV_get (n := 57) (ref := RX0) C0 hinX0_remember_X0 4 rfl rfl 2 (Nat.le_of_ble_eq_true rfl) mX0_remember_0 rfl rfl dX0_remember_54 rfl ?_
    refine zV_iconst (n := 58) (v := (1 : Int32)) C0 dX0_remember_57 rfl rfl ?_
    refine zV_iadd (n := 59) C0 dX0_remember_58  rfl ?_
    refine zV_put (n := 62) (ref := RX0) C0 hinX0_remember_X0 4 rfl rfl 2 (Nat.le_of_ble_eq_true rfl) mX0_remember_0 rfl tyX0 tyX0_ok nmX0 rfl (tyX0_ok 2 (Nat.le_of_ble_eq_true rfl)) rfl rfl (Nat.le_of_ble_eq_true rfl) (upd S_4.1 20 ((S_4.1 20) + (1 : Int32)), S_4.2) (wC_f20 cI q ad S_4 ((S_4.1 20) + (1 : Int32))) dX0_remember_59 rfl ?_
    refine zV_topS (fun S_5 eS_5 => ?_)
    replace h := zlet_of eS_5 h
    clear eS_5
    exact zretU hR h dX0_remember_62
  clear hk_2
  refine zV_icmp_lt (tgt := 32) (n := 9) C0 dX0_remember_6 rfl rfl (fun hb_8 => ?_) (fun hb_8 => ?_)
  · replace h := if_t hb_8 h
    exact Jk_2 S h
  · replace h := if_f hb_8 h
    refine zV_aload_n (n := 10) C0 0 dX0_remember_9 rfl rfl ?_
    refine zV_aload_n (n := 11) C0 0 dX0_remember_10 rfl rfl ?_
    refine zV_get (n := 14) (ref := RX0) C0 hinX0_remember_X0 4 rfl rfl 1 (Nat.le_of_ble_eq_true rfl) mX0_remember_2 rfl rfl dX0_remember_11 rfl ?_
    refine zV_iconst (n := 15) (v := (1 : Int32)) C0 dX0_remember_14 rfl rfl ?_
    refine zV_iadd (n := 16) C0 dX0_remember_15  rfl ?_
    refine zV_bipush (n := 18) (v := (14 : Int32)) C0 dX0_remember_16 rfl rfl ?_
    refine zV_irem (n := 19) C0 dX0_remember_18 (by decide) rfl ?_
    refine zV_put (n := 22) (ref := RX0) C0 hinX0_remember_X0 4 rfl rfl 1 (Nat.le_of_ble_eq_true rfl) mX0_remember_2 rfl tyX0 tyX0_ok nmX0 rfl (tyX0_ok 1 (Nat.le_of_ble_eq_true rfl)) rfl rfl (Nat.le_of_ble_eq_true rfl) (upd S.1 19 (zrem ((S.1 19) + (1 : Int32)) (14 : Int32)), S.2) (wC_f19 cI q ad S (zrem ((S.1 19) + (1 : Int32)) (14 : Int32))) dX0_remember_19 rfl ?_
    refine zV_topS (fun S_6 eS_6 => ?_)
    replace h := zlet_of eS_6 h
    clear eS_6
    refine zV_aload_n (n := 23) C0 0 dX0_remember_22 rfl rfl ?_
    refine zV_dup (n := 24) C0 dX0_remember_23 rfl rfl ?_
    refine zV_get (n := 27) (ref := RX0) C0 hinX0_remember_X0 4 rfl rfl 2 (Nat.le_of_ble_eq_true rfl) mX0_remember_0 rfl rfl dX0_remember_24 rfl ?_
    refine zV_iconst (n := 28) (v := (1 : Int32)) C0 dX0_remember_27 rfl rfl ?_
    refine zV_isub (n := 29) C0 dX0_remember_28  rfl ?_
    refine zV_put (n := 32) (ref := RX0) C0 hinX0_remember_X0 4 rfl rfl 2 (Nat.le_of_ble_eq_true rfl) mX0_remember_0 rfl tyX0 tyX0_ok nmX0 rfl (tyX0_ok 2 (Nat.le_of_ble_eq_true rfl)) rfl rfl (Nat.le_of_ble_eq_true rfl) (upd S_6.1 20 ((S_6.1 20) - (1 : Int32)), S_6.2) (wC_f20 cI q ad S_6 ((S_6.1 20) - (1 : Int32))) dX0_remember_29 rfl ?_
    refine zV_topS (fun S_7 eS_7 => ?_)
    replace h := zlet_of eS_7 h
    clear eS_7
    exact Jk_2 S_7 h
set_option maxRecDepth 20000 in
theorem mX2_fetchFrom_0 : Cond.fieldLink RX2 9 "LeggedThrough$State" "grounds" "I" ∈ wsX2_fetchFrom := by decide +kernel
set_option maxRecDepth 20000 in
theorem mX2_fetchFrom_1 : Cond.fieldLink RX2 15 "LeggedThrough$State" "tired" "I" ∈ wsX2_fetchFrom := by decide +kernel
set_option maxRecDepth 20000 in
theorem mX2_fetchFrom_2 : Cond.fieldLink RX2 18 "LeggedThrough$State" "through" "I" ∈ wsX2_fetchFrom := by decide +kernel
set_option maxRecDepth 20000 in
theorem mX2_fetchFrom_3 : Cond.fieldLink RX2 21 "LeggedThrough$State" "clock" "I" ∈ wsX2_fetchFrom := by decide +kernel
set_option maxRecDepth 20000 in
theorem hinX2_fetchFrom_X2 : ∀ w ∈ u_ws RX2 TX2 4, w ∈ wsX2_fetchFrom := fun w h => List.mem_cons_of_mem _ (List.mem_append_right _ h)
set_option maxRecDepth 20000 in
set_option maxHeartbeats 4000000 in
theorem k_X2_fetchFrom {l : Launch} {D : va_G} {cI cZ : ClassId} {q : Nat} {ad : Nat → Nat} (k1 : Nat) (a2 : Int32) (hk1 : xok k1) (S : zS) (r : zS) (h : f_X2_fetchFrom k1 a2 S = some r) : zU l yX2_fetchFrom wsX2_fetchFrom (zRm 0 0) D (zty cI cZ) zNw (wC cI q ad) [.ref (ad 2), .ref (ad k1), .int a2] S r := by
  refine zU_of (cc := cX2_fetchFrom) (maxL := 4)  (by decide +kernel) rfl (Nat.le_of_ble_eq_true rfl) zNw_ok (fun E hE1 hE2 C0 hR => ?_)
  subst hE1; subst hE2
  replace C0 : zCx E (zRm 0 0) cX2_fetchFrom 4 RX2 wsX2_fetchFrom (zty cI cZ) zNw := C0
  show zV E (wC cI q ad) 4 S 0 [(0, .ref (ad 2)), (1, .ref (ad k1)), (2, .int a2)] []
  delta f_X2_fetchFrom at h
  refine zV_iload_n (n := 1) C0 2 dX2_fetchFrom_0 rfl rfl ?_
  refine zV_iconst (n := 2) (v := (4 : Int32)) C0 dX2_fetchFrom_1 rfl rfl ?_
  refine zV_imul (n := 3) C0 dX2_fetchFrom_2  rfl ?_
  refine zV_topi (fun x3_1 ex3_1 => ?_)
  replace h := zlet_of ex3_1 h
  clear ex3_1
  refine zV_istore_n (n := 4) C0 [(3, .int x3_1), (0, .ref (ad 2)), (1, .ref (ad k1)), (2, .int a2)] dX2_fetchFrom_3 rfl rfl (Nat.le_of_ble_eq_true rfl) rfl ?_
  refine zV_iload_n (n := 5) C0 0 dX2_fetchFrom_4 rfl rfl ?_
  refine zjoin_of h (fun k_3 hk_3 h => ?_)
  have Jk_3 : ∀ (S_2 : zS), k_3 (S_2) = some r → zV E (wC cI q ad) 4 S_2 50 [] [] := by
    intro S_2 h
    replace h := hk_3 _ h
    exact zretU hR h dX2_fetchFrom_50
  clear hk_3
  refine zV_if_lt (tgt := 50) (n := 8) C0 dX2_fetchFrom_5 rfl rfl (fun hb_13 => ?_) (fun hb_13 => ?_)
  · replace h := if_t hb_13 h
    refine zV_sub [] rfl ?_
    exact Jk_3 S h
  · replace h := if_f hb_13 h
    refine zV_iload_n (n := 9) C0 0 dX2_fetchFrom_8 rfl rfl ?_
    refine zV_aload_n (n := 10) C0 2 dX2_fetchFrom_9 rfl rfl ?_
    refine zV_alen (n := 11) C0 (k1 + 1) 0 (wC_at cI q ad S hk1) rfl rfl dX2_fetchFrom_10 rfl ?_
    refine zV_iconst (n := 12) (v := (4 : Int32)) C0 dX2_fetchFrom_11 rfl rfl ?_
    refine zV_isub (n := 13) C0 dX2_fetchFrom_12  rfl ?_
    refine zV_icmp_gt (tgt := 50) (n := 16) C0 dX2_fetchFrom_13 rfl rfl (fun hb_12 => ?_) (fun hb_12 => ?_)
    · replace h := if_t hb_12 h
      refine zV_sub [] rfl ?_
      exact Jk_3 S h
    · replace h := if_f hb_12 h
      refine zV_aload_n (n := 17) C0 1 dX2_fetchFrom_16 rfl rfl ?_
      refine zV_aload_n (n := 18) C0 2 dX2_fetchFrom_17 rfl rfl ?_
      refine zV_iload_n (n := 19) C0 0 dX2_fetchFrom_18 rfl rfl ?_
      obtain ⟨hg_4, h⟩ := gd_of h
      refine zV_iald (n := 20) C0 (k1 + 1) 0 (wC_at cI q ad S hk1) rfl hg_4 dX2_fetchFrom_19 rfl ?_
      refine zV_put (n := 23) (ref := RX2) C0 hinX2_fetchFrom_X2 3 rfl rfl 0 (Nat.le_of_ble_eq_true rfl) mX2_fetchFrom_0 rfl tyX2 tyX2_ok nmX2 rfl (tyX2_ok 0 (Nat.le_of_ble_eq_true rfl)) rfl rfl (Nat.le_of_ble_eq_true rfl) (upd S.1 15 (S.2.2 k1 (x3_1).toNatClampNeg), S.2) (wC_f15 cI q ad S (S.2.2 k1 (x3_1).toNatClampNeg)) dX2_fetchFrom_20 rfl ?_
      refine zV_topS (fun S_5 eS_5 => ?_)
      replace h := zlet_of eS_5 h
      clear eS_5
      refine zV_aload_n (n := 24) C0 1 dX2_fetchFrom_23 rfl rfl ?_
      refine zV_aload_n (n := 25) C0 2 dX2_fetchFrom_24 rfl rfl ?_
      refine zV_iload_n (n := 26) C0 0 dX2_fetchFrom_25 rfl rfl ?_
      refine zV_iconst (n := 27) (v := (1 : Int32)) C0 dX2_fetchFrom_26 rfl rfl ?_
      refine zV_iadd (n := 28) C0 dX2_fetchFrom_27  rfl ?_
      obtain ⟨hg_6, h⟩ := gd_of h
      refine zV_iald (n := 29) C0 (k1 + 1) 0 (wC_at cI q ad S_5 hk1) rfl hg_6 dX2_fetchFrom_28 rfl ?_
      refine zV_put (n := 32) (ref := RX2) C0 hinX2_fetchFrom_X2 3 rfl rfl 1 (Nat.le_of_ble_eq_true rfl) mX2_fetchFrom_1 rfl tyX2 tyX2_ok nmX2 rfl (tyX2_ok 1 (Nat.le_of_ble_eq_true rfl)) rfl rfl (Nat.le_of_ble_eq_true rfl) (upd S_5.1 16 (S_5.2.2 k1 ((x3_1 + (1 : Int32))).toNatClampNeg), S_5.2) (wC_f16 cI q ad S_5 (S_5.2.2 k1 ((x3_1 + (1 : Int32))).toNatClampNeg)) dX2_fetchFrom_29 rfl ?_
      refine zV_topS (fun S_7 eS_7 => ?_)
      replace h := zlet_of eS_7 h
      clear eS_7
      refine zV_aload_n (n := 33) C0 1 dX2_fetchFrom_32 rfl rfl ?_
      refine zV_aload_n (n := 34) C0 2 dX2_fetchFrom_33 rfl rfl ?_
      refine zV_iload_n (n := 35) C0 0 dX2_fetchFrom_34 rfl rfl ?_
      refine zV_iconst (n := 36) (v := (2 : Int32)) C0 dX2_fetchFrom_35 rfl rfl ?_
      refine zV_iadd (n := 37) C0 dX2_fetchFrom_36  rfl ?_
      obtain ⟨hg_8, h⟩ := gd_of h
      refine zV_iald (n := 38) C0 (k1 + 1) 0 (wC_at cI q ad S_7 hk1) rfl hg_8 dX2_fetchFrom_37 rfl ?_
      refine zV_put (n := 41) (ref := RX2) C0 hinX2_fetchFrom_X2 3 rfl rfl 2 (Nat.le_of_ble_eq_true rfl) mX2_fetchFrom_2 rfl tyX2 tyX2_ok nmX2 rfl (tyX2_ok 2 (Nat.le_of_ble_eq_true rfl)) rfl rfl (Nat.le_of_ble_eq_true rfl) (upd S_7.1 17 (S_7.2.2 k1 ((x3_1 + (2 : Int32))).toNatClampNeg), S_7.2) (wC_f17 cI q ad S_7 (S_7.2.2 k1 ((x3_1 + (2 : Int32))).toNatClampNeg)) dX2_fetchFrom_38 rfl ?_
      refine zV_topS (fun S_9 eS_9 => ?_)
      replace h := zlet_of eS_9 h
      clear eS_9
      refine zV_aload_n (n := 42) C0 1 dX2_fetchFrom_41 rfl rfl ?_
      refine zV_aload_n (n := 43) C0 2 dX2_fetchFrom_42 rfl rfl ?_
      refine zV_iload_n (n := 44) C0 0 dX2_fetchFrom_43 rfl rfl ?_
      refine zV_iconst (n := 45) (v := (3 : Int32)) C0 dX2_fetchFrom_44 rfl rfl ?_
      refine zV_iadd (n := 46) C0 dX2_fetchFrom_45  rfl ?_
      obtain ⟨hg_10, h⟩ := gd_of h
      refine zV_iald (n := 47) C0 (k1 + 1) 0 (wC_at cI q ad S_9 hk1) rfl hg_10 dX2_fetchFrom_46 rfl ?_
      refine zV_put (n := 50) (ref := RX2) C0 hinX2_fetchFrom_X2 3 rfl rfl 3 (Nat.le_of_ble_eq_true rfl) mX2_fetchFrom_3 rfl tyX2 tyX2_ok nmX2 rfl (tyX2_ok 3 (Nat.le_of_ble_eq_true rfl)) rfl rfl (Nat.le_of_ble_eq_true rfl) (upd S_9.1 18 (S_9.2.2 k1 ((x3_1 + (3 : Int32))).toNatClampNeg), S_9.2) (wC_f18 cI q ad S_9 (S_9.2.2 k1 ((x3_1 + (3 : Int32))).toNatClampNeg)) dX2_fetchFrom_47 rfl ?_
      refine zV_topS (fun S_11 eS_11 => ?_)
      replace h := zlet_of eS_11 h
      clear eS_11
      refine zV_sub [] rfl ?_
      exact Jk_3 S_11 h
set_option maxRecDepth 20000 in
theorem mX0_takeBack_0 : Cond.fieldLink RX0 17 "LeggedThrough$Acts" "many" "I" ∈ wsX0_takeBack := by decide +kernel
set_option maxRecDepth 20000 in
theorem mX0_takeBack_1 : Cond.fieldLink RX0 11 "LeggedThrough$Acts" "ring" "[I" ∈ wsX0_takeBack := by decide +kernel
set_option maxRecDepth 20000 in
theorem mX0_takeBack_2 : Cond.fieldLink RX0 21 "LeggedThrough$Acts" "first" "I" ∈ wsX0_takeBack := by decide +kernel
set_option maxRecDepth 20000 in
theorem hinX0_takeBack_X0 : ∀ w ∈ u_ws RX0 TX0 3, w ∈ wsX0_takeBack := fun w h => List.mem_cons_of_mem _ (List.mem_append_left _ (List.mem_append_right _ h))
set_option maxRecDepth 20000 in
set_option maxHeartbeats 4000000 in
theorem k_X0_takeBack {l : Launch} {D : va_G} {cI cZ : ClassId} {q : Nat} {ad : Nat → Nat}   (S : zS) (r : zS) (h : f_X0_takeBack  S = some r) : zU l yX0_takeBack wsX0_takeBack (zRm 1 23) D (zty cI cZ) zNw (wC cI q ad) [.ref (ad 3), .ref (ad 2)] S r := by
  refine zU_of (cc := cX0_takeBack) (maxL := 2)  (by decide +kernel) rfl (Nat.le_of_ble_eq_true rfl) zNw_ok (fun E hE1 hE2 C0 hR => ?_)
  subst hE1; subst hE2
  replace C0 : zCx E (zRm 1 23) cX0_takeBack 2 RX0 wsX0_takeBack (zty cI cZ) zNw := C0
  show zV E (wC cI q ad) 2 S 0 [(0, .ref (ad 3)), (1, .ref (ad 2))] []
  delta f_X0_takeBack at h
  refine zV_aload_n (n := 1) C0 0 dX0_takeBack_0 rfl rfl ?_
  refine zV_dup (n := 2) C0 dX0_takeBack_1 rfl rfl ?_
  refine zV_get (n := 5) (ref := RX0) C0 hinX0_takeBack_X0 4 rfl rfl 2 (Nat.le_of_ble_eq_true rfl) mX0_takeBack_0 rfl rfl dX0_takeBack_2 rfl ?_
  refine zV_iconst (n := 6) (v := (1 : Int32)) C0 dX0_takeBack_5 rfl rfl ?_
  refine zV_isub (n := 7) C0 dX0_takeBack_6  rfl ?_
  refine zV_put (n := 10) (ref := RX0) C0 hinX0_takeBack_X0 4 rfl rfl 2 (Nat.le_of_ble_eq_true rfl) mX0_takeBack_0 rfl tyX0 tyX0_ok nmX0 rfl (tyX0_ok 2 (Nat.le_of_ble_eq_true rfl)) rfl rfl (Nat.le_of_ble_eq_true rfl) (upd S.1 20 ((S.1 20) - (1 : Int32)), S.2) (wC_f20 cI q ad S ((S.1 20) - (1 : Int32))) dX0_takeBack_7 rfl ?_
  refine zV_topS (fun S_1 eS_1 => ?_)
  replace h := zlet_of eS_1 h
  clear eS_1
  refine zV_aload_n (n := 11) C0 1 dX0_takeBack_10 rfl rfl ?_
  refine zV_aload_n (n := 12) C0 0 dX0_takeBack_11 rfl rfl ?_
  refine zV_get (n := 15) (ref := RX0) C0 hinX0_takeBack_X0 4 rfl rfl 0 (Nat.le_of_ble_eq_true rfl) mX0_takeBack_1 rfl rfl dX0_takeBack_12 rfl ?_
  refine zV_aload_n (n := 16) C0 0 dX0_takeBack_15 rfl rfl ?_
  refine zV_get (n := 19) (ref := RX0) C0 hinX0_takeBack_X0 4 rfl rfl 1 (Nat.le_of_ble_eq_true rfl) mX0_takeBack_2 rfl rfl dX0_takeBack_16 rfl ?_
  refine zV_aload_n (n := 20) C0 0 dX0_takeBack_19 rfl rfl ?_
  refine zV_get (n := 23) (ref := RX0) C0 hinX0_takeBack_X0 4 rfl rfl 2 (Nat.le_of_ble_eq_true rfl) mX0_takeBack_0 rfl rfl dX0_takeBack_20 rfl ?_
  refine zV_iadd (n := 24) C0 dX0_takeBack_23  rfl ?_
  refine zV_bipush (n := 26) (v := (14 : Int32)) C0 dX0_takeBack_24 rfl rfl ?_
  refine zV_irem (n := 27) C0 dX0_takeBack_26 (by decide) rfl ?_
  obtain ⟨S_3, hc_2, h⟩ := ob_of h
  refine zV_callVU (n := 30) (st := []) (As := [.ref (ad 7), .int (zrem ((S_1.1 19) + (S_1.1 20)) (14 : Int32))]) C0 (k_X2_fetchFrom 7 (zrem ((S_1.1 19) + (S_1.1 20)) (14 : Int32)) (by decide) S_1 _ hc_2) gX0_takeBack_X2_fetchFrom rfl (hd_X2_fetchFrom) rfl ⟨rfl, rfl⟩ ⟨Nat.le_of_ble_eq_true rfl, Nat.le_of_ble_eq_true rfl⟩ 3 rfl rfl rfl (Nat.le_of_ble_eq_true rfl) dX0_takeBack_27 rfl ?_
  exact zretU hR h dX0_takeBack_30
set_option maxRecDepth 20000 in
theorem mX1_layOut_0 : Cond.fieldLink RX1 7 "LeggedThrough$Plan" "steps" "I" ∈ wsX1_layOut := by decide +kernel
set_option maxRecDepth 20000 in
theorem mX1_layOut_1 : Cond.fieldLink RX1 13 "LeggedThrough$Plan" "leggers" "I" ∈ wsX1_layOut := by decide +kernel
set_option maxRecDepth 20000 in
theorem mX1_layOut_2 : Cond.fieldLink RX1 16 "LeggedThrough$Plan" "boats" "I" ∈ wsX1_layOut := by decide +kernel
set_option maxRecDepth 20000 in
theorem mX1_layOut_3 : Cond.fieldLink RX1 19 "LeggedThrough$Plan" "kinds" "I" ∈ wsX1_layOut := by decide +kernel
set_option maxRecDepth 20000 in
theorem mX1_layOut_4 : Cond.fieldLink RX1 22 "LeggedThrough$Plan" "loads" "I" ∈ wsX1_layOut := by decide +kernel
set_option maxRecDepth 20000 in
theorem hinX1_layOut_X1 : ∀ w ∈ u_ws RX1 TX1 5, w ∈ wsX1_layOut := fun w h => List.mem_cons_of_mem _ (List.mem_append_right _ h)
set_option maxRecDepth 20000 in
set_option maxHeartbeats 4000000 in
theorem k_X1_layOut {l : Launch} {D : va_G} {cI cZ : ClassId} {q : Nat} {ad : Nat → Nat} (a1 : Int32)  (S : zS) (r : zS) (h : f_X1_layOut a1 S = some r) : zU l yX1_layOut wsX1_layOut (zRm 0 0) D (zty cI cZ) zNw (wC cI q ad) [.ref (ad 1), .int a1] S r := by
  refine zU_of (cc := cX1_layOut) (maxL := 2)  (by decide +kernel) rfl (Nat.le_of_ble_eq_true rfl) zNw_ok (fun E hE1 hE2 C0 hR => ?_)
  subst hE1; subst hE2
  replace C0 : zCx E (zRm 0 0) cX1_layOut 2 RX1 wsX1_layOut (zty cI cZ) zNw := C0
  show zV E (wC cI q ad) 2 S 0 [(0, .ref (ad 1)), (1, .int a1)] []
  delta f_X1_layOut at h
  refine zV_aload_n (n := 1) C0 0 dX1_layOut_0 rfl rfl ?_
  refine zV_iload_n (n := 2) C0 1 dX1_layOut_1 rfl rfl ?_
  refine zV_put (n := 5) (ref := RX1) C0 hinX1_layOut_X1 2 rfl rfl 0 (Nat.le_of_ble_eq_true rfl) mX1_layOut_0 rfl tyX1 tyX1_ok nmX1 rfl (tyX1_ok 0 (Nat.le_of_ble_eq_true rfl)) rfl rfl (Nat.le_of_ble_eq_true rfl) (upd S.1 10 a1, S.2) (wC_f10 cI q ad S a1) dX1_layOut_2 rfl ?_
  refine zV_topS (fun S_1 eS_1 => ?_)
  replace h := zlet_of eS_1 h
  clear eS_1
  refine zV_aload_n (n := 6) C0 0 dX1_layOut_5 rfl rfl ?_
  refine zV_iconst (n := 7) (v := (0 : Int32)) C0 dX1_layOut_6 rfl rfl ?_
  refine zV_put (n := 10) (ref := RX1) C0 hinX1_layOut_X1 2 rfl rfl 1 (Nat.le_of_ble_eq_true rfl) mX1_layOut_1 rfl tyX1 tyX1_ok nmX1 rfl (tyX1_ok 1 (Nat.le_of_ble_eq_true rfl)) rfl rfl (Nat.le_of_ble_eq_true rfl) (upd S_1.1 11 (0 : Int32), S_1.2) (wC_f11 cI q ad S_1 (0 : Int32)) dX1_layOut_7 rfl ?_
  refine zV_topS (fun S_2 eS_2 => ?_)
  replace h := zlet_of eS_2 h
  clear eS_2
  refine zV_aload_n (n := 11) C0 0 dX1_layOut_10 rfl rfl ?_
  refine zV_iconst (n := 12) (v := (0 : Int32)) C0 dX1_layOut_11 rfl rfl ?_
  refine zV_put (n := 15) (ref := RX1) C0 hinX1_layOut_X1 2 rfl rfl 2 (Nat.le_of_ble_eq_true rfl) mX1_layOut_2 rfl tyX1 tyX1_ok nmX1 rfl (tyX1_ok 2 (Nat.le_of_ble_eq_true rfl)) rfl rfl (Nat.le_of_ble_eq_true rfl) (upd S_2.1 12 (0 : Int32), S_2.2) (wC_f12 cI q ad S_2 (0 : Int32)) dX1_layOut_12 rfl ?_
  refine zV_topS (fun S_3 eS_3 => ?_)
  replace h := zlet_of eS_3 h
  clear eS_3
  refine zV_aload_n (n := 16) C0 0 dX1_layOut_15 rfl rfl ?_
  refine zV_iconst (n := 17) (v := (0 : Int32)) C0 dX1_layOut_16 rfl rfl ?_
  refine zV_put (n := 20) (ref := RX1) C0 hinX1_layOut_X1 2 rfl rfl 3 (Nat.le_of_ble_eq_true rfl) mX1_layOut_3 rfl tyX1 tyX1_ok nmX1 rfl (tyX1_ok 3 (Nat.le_of_ble_eq_true rfl)) rfl rfl (Nat.le_of_ble_eq_true rfl) (upd S_3.1 13 (0 : Int32), S_3.2) (wC_f13 cI q ad S_3 (0 : Int32)) dX1_layOut_17 rfl ?_
  refine zV_topS (fun S_4 eS_4 => ?_)
  replace h := zlet_of eS_4 h
  clear eS_4
  refine zV_aload_n (n := 21) C0 0 dX1_layOut_20 rfl rfl ?_
  refine zV_iconst (n := 22) (v := (0 : Int32)) C0 dX1_layOut_21 rfl rfl ?_
  refine zV_put (n := 25) (ref := RX1) C0 hinX1_layOut_X1 2 rfl rfl 4 (Nat.le_of_ble_eq_true rfl) mX1_layOut_4 rfl tyX1 tyX1_ok nmX1 rfl (tyX1_ok 4 (Nat.le_of_ble_eq_true rfl)) rfl rfl (Nat.le_of_ble_eq_true rfl) (upd S_4.1 14 (0 : Int32), S_4.2) (wC_f14 cI q ad S_4 (0 : Int32)) dX1_layOut_22 rfl ?_
  refine zV_topS (fun S_5 eS_5 => ?_)
  replace h := zlet_of eS_5 h
  clear eS_5
  exact zretU hR h dX1_layOut_25
set_option maxRecDepth 20000 in
theorem mX1_addLegger_0 : Cond.fieldLink RX1 19 "LeggedThrough$Plan" "kinds" "I" ∈ wsX1_addLegger := by decide +kernel
set_option maxRecDepth 20000 in
theorem mX1_addLegger_1 : Cond.fieldLink RX1 13 "LeggedThrough$Plan" "leggers" "I" ∈ wsX1_addLegger := by decide +kernel
set_option maxRecDepth 20000 in
theorem hinX1_addLegger_X1 : ∀ w ∈ u_ws RX1 TX1 5, w ∈ wsX1_addLegger := fun w h => List.mem_cons_of_mem _ (List.mem_append_right _ h)
set_option maxRecDepth 20000 in
set_option maxHeartbeats 4000000 in
theorem k_X1_addLegger {l : Launch} {D : va_G} {cI cZ : ClassId} {q : Nat} {ad : Nat → Nat} (a1 : Int32)  (S : zS) (r : zS) (h : f_X1_addLegger a1 S = some r) : zU l yX1_addLegger wsX1_addLegger (zRm 0 0) D (zty cI cZ) zNw (wC cI q ad) [.ref (ad 1), .int a1] S r := by
  refine zU_of (cc := cX1_addLegger) (maxL := 2)  (by decide +kernel) rfl (Nat.le_of_ble_eq_true rfl) zNw_ok (fun E hE1 hE2 C0 hR => ?_)
  subst hE1; subst hE2
  replace C0 : zCx E (zRm 0 0) cX1_addLegger 2 RX1 wsX1_addLegger (zty cI cZ) zNw := C0
  show zV E (wC cI q ad) 2 S 0 [(0, .ref (ad 1)), (1, .int a1)] []
  delta f_X1_addLegger at h
  refine zV_aload_n (n := 1) C0 0 dX1_addLegger_0 rfl rfl ?_
  refine zV_dup (n := 2) C0 dX1_addLegger_1 rfl rfl ?_
  refine zV_get (n := 5) (ref := RX1) C0 hinX1_addLegger_X1 2 rfl rfl 3 (Nat.le_of_ble_eq_true rfl) mX1_addLegger_0 rfl rfl dX1_addLegger_2 rfl ?_
  refine zV_iload_n (n := 6) C0 1 dX1_addLegger_5 rfl rfl ?_
  refine zV_iconst (n := 7) (v := (2 : Int32)) C0 dX1_addLegger_6 rfl rfl ?_
  refine zV_aload_n (n := 8) C0 0 dX1_addLegger_7 rfl rfl ?_
  refine zV_get (n := 11) (ref := RX1) C0 hinX1_addLegger_X1 2 rfl rfl 1 (Nat.le_of_ble_eq_true rfl) mX1_addLegger_1 rfl rfl dX1_addLegger_8 rfl ?_
  refine zV_imul (n := 12) C0 dX1_addLegger_11  rfl ?_
  refine zV_ishl (n := 13) C0 dX1_addLegger_12  rfl ?_
  refine zV_ior (n := 14) C0 dX1_addLegger_13  rfl ?_
  refine zV_put (n := 17) (ref := RX1) C0 hinX1_addLegger_X1 2 rfl rfl 3 (Nat.le_of_ble_eq_true rfl) mX1_addLegger_0 rfl tyX1 tyX1_ok nmX1 rfl (tyX1_ok 3 (Nat.le_of_ble_eq_true rfl)) rfl rfl (Nat.le_of_ble_eq_true rfl) (upd S.1 13 ((S.1 13) ||| (zshl a1 ((2 : Int32) * (S.1 11)))), S.2) (wC_f13 cI q ad S ((S.1 13) ||| (zshl a1 ((2 : Int32) * (S.1 11))))) dX1_addLegger_14 rfl ?_
  refine zV_topS (fun S_1 eS_1 => ?_)
  replace h := zlet_of eS_1 h
  clear eS_1
  refine zV_aload_n (n := 18) C0 0 dX1_addLegger_17 rfl rfl ?_
  refine zV_dup (n := 19) C0 dX1_addLegger_18 rfl rfl ?_
  refine zV_get (n := 22) (ref := RX1) C0 hinX1_addLegger_X1 2 rfl rfl 1 (Nat.le_of_ble_eq_true rfl) mX1_addLegger_1 rfl rfl dX1_addLegger_19 rfl ?_
  refine zV_iconst (n := 23) (v := (1 : Int32)) C0 dX1_addLegger_22 rfl rfl ?_
  refine zV_iadd (n := 24) C0 dX1_addLegger_23  rfl ?_
  refine zV_put (n := 27) (ref := RX1) C0 hinX1_addLegger_X1 2 rfl rfl 1 (Nat.le_of_ble_eq_true rfl) mX1_addLegger_1 rfl tyX1 tyX1_ok nmX1 rfl (tyX1_ok 1 (Nat.le_of_ble_eq_true rfl)) rfl rfl (Nat.le_of_ble_eq_true rfl) (upd S_1.1 11 ((S_1.1 11) + (1 : Int32)), S_1.2) (wC_f11 cI q ad S_1 ((S_1.1 11) + (1 : Int32))) dX1_addLegger_24 rfl ?_
  refine zV_topS (fun S_2 eS_2 => ?_)
  replace h := zlet_of eS_2 h
  clear eS_2
  exact zretU hR h dX1_addLegger_27
set_option maxRecDepth 20000 in
theorem mX1_addBoat_0 : Cond.fieldLink RX1 22 "LeggedThrough$Plan" "loads" "I" ∈ wsX1_addBoat := by decide +kernel
set_option maxRecDepth 20000 in
theorem mX1_addBoat_1 : Cond.fieldLink RX1 16 "LeggedThrough$Plan" "boats" "I" ∈ wsX1_addBoat := by decide +kernel
set_option maxRecDepth 20000 in
theorem hinX1_addBoat_X1 : ∀ w ∈ u_ws RX1 TX1 5, w ∈ wsX1_addBoat := fun w h => List.mem_cons_of_mem _ (List.mem_append_right _ h)
set_option maxRecDepth 20000 in
set_option maxHeartbeats 4000000 in
theorem k_X1_addBoat {l : Launch} {D : va_G} {cI cZ : ClassId} {q : Nat} {ad : Nat → Nat} (a1 : Int32)  (S : zS) (r : zS) (h : f_X1_addBoat a1 S = some r) : zU l yX1_addBoat wsX1_addBoat (zRm 0 0) D (zty cI cZ) zNw (wC cI q ad) [.ref (ad 1), .int a1] S r := by
  refine zU_of (cc := cX1_addBoat) (maxL := 2)  (by decide +kernel) rfl (Nat.le_of_ble_eq_true rfl) zNw_ok (fun E hE1 hE2 C0 hR => ?_)
  subst hE1; subst hE2
  replace C0 : zCx E (zRm 0 0) cX1_addBoat 2 RX1 wsX1_addBoat (zty cI cZ) zNw := C0
  show zV E (wC cI q ad) 2 S 0 [(0, .ref (ad 1)), (1, .int a1)] []
  delta f_X1_addBoat at h
  refine zV_aload_n (n := 1) C0 0 dX1_addBoat_0 rfl rfl ?_
  refine zV_dup (n := 2) C0 dX1_addBoat_1 rfl rfl ?_
  refine zV_get (n := 5) (ref := RX1) C0 hinX1_addBoat_X1 2 rfl rfl 4 (Nat.le_of_ble_eq_true rfl) mX1_addBoat_0 rfl rfl dX1_addBoat_2 rfl ?_
  refine zV_iload_n (n := 6) C0 1 dX1_addBoat_5 rfl rfl ?_
  refine zV_iconst (n := 7) (v := (4 : Int32)) C0 dX1_addBoat_6 rfl rfl ?_
  refine zV_aload_n (n := 8) C0 0 dX1_addBoat_7 rfl rfl ?_
  refine zV_get (n := 11) (ref := RX1) C0 hinX1_addBoat_X1 2 rfl rfl 2 (Nat.le_of_ble_eq_true rfl) mX1_addBoat_1 rfl rfl dX1_addBoat_8 rfl ?_
  refine zV_imul (n := 12) C0 dX1_addBoat_11  rfl ?_
  refine zV_ishl (n := 13) C0 dX1_addBoat_12  rfl ?_
  refine zV_ior (n := 14) C0 dX1_addBoat_13  rfl ?_
  refine zV_put (n := 17) (ref := RX1) C0 hinX1_addBoat_X1 2 rfl rfl 4 (Nat.le_of_ble_eq_true rfl) mX1_addBoat_0 rfl tyX1 tyX1_ok nmX1 rfl (tyX1_ok 4 (Nat.le_of_ble_eq_true rfl)) rfl rfl (Nat.le_of_ble_eq_true rfl) (upd S.1 14 ((S.1 14) ||| (zshl a1 ((4 : Int32) * (S.1 12)))), S.2) (wC_f14 cI q ad S ((S.1 14) ||| (zshl a1 ((4 : Int32) * (S.1 12))))) dX1_addBoat_14 rfl ?_
  refine zV_topS (fun S_1 eS_1 => ?_)
  replace h := zlet_of eS_1 h
  clear eS_1
  refine zV_aload_n (n := 18) C0 0 dX1_addBoat_17 rfl rfl ?_
  refine zV_dup (n := 19) C0 dX1_addBoat_18 rfl rfl ?_
  refine zV_get (n := 22) (ref := RX1) C0 hinX1_addBoat_X1 2 rfl rfl 2 (Nat.le_of_ble_eq_true rfl) mX1_addBoat_1 rfl rfl dX1_addBoat_19 rfl ?_
  refine zV_iconst (n := 23) (v := (1 : Int32)) C0 dX1_addBoat_22 rfl rfl ?_
  refine zV_iadd (n := 24) C0 dX1_addBoat_23  rfl ?_
  refine zV_put (n := 27) (ref := RX1) C0 hinX1_addBoat_X1 2 rfl rfl 2 (Nat.le_of_ble_eq_true rfl) mX1_addBoat_1 rfl tyX1 tyX1_ok nmX1 rfl (tyX1_ok 2 (Nat.le_of_ble_eq_true rfl)) rfl rfl (Nat.le_of_ble_eq_true rfl) (upd S_1.1 12 ((S_1.1 12) + (1 : Int32)), S_1.2) (wC_f12 cI q ad S_1 ((S_1.1 12) + (1 : Int32))) dX1_addBoat_24 rfl ?_
  refine zV_topS (fun S_2 eS_2 => ?_)
  replace h := zlet_of eS_2 h
  clear eS_2
  exact zretU hR h dX1_addBoat_27
set_option maxRecDepth 20000 in
theorem mX1_hasLegger_0 : Cond.fieldLink RX1 13 "LeggedThrough$Plan" "leggers" "I" ∈ wsX1_hasLegger := by decide +kernel
set_option maxRecDepth 20000 in
theorem hinX1_hasLegger_X1 : ∀ w ∈ u_ws RX1 TX1 5, w ∈ wsX1_hasLegger := fun w h => List.mem_cons_of_mem _ (List.mem_append_right _ h)
set_option maxRecDepth 20000 in
set_option maxHeartbeats 4000000 in
theorem k_X1_hasLegger {l : Launch} {D : va_G} {cI cZ : ClassId} {q : Nat} {ad : Nat → Nat} (a1 : Int32)  (S : zS) (r : Int32) (h : f_X1_hasLegger a1 S = some r) : zI l yX1_hasLegger wsX1_hasLegger (zRm 0 0) D (zty cI cZ) zNw (wC cI q ad) [.ref (ad 1), .int a1] S (r, S) := by
  refine zI_of (cc := cX1_hasLegger) (maxL := 2) (ty := .boolean) (by decide +kernel) rfl (Nat.le_of_ble_eq_true rfl) zNw_ok (fun E hE1 hE2 C0 hR => ?_)
  subst hE1; subst hE2
  replace C0 : zCx E (zRm 0 0) cX1_hasLegger 2 RX1 wsX1_hasLegger (zty cI cZ) zNw := C0
  show zV E (wC cI q ad) 2 S 0 [(0, .ref (ad 1)), (1, .int a1)] []
  delta f_X1_hasLegger at h
  refine zV_iload_n (n := 1) C0 1 dX1_hasLegger_0 rfl rfl ?_
  refine zjoin_of h (fun k_2 hk_2 h => ?_)
  have Jk_2 : ∀ (s_1 : Int32), k_2 (s_1) = some r → zV E (wC cI q ad) 2 S 17 [] [.int s_1] := by
    intro s_1 h
    replace h := hk_2 _ h
    obtain ⟨hz, h⟩ := gd_of h
    exact zretI1 hR h (znz hz) dX1_hasLegger_17
  clear hk_2
  refine zjoin_of h (fun k_3 hk_3 h => ?_)
  have Jk_3 : k_3 () = some r → zV E (wC cI q ad) 2 S 16 [] [] := by
    intro  h
    replace h := hk_3 _ h
    refine zV_iconst (n := 17) (v := (0 : Int32)) C0 dX1_hasLegger_16 rfl rfl ?_
    exact Jk_2 (0 : Int32) h
  clear hk_3
  refine zV_if_lt (tgt := 16) (n := 4) C0 dX1_hasLegger_1 rfl rfl (fun hb_5 => ?_) (fun hb_5 => ?_)
  · replace h := if_t hb_5 h
    refine zV_sub [] rfl ?_
    exact Jk_3  h
  · replace h := if_f hb_5 h
    refine zV_iload_n (n := 5) C0 1 dX1_hasLegger_4 rfl rfl ?_
    refine zV_aload_n (n := 6) C0 0 dX1_hasLegger_5 rfl rfl ?_
    refine zV_get (n := 9) (ref := RX1) C0 hinX1_hasLegger_X1 2 rfl rfl 1 (Nat.le_of_ble_eq_true rfl) mX1_hasLegger_0 rfl rfl dX1_hasLegger_6 rfl ?_
    refine zV_icmp_ge (tgt := 16) (n := 12) C0 dX1_hasLegger_9 rfl rfl (fun hb_4 => ?_) (fun hb_4 => ?_)
    · replace h := if_t hb_4 h
      refine zV_sub [] rfl ?_
      exact Jk_3  h
    · replace h := if_f hb_4 h
      refine zV_iconst (n := 13) (v := (1 : Int32)) C0 dX1_hasLegger_12 rfl rfl ?_
      refine zV_goto (tgt := 17) C0 dX1_hasLegger_13 rfl ?_
      refine zV_sub [] rfl ?_
      exact Jk_2 (1 : Int32) h
set_option maxRecDepth 20000 in
theorem mX1_hasBoat_0 : Cond.fieldLink RX1 16 "LeggedThrough$Plan" "boats" "I" ∈ wsX1_hasBoat := by decide +kernel
set_option maxRecDepth 20000 in
theorem hinX1_hasBoat_X1 : ∀ w ∈ u_ws RX1 TX1 5, w ∈ wsX1_hasBoat := fun w h => List.mem_cons_of_mem _ (List.mem_append_right _ h)
set_option maxRecDepth 20000 in
set_option maxHeartbeats 4000000 in
theorem k_X1_hasBoat {l : Launch} {D : va_G} {cI cZ : ClassId} {q : Nat} {ad : Nat → Nat} (a1 : Int32)  (S : zS) (r : Int32) (h : f_X1_hasBoat a1 S = some r) : zI l yX1_hasBoat wsX1_hasBoat (zRm 0 0) D (zty cI cZ) zNw (wC cI q ad) [.ref (ad 1), .int a1] S (r, S) := by
  refine zI_of (cc := cX1_hasBoat) (maxL := 2) (ty := .boolean) (by decide +kernel) rfl (Nat.le_of_ble_eq_true rfl) zNw_ok (fun E hE1 hE2 C0 hR => ?_)
  subst hE1; subst hE2
  replace C0 : zCx E (zRm 0 0) cX1_hasBoat 2 RX1 wsX1_hasBoat (zty cI cZ) zNw := C0
  show zV E (wC cI q ad) 2 S 0 [(0, .ref (ad 1)), (1, .int a1)] []
  delta f_X1_hasBoat at h
  refine zV_iload_n (n := 1) C0 1 dX1_hasBoat_0 rfl rfl ?_
  refine zjoin_of h (fun k_2 hk_2 h => ?_)
  have Jk_2 : ∀ (s_1 : Int32), k_2 (s_1) = some r → zV E (wC cI q ad) 2 S 17 [] [.int s_1] := by
    intro s_1 h
    replace h := hk_2 _ h
    obtain ⟨hz, h⟩ := gd_of h
    exact zretI1 hR h (znz hz) dX1_hasBoat_17
  clear hk_2
  refine zjoin_of h (fun k_3 hk_3 h => ?_)
  have Jk_3 : k_3 () = some r → zV E (wC cI q ad) 2 S 16 [] [] := by
    intro  h
    replace h := hk_3 _ h
    refine zV_iconst (n := 17) (v := (0 : Int32)) C0 dX1_hasBoat_16 rfl rfl ?_
    exact Jk_2 (0 : Int32) h
  clear hk_3
  refine zV_if_lt (tgt := 16) (n := 4) C0 dX1_hasBoat_1 rfl rfl (fun hb_5 => ?_) (fun hb_5 => ?_)
  · replace h := if_t hb_5 h
    refine zV_sub [] rfl ?_
    exact Jk_3  h
  · replace h := if_f hb_5 h
    refine zV_iload_n (n := 5) C0 1 dX1_hasBoat_4 rfl rfl ?_
    refine zV_aload_n (n := 6) C0 0 dX1_hasBoat_5 rfl rfl ?_
    refine zV_get (n := 9) (ref := RX1) C0 hinX1_hasBoat_X1 2 rfl rfl 2 (Nat.le_of_ble_eq_true rfl) mX1_hasBoat_0 rfl rfl dX1_hasBoat_6 rfl ?_
    refine zV_icmp_ge (tgt := 16) (n := 12) C0 dX1_hasBoat_9 rfl rfl (fun hb_4 => ?_) (fun hb_4 => ?_)
    · replace h := if_t hb_4 h
      refine zV_sub [] rfl ?_
      exact Jk_3  h
    · replace h := if_f hb_4 h
      refine zV_iconst (n := 13) (v := (1 : Int32)) C0 dX1_hasBoat_12 rfl rfl ?_
      refine zV_goto (tgt := 17) C0 dX1_hasBoat_13 rfl ?_
      refine zV_sub [] rfl ?_
      exact Jk_2 (1 : Int32) h
set_option maxRecDepth 20000 in
theorem mX1_allLeggers_0 : Cond.fieldLink RX1 13 "LeggedThrough$Plan" "leggers" "I" ∈ wsX1_allLeggers := by decide +kernel
set_option maxRecDepth 20000 in
theorem hinX1_allLeggers_X1 : ∀ w ∈ u_ws RX1 TX1 5, w ∈ wsX1_allLeggers := fun w h => List.mem_cons_of_mem _ (List.mem_append_right _ h)
set_option maxRecDepth 20000 in
set_option maxHeartbeats 4000000 in
theorem k_X1_allLeggers {l : Launch} {D : va_G} {cI cZ : ClassId} {q : Nat} {ad : Nat → Nat}   (S : zS) (r : Int32) (h : f_X1_allLeggers  S = some r) : zI l yX1_allLeggers wsX1_allLeggers (zRm 0 0) D (zty cI cZ) zNw (wC cI q ad) [.ref (ad 1)] S (r, S) := by
  refine zI_of (cc := cX1_allLeggers) (maxL := 1) (ty := .int) (by decide +kernel) rfl (Nat.le_of_ble_eq_true rfl) zNw_ok (fun E hE1 hE2 C0 hR => ?_)
  subst hE1; subst hE2
  replace C0 : zCx E (zRm 0 0) cX1_allLeggers 1 RX1 wsX1_allLeggers (zty cI cZ) zNw := C0
  show zV E (wC cI q ad) 1 S 0 [(0, .ref (ad 1))] []
  delta f_X1_allLeggers at h
  refine zV_iconst (n := 1) (v := (1 : Int32)) C0 dX1_allLeggers_0 rfl rfl ?_
  refine zV_aload_n (n := 2) C0 0 dX1_allLeggers_1 rfl rfl ?_
  refine zV_get (n := 5) (ref := RX1) C0 hinX1_allLeggers_X1 2 rfl rfl 1 (Nat.le_of_ble_eq_true rfl) mX1_allLeggers_0 rfl rfl dX1_allLeggers_2 rfl ?_
  refine zV_ishl (n := 6) C0 dX1_allLeggers_5  rfl ?_
  refine zV_iconst (n := 7) (v := (1 : Int32)) C0 dX1_allLeggers_6 rfl rfl ?_
  refine zV_isub (n := 8) C0 dX1_allLeggers_7  rfl ?_
  exact zretI1 hR h rfl dX1_allLeggers_8
set_option maxRecDepth 20000 in
theorem mX1_allBoats_0 : Cond.fieldLink RX1 16 "LeggedThrough$Plan" "boats" "I" ∈ wsX1_allBoats := by decide +kernel
set_option maxRecDepth 20000 in
theorem hinX1_allBoats_X1 : ∀ w ∈ u_ws RX1 TX1 5, w ∈ wsX1_allBoats := fun w h => List.mem_cons_of_mem _ (List.mem_append_right _ h)
set_option maxRecDepth 20000 in
set_option maxHeartbeats 4000000 in
theorem k_X1_allBoats {l : Launch} {D : va_G} {cI cZ : ClassId} {q : Nat} {ad : Nat → Nat}   (S : zS) (r : Int32) (h : f_X1_allBoats  S = some r) : zI l yX1_allBoats wsX1_allBoats (zRm 0 0) D (zty cI cZ) zNw (wC cI q ad) [.ref (ad 1)] S (r, S) := by
  refine zI_of (cc := cX1_allBoats) (maxL := 1) (ty := .int) (by decide +kernel) rfl (Nat.le_of_ble_eq_true rfl) zNw_ok (fun E hE1 hE2 C0 hR => ?_)
  subst hE1; subst hE2
  replace C0 : zCx E (zRm 0 0) cX1_allBoats 1 RX1 wsX1_allBoats (zty cI cZ) zNw := C0
  show zV E (wC cI q ad) 1 S 0 [(0, .ref (ad 1))] []
  delta f_X1_allBoats at h
  refine zV_iconst (n := 1) (v := (1 : Int32)) C0 dX1_allBoats_0 rfl rfl ?_
  refine zV_aload_n (n := 2) C0 0 dX1_allBoats_1 rfl rfl ?_
  refine zV_get (n := 5) (ref := RX1) C0 hinX1_allBoats_X1 2 rfl rfl 2 (Nat.le_of_ble_eq_true rfl) mX1_allBoats_0 rfl rfl dX1_allBoats_2 rfl ?_
  refine zV_ishl (n := 6) C0 dX1_allBoats_5  rfl ?_
  refine zV_iconst (n := 7) (v := (1 : Int32)) C0 dX1_allBoats_6 rfl rfl ?_
  refine zV_isub (n := 8) C0 dX1_allBoats_7  rfl ?_
  exact zretI1 hR h rfl dX1_allBoats_8
set_option maxRecDepth 20000 in
theorem mX1_kindOf_0 : Cond.fieldLink RX1 19 "LeggedThrough$Plan" "kinds" "I" ∈ wsX1_kindOf := by decide +kernel
set_option maxRecDepth 20000 in
theorem hinX1_kindOf_X1 : ∀ w ∈ u_ws RX1 TX1 5, w ∈ wsX1_kindOf := fun w h => List.mem_cons_of_mem _ (List.mem_append_right _ h)
set_option maxRecDepth 20000 in
set_option maxHeartbeats 4000000 in
theorem k_X1_kindOf {l : Launch} {D : va_G} {cI cZ : ClassId} {q : Nat} {ad : Nat → Nat} (a1 : Int32)  (S : zS) (r : Int32) (h : f_X1_kindOf a1 S = some r) : zI l yX1_kindOf wsX1_kindOf (zRm 0 0) D (zty cI cZ) zNw (wC cI q ad) [.ref (ad 1), .int a1] S (r, S) := by
  refine zI_of (cc := cX1_kindOf) (maxL := 2) (ty := .int) (by decide +kernel) rfl (Nat.le_of_ble_eq_true rfl) zNw_ok (fun E hE1 hE2 C0 hR => ?_)
  subst hE1; subst hE2
  replace C0 : zCx E (zRm 0 0) cX1_kindOf 2 RX1 wsX1_kindOf (zty cI cZ) zNw := C0
  show zV E (wC cI q ad) 2 S 0 [(0, .ref (ad 1)), (1, .int a1)] []
  delta f_X1_kindOf at h
  refine zV_aload_n (n := 1) C0 0 dX1_kindOf_0 rfl rfl ?_
  refine zV_get (n := 4) (ref := RX1) C0 hinX1_kindOf_X1 2 rfl rfl 3 (Nat.le_of_ble_eq_true rfl) mX1_kindOf_0 rfl rfl dX1_kindOf_1 rfl ?_
  refine zV_iconst (n := 5) (v := (2 : Int32)) C0 dX1_kindOf_4 rfl rfl ?_
  refine zV_iload_n (n := 6) C0 1 dX1_kindOf_5 rfl rfl ?_
  refine zV_imul (n := 7) C0 dX1_kindOf_6  rfl ?_
  refine zV_iushr (n := 8) C0 dX1_kindOf_7  rfl ?_
  refine zV_iconst (n := 9) (v := (3 : Int32)) C0 dX1_kindOf_8 rfl rfl ?_
  refine zV_iand (n := 10) C0 dX1_kindOf_9  rfl ?_
  exact zretI1 hR h rfl dX1_kindOf_10
set_option maxRecDepth 20000 in
theorem mX1_loadOf_0 : Cond.fieldLink RX1 22 "LeggedThrough$Plan" "loads" "I" ∈ wsX1_loadOf := by decide +kernel
set_option maxRecDepth 20000 in
theorem hinX1_loadOf_X1 : ∀ w ∈ u_ws RX1 TX1 5, w ∈ wsX1_loadOf := fun w h => List.mem_cons_of_mem _ (List.mem_append_right _ h)
set_option maxRecDepth 20000 in
set_option maxHeartbeats 4000000 in
theorem k_X1_loadOf {l : Launch} {D : va_G} {cI cZ : ClassId} {q : Nat} {ad : Nat → Nat} (a1 : Int32)  (S : zS) (r : Int32) (h : f_X1_loadOf a1 S = some r) : zI l yX1_loadOf wsX1_loadOf (zRm 0 0) D (zty cI cZ) zNw (wC cI q ad) [.ref (ad 1), .int a1] S (r, S) := by
  refine zI_of (cc := cX1_loadOf) (maxL := 2) (ty := .int) (by decide +kernel) rfl (Nat.le_of_ble_eq_true rfl) zNw_ok (fun E hE1 hE2 C0 hR => ?_)
  subst hE1; subst hE2
  replace C0 : zCx E (zRm 0 0) cX1_loadOf 2 RX1 wsX1_loadOf (zty cI cZ) zNw := C0
  show zV E (wC cI q ad) 2 S 0 [(0, .ref (ad 1)), (1, .int a1)] []
  delta f_X1_loadOf at h
  refine zV_aload_n (n := 1) C0 0 dX1_loadOf_0 rfl rfl ?_
  refine zV_get (n := 4) (ref := RX1) C0 hinX1_loadOf_X1 2 rfl rfl 4 (Nat.le_of_ble_eq_true rfl) mX1_loadOf_0 rfl rfl dX1_loadOf_1 rfl ?_
  refine zV_iconst (n := 5) (v := (4 : Int32)) C0 dX1_loadOf_4 rfl rfl ?_
  refine zV_iload_n (n := 6) C0 1 dX1_loadOf_5 rfl rfl ?_
  refine zV_imul (n := 7) C0 dX1_loadOf_6  rfl ?_
  refine zV_iushr (n := 8) C0 dX1_loadOf_7  rfl ?_
  refine zV_bipush (n := 10) (v := (15 : Int32)) C0 dX1_loadOf_8 rfl rfl ?_
  refine zV_iand (n := 11) C0 dX1_loadOf_10  rfl ?_
  exact zretI1 hR h rfl dX1_loadOf_11
set_option maxRecDepth 20000 in
theorem mX2_clear_0 : Cond.fieldLink RX2 9 "LeggedThrough$State" "grounds" "I" ∈ wsX2_clear := by decide +kernel
set_option maxRecDepth 20000 in
theorem mX2_clear_1 : Cond.fieldLink RX2 15 "LeggedThrough$State" "tired" "I" ∈ wsX2_clear := by decide +kernel
set_option maxRecDepth 20000 in
theorem mX2_clear_2 : Cond.fieldLink RX2 18 "LeggedThrough$State" "through" "I" ∈ wsX2_clear := by decide +kernel
set_option maxRecDepth 20000 in
theorem mX2_clear_3 : Cond.fieldLink RX2 21 "LeggedThrough$State" "clock" "I" ∈ wsX2_clear := by decide +kernel
set_option maxRecDepth 20000 in
theorem hinX2_clear_X2 : ∀ w ∈ u_ws RX2 TX2 4, w ∈ wsX2_clear := fun w h => List.mem_cons_of_mem _ (List.mem_append_right _ h)
set_option maxRecDepth 20000 in
set_option maxHeartbeats 4000000 in
theorem k_X2_clear {l : Launch} {D : va_G} {cI cZ : ClassId} {q : Nat} {ad : Nat → Nat}   (S : zS) (r : zS) (h : f_X2_clear  S = some r) : zU l yX2_clear wsX2_clear (zRm 0 0) D (zty cI cZ) zNw (wC cI q ad) [.ref (ad 2)] S r := by
  refine zU_of (cc := cX2_clear) (maxL := 1)  (by decide +kernel) rfl (Nat.le_of_ble_eq_true rfl) zNw_ok (fun E hE1 hE2 C0 hR => ?_)
  subst hE1; subst hE2
  replace C0 : zCx E (zRm 0 0) cX2_clear 1 RX2 wsX2_clear (zty cI cZ) zNw := C0
  show zV E (wC cI q ad) 1 S 0 [(0, .ref (ad 2))] []
  delta f_X2_clear at h
  refine zV_aload_n (n := 1) C0 0 dX2_clear_0 rfl rfl ?_
  refine zV_iconst (n := 2) (v := (0 : Int32)) C0 dX2_clear_1 rfl rfl ?_
  refine zV_put (n := 5) (ref := RX2) C0 hinX2_clear_X2 3 rfl rfl 0 (Nat.le_of_ble_eq_true rfl) mX2_clear_0 rfl tyX2 tyX2_ok nmX2 rfl (tyX2_ok 0 (Nat.le_of_ble_eq_true rfl)) rfl rfl (Nat.le_of_ble_eq_true rfl) (upd S.1 15 (0 : Int32), S.2) (wC_f15 cI q ad S (0 : Int32)) dX2_clear_2 rfl ?_
  refine zV_topS (fun S_1 eS_1 => ?_)
  replace h := zlet_of eS_1 h
  clear eS_1
  refine zV_aload_n (n := 6) C0 0 dX2_clear_5 rfl rfl ?_
  refine zV_iconst (n := 7) (v := (0 : Int32)) C0 dX2_clear_6 rfl rfl ?_
  refine zV_put (n := 10) (ref := RX2) C0 hinX2_clear_X2 3 rfl rfl 1 (Nat.le_of_ble_eq_true rfl) mX2_clear_1 rfl tyX2 tyX2_ok nmX2 rfl (tyX2_ok 1 (Nat.le_of_ble_eq_true rfl)) rfl rfl (Nat.le_of_ble_eq_true rfl) (upd S_1.1 16 (0 : Int32), S_1.2) (wC_f16 cI q ad S_1 (0 : Int32)) dX2_clear_7 rfl ?_
  refine zV_topS (fun S_2 eS_2 => ?_)
  replace h := zlet_of eS_2 h
  clear eS_2
  refine zV_aload_n (n := 11) C0 0 dX2_clear_10 rfl rfl ?_
  refine zV_iconst (n := 12) (v := (0 : Int32)) C0 dX2_clear_11 rfl rfl ?_
  refine zV_put (n := 15) (ref := RX2) C0 hinX2_clear_X2 3 rfl rfl 2 (Nat.le_of_ble_eq_true rfl) mX2_clear_2 rfl tyX2 tyX2_ok nmX2 rfl (tyX2_ok 2 (Nat.le_of_ble_eq_true rfl)) rfl rfl (Nat.le_of_ble_eq_true rfl) (upd S_2.1 17 (0 : Int32), S_2.2) (wC_f17 cI q ad S_2 (0 : Int32)) dX2_clear_12 rfl ?_
  refine zV_topS (fun S_3 eS_3 => ?_)
  replace h := zlet_of eS_3 h
  clear eS_3
  refine zV_aload_n (n := 16) C0 0 dX2_clear_15 rfl rfl ?_
  refine zV_iconst (n := 17) (v := (0 : Int32)) C0 dX2_clear_16 rfl rfl ?_
  refine zV_put (n := 20) (ref := RX2) C0 hinX2_clear_X2 3 rfl rfl 3 (Nat.le_of_ble_eq_true rfl) mX2_clear_3 rfl tyX2 tyX2_ok nmX2 rfl (tyX2_ok 3 (Nat.le_of_ble_eq_true rfl)) rfl rfl (Nat.le_of_ble_eq_true rfl) (upd S_3.1 18 (0 : Int32), S_3.2) (wC_f18 cI q ad S_3 (0 : Int32)) dX2_clear_17 rfl ?_
  refine zV_topS (fun S_4 eS_4 => ?_)
  replace h := zlet_of eS_4 h
  clear eS_4
  exact zretU hR h dX2_clear_20
set_option maxRecDepth 20000 in
theorem mX2_groundAt_0 : Cond.fieldLink RX2 9 "LeggedThrough$State" "grounds" "I" ∈ wsX2_groundAt := by decide +kernel
set_option maxRecDepth 20000 in
theorem mX2_groundAt_1 : Cond.static yX4_groundIn ∈ wsX2_groundAt := by decide +kernel
set_option maxRecDepth 20000 in
theorem mX2_groundAt_2 : Cond.initialized RX4 ∈ wsX2_groundAt := by decide +kernel
set_option maxRecDepth 20000 in
theorem hinX2_groundAt_X2 : ∀ w ∈ u_ws RX2 TX2 4, w ∈ wsX2_groundAt := fun w h => List.mem_cons_of_mem _ (List.mem_append_right _ h)
set_option maxRecDepth 20000 in
set_option maxHeartbeats 4000000 in
theorem k_X2_groundAt {l : Launch} {D : va_G} {cI cZ : ClassId} {q : Nat} {ad : Nat → Nat} (a1 : Int32) (a2 : Int32)  (S : zS) (r : Int32) (h : f_X2_groundAt a1 a2 S = some r) : zI l yX2_groundAt wsX2_groundAt (zRm 1 21) D (zty cI cZ) zNw (wC cI q ad) [.ref (ad 2), .int a1, .int a2] S (r, S) := by
  refine zI_of (cc := cX2_groundAt) (maxL := 3) (ty := .int) (by decide +kernel) rfl (Nat.le_of_ble_eq_true rfl) zNw_ok (fun E hE1 hE2 C0 hR => ?_)
  subst hE1; subst hE2
  replace C0 : zCx E (zRm 1 21) cX2_groundAt 3 RX2 wsX2_groundAt (zty cI cZ) zNw := C0
  show zV E (wC cI q ad) 3 S 0 [(0, .ref (ad 2)), (1, .int a1), (2, .int a2)] []
  delta f_X2_groundAt at h
  refine zV_aload_n (n := 1) C0 0 dX2_groundAt_0 rfl rfl ?_
  refine zV_get (n := 4) (ref := RX2) C0 hinX2_groundAt_X2 3 rfl rfl 0 (Nat.le_of_ble_eq_true rfl) mX2_groundAt_0 rfl rfl dX2_groundAt_1 rfl ?_
  refine zV_bipush (n := 6) (v := (8 : Int32)) C0 dX2_groundAt_4 rfl rfl ?_
  refine zV_iload_n (n := 7) C0 1 dX2_groundAt_6 rfl rfl ?_
  refine zV_imul (n := 8) C0 dX2_groundAt_7  rfl ?_
  refine zV_iushr (n := 9) C0 dX2_groundAt_8  rfl ?_
  refine zV_iload_n (n := 10) C0 2 dX2_groundAt_9 rfl rfl ?_
  obtain ⟨r_2, hc_1, h⟩ := ob_of h
  refine zV_callSN0 (n := 13) (st := []) (As := [.int (zushr (S.1 15) ((8 : Int32) * a1)), .int a2]) C0 (k_X4_groundIn (zushr (S.1 15) ((8 : Int32) * a1)) a2 _ hc_1) gX2_groundAt_X4_groundIn_n24 rfl (fun hN => hN _ (List.mem_of_getElem? (i := 12) rfl)) mX2_groundAt_1 mX2_groundAt_2 (hd_X4_groundIn) rfl ⟨rfl, rfl⟩ ⟨Nat.le_of_ble_eq_true rfl, Nat.le_of_ble_eq_true rfl⟩ rfl (Nat.le_of_ble_eq_true rfl) dX2_groundAt_10 rfl ?_
  exact zretI1 hR h rfl dX2_groundAt_13
set_option maxRecDepth 20000 in
theorem mX2_cover_0 : Cond.fieldLink RX2 9 "LeggedThrough$State" "grounds" "I" ∈ wsX2_cover := by decide +kernel
set_option maxRecDepth 20000 in
theorem hinX2_cover_X2 : ∀ w ∈ u_ws RX2 TX2 4, w ∈ wsX2_cover := fun w h => List.mem_cons_of_mem _ (List.mem_append_right _ h)
set_option maxRecDepth 20000 in
set_option maxHeartbeats 4000000 in
theorem k_X2_cover {l : Launch} {D : va_G} {cI cZ : ClassId} {q : Nat} {ad : Nat → Nat} (a1 : Int32) (a2 : Int32) (a3 : Int32)  (S : zS) (r : zS) (h : f_X2_cover a1 a2 a3 S = some r) : zU l yX2_cover wsX2_cover (zRm 0 0) D (zty cI cZ) zNw (wC cI q ad) [.ref (ad 2), .int a1, .int a2, .int a3] S r := by
  refine zU_of (cc := cX2_cover) (maxL := 5)  (by decide +kernel) rfl (Nat.le_of_ble_eq_true rfl) zNw_ok (fun E hE1 hE2 C0 hR => ?_)
  subst hE1; subst hE2
  replace C0 : zCx E (zRm 0 0) cX2_cover 5 RX2 wsX2_cover (zty cI cZ) zNw := C0
  show zV E (wC cI q ad) 5 S 0 [(0, .ref (ad 2)), (1, .int a1), (2, .int a2), (3, .int a3)] []
  delta f_X2_cover at h
  refine zV_bipush (n := 2) (v := (8 : Int32)) C0 dX2_cover_0 rfl rfl ?_
  refine zV_iload_n (n := 3) C0 1 dX2_cover_2 rfl rfl ?_
  refine zV_imul (n := 4) C0 dX2_cover_3  rfl ?_
  refine zV_iconst (n := 5) (v := (2 : Int32)) C0 dX2_cover_4 rfl rfl ?_
  refine zV_iload_n (n := 6) C0 2 dX2_cover_5 rfl rfl ?_
  refine zV_imul (n := 7) C0 dX2_cover_6  rfl ?_
  refine zV_iadd (n := 8) C0 dX2_cover_7  rfl ?_
  refine zV_topi (fun x4_1 ex4_1 => ?_)
  replace h := zlet_of ex4_1 h
  clear ex4_1
  refine zV_istore (n := 10) C0 [(4, .int x4_1), (0, .ref (ad 2)), (1, .int a1), (2, .int a2), (3, .int a3)] dX2_cover_8 rfl (Nat.le_of_ble_eq_true rfl) rfl ?_
  refine zV_aload_n (n := 11) C0 1 dX2_cover_10 rfl rfl ?_
  refine zV_aload_n (n := 12) C0 1 dX2_cover_11 rfl rfl ?_
  refine zV_get (n := 15) (ref := RX2) C0 hinX2_cover_X2 3 rfl rfl 0 (Nat.le_of_ble_eq_true rfl) mX2_cover_0 rfl rfl dX2_cover_12 rfl ?_
  refine zV_iconst (n := 16) (v := (3 : Int32)) C0 dX2_cover_15 rfl rfl ?_
  refine zV_iload (n := 18) C0 0 dX2_cover_16 rfl rfl ?_
  refine zV_ishl (n := 19) C0 dX2_cover_18  rfl ?_
  refine zV_iconst (n := 20) (v := (-1 : Int32)) C0 dX2_cover_19 rfl rfl ?_
  refine zV_ixor (n := 21) C0 dX2_cover_20  rfl ?_
  refine zV_iand (n := 22) C0 dX2_cover_21  rfl ?_
  refine zV_iload_n (n := 23) C0 4 dX2_cover_22 rfl rfl ?_
  refine zV_iload (n := 25) C0 0 dX2_cover_23 rfl rfl ?_
  refine zV_ishl (n := 26) C0 dX2_cover_25  rfl ?_
  refine zV_ior (n := 27) C0 dX2_cover_26  rfl ?_
  refine zV_put (n := 30) (ref := RX2) C0 hinX2_cover_X2 3 rfl rfl 0 (Nat.le_of_ble_eq_true rfl) mX2_cover_0 rfl tyX2 tyX2_ok nmX2 rfl (tyX2_ok 0 (Nat.le_of_ble_eq_true rfl)) rfl rfl (Nat.le_of_ble_eq_true rfl) (upd S.1 15 (((S.1 15) &&& ((zshl (3 : Int32) x4_1) ^^^ (-1 : Int32))) ||| (zshl a3 x4_1)), S.2) (wC_f15 cI q ad S (((S.1 15) &&& ((zshl (3 : Int32) x4_1) ^^^ (-1 : Int32))) ||| (zshl a3 x4_1))) dX2_cover_27 rfl ?_
  refine zV_topS (fun S_2 eS_2 => ?_)
  replace h := zlet_of eS_2 h
  clear eS_2
  exact zretU hR h dX2_cover_30
set_option maxRecDepth 20000 in
set_option maxHeartbeats 4000000 in
theorem k_X2_wetPlaces {l : Launch} {D : va_G} {cI cZ : ClassId} {q : Nat} {ad : Nat → Nat} (a1 : Int32)  (S : zS) (r : Int32) (h : f_X2_wetPlaces a1 S = some r) : zI l yX2_wetPlaces wsX2_wetPlaces (zRm 2 43) D (zty cI cZ) zNw (wC cI q ad) [.ref (ad 2), .int a1] S (r, S) := by
  refine zI_of (cc := cX2_wetPlaces) (maxL := 4) (ty := .int) (by decide +kernel) rfl (Nat.le_of_ble_eq_true rfl) zNw_ok (fun E hE1 hE2 C0 hR => ?_)
  subst hE1; subst hE2
  replace C0 : zCx E (zRm 2 43) cX2_wetPlaces 4 RX2 wsX2_wetPlaces (zty cI cZ) zNw := C0
  show zV E (wC cI q ad) 4 S 0 [(0, .ref (ad 2)), (1, .int a1)] []
  delta f_X2_wetPlaces at h
  refine zV_iconst (n := 1) (v := (0 : Int32)) C0 dX2_wetPlaces_0 rfl rfl ?_
  refine zV_istore_n (n := 2) C0 [(2, .int (0 : Int32)), (0, .ref (ad 2)), (1, .int a1)] dX2_wetPlaces_1 rfl rfl (Nat.le_of_ble_eq_true rfl) rfl ?_
  refine zV_iconst (n := 3) (v := (0 : Int32)) C0 dX2_wetPlaces_2 rfl rfl ?_
  refine zV_istore_n (n := 4) C0 [(3, .int (0 : Int32)), (2, .int (0 : Int32)), (0, .ref (ad 2)), (1, .int a1)] dX2_wetPlaces_3 rfl rfl (Nat.le_of_ble_eq_true rfl) rfl ?_
  refine zV_sub [2, 3, 1, 0] rfl ?_
  refine zfix_ind (fun e => zV E (wC cI q ad) 4 S 4 [(0, .ref (ad 2)), (1, .int a1), (2, .int e.1), (3, .int e.2)] []) (fun rec_3 hrec_3 e h => ?_) zN ((0 : Int32), (0 : Int32)) h
  obtain ⟨x2_1, x3_2⟩ := e
  have Jrec_3 : ∀ (x2_1 : Int32) (x3_2 : Int32), rec_3 (x2_1, x3_2) = some r → zV E (wC cI q ad) 4 S 4 [(0, .ref (ad 2)), (1, .int a1), (2, .int x2_1), (3, .int x3_2)] [] := fun x2_1 x3_2 h => hrec_3 _ h
  clear hrec_3
  dsimp only [F_X2_wetPlaces_4] at h
  show zV E (wC cI q ad) 4 S 4 [(0, .ref (ad 2)), (1, .int a1), (2, .int x2_1), (3, .int x3_2)] []
  refine zV_iload_n (n := 5) C0 3 dX2_wetPlaces_4 rfl rfl ?_
  refine zV_iconst (n := 6) (v := (4 : Int32)) C0 dX2_wetPlaces_5 rfl rfl ?_
  refine zV_icmp_ge (tgt := 33) (n := 9) C0 dX2_wetPlaces_6 rfl rfl (fun hb_10 => ?_) (fun hb_10 => ?_)
  · replace h := if_t hb_10 h
    refine zV_iload_n (n := 34) C0 2 dX2_wetPlaces_33 rfl rfl ?_
    exact zretI1 hR h rfl dX2_wetPlaces_34
  · replace h := if_f hb_10 h
    refine zV_iload_n (n := 10) C0 2 dX2_wetPlaces_9 rfl rfl ?_
    refine zV_aload_n (n := 11) C0 0 dX2_wetPlaces_10 rfl rfl ?_
    refine zV_iload_n (n := 12) C0 1 dX2_wetPlaces_11 rfl rfl ?_
    refine zV_iload_n (n := 13) C0 3 dX2_wetPlaces_12 rfl rfl ?_
    obtain ⟨r_5, hc_4, h⟩ := ob_of h
    refine zV_callVI (n := 16) (st := [.int x2_1]) (As := [.int a1, .int x3_2]) C0 (k_X2_groundAt a1 x3_2 S _ hc_4) gX2_wetPlaces_X2_groundAt rfl (hd_X2_groundAt) rfl ⟨rfl, rfl⟩ ⟨Nat.le_of_ble_eq_true rfl, Nat.le_of_ble_eq_true rfl⟩ 3 rfl rfl rfl (Nat.le_of_ble_eq_true rfl) dX2_wetPlaces_13 rfl ?_
    refine zV_iconst (n := 17) (v := (2 : Int32)) C0 dX2_wetPlaces_16 rfl rfl ?_
    refine zjoin_of h (fun k_7 hk_7 h => ?_)
    have Jk_7 : ∀ (s_6 : Int32), k_7 (s_6) = some r → zV E (wC cI q ad) 4 S 25 [(0, .ref (ad 2)), (1, .int a1), (3, .int x3_2)] [.int s_6, .int x2_1] := by
      intro s_6 h
      replace h := hk_7 _ h
      refine zV_iadd (n := 26) C0 dX2_wetPlaces_25  rfl ?_
      refine zV_topi (fun x2_8 ex2_8 => ?_)
      replace h := zlet_of ex2_8 h
      clear ex2_8
      refine zV_istore_n (n := 27) C0 [(2, .int x2_8), (0, .ref (ad 2)), (1, .int a1), (3, .int x3_2)] dX2_wetPlaces_26 rfl rfl (Nat.le_of_ble_eq_true rfl) rfl ?_
      refine zV_iinc (n := 30) C0 3 (v := (x3_2 + (1 : Int32))) [(3, .int (x3_2 + (1 : Int32))), (2, .int x2_8), (0, .ref (ad 2)), (1, .int a1)] dX2_wetPlaces_27 rfl rfl rfl (Nat.le_of_ble_eq_true rfl) rfl ?_
      refine zV_goto (tgt := 4) C0 dX2_wetPlaces_30 rfl ?_
      refine zV_sub [2, 3, 1, 0] rfl ?_
      exact Jrec_3 x2_8 (x3_2 + (1 : Int32)) h
    clear hk_7
    refine zV_icmp_ne (tgt := 24) (n := 20) C0 dX2_wetPlaces_17 rfl rfl (fun hb_9 => ?_) (fun hb_9 => ?_)
    · replace h := if_f hb_9 h
      refine zV_iconst (n := 25) (v := (0 : Int32)) C0 dX2_wetPlaces_24 rfl rfl ?_
      refine zV_sub [0, 1, 3] rfl ?_
      exact Jk_7 (0 : Int32) h
    · replace h := if_t hb_9 h
      refine zV_iconst (n := 21) (v := (1 : Int32)) C0 dX2_wetPlaces_20 rfl rfl ?_
      refine zV_goto (tgt := 25) C0 dX2_wetPlaces_21 rfl ?_
      refine zV_sub [0, 1, 3] rfl ?_
      exact Jk_7 (1 : Int32) h
set_option maxRecDepth 20000 in
theorem mX3_append_0 : Cond.fieldLink RX3 15 "LeggedThrough$Text" "length" "I" ∈ wsX3_append := by decide +kernel
set_option maxRecDepth 20000 in
theorem mX3_append_1 : Cond.fieldLink RX3 9 "LeggedThrough$Text" "letters" "[I" ∈ wsX3_append := by decide +kernel
set_option maxRecDepth 20000 in
theorem hinX3_append_X3 : ∀ w ∈ u_ws RX3 TX3 2, w ∈ wsX3_append := fun w h => List.mem_cons_of_mem _ (List.mem_append_right _ h)
set_option maxRecDepth 20000 in
set_option maxHeartbeats 4000000 in
theorem k_X3_append {l : Launch} {D : va_G} {cI cZ : ClassId} {q : Nat} {ad : Nat → Nat} (a1 : Int32)  (S : zS) (r : Int32 × zS) (h : f_X3_append a1 S = some r) : zI l yX3_append wsX3_append (zRm 0 0) D (zty cI cZ) zNw (wC cI q ad) [.ref (ad 0), .int a1] S r := by
  refine zI_of (cc := cX3_append) (maxL := 2) (ty := .boolean) (by decide +kernel) rfl (Nat.le_of_ble_eq_true rfl) zNw_ok (fun E hE1 hE2 C0 hR => ?_)
  subst hE1; subst hE2
  replace C0 : zCx E (zRm 0 0) cX3_append 2 RX3 wsX3_append (zty cI cZ) zNw := C0
  show zV E (wC cI q ad) 2 S 0 [(0, .ref (ad 0)), (1, .int a1)] []
  delta f_X3_append at h
  refine zV_aload_n (n := 1) C0 0 dX3_append_0 rfl rfl ?_
  refine zV_get (n := 4) (ref := RX3) C0 hinX3_append_X3 1 rfl rfl 1 (Nat.le_of_ble_eq_true rfl) mX3_append_0 rfl rfl dX3_append_1 rfl ?_
  refine zjoin_of h (fun k_1 hk_1 h => ?_)
  have Jk_1 : k_1 () = some r → zV E (wC cI q ad) 2 S 19 [] [] := by
    intro  h
    replace h := hk_1 _ h
    refine zV_iconst (n := 20) (v := (0 : Int32)) C0 dX3_append_19 rfl rfl ?_
    exact zretI hR h rfl dX3_append_20
  clear hk_1
  refine zV_if_lt (tgt := 19) (n := 7) C0 dX3_append_4 rfl rfl (fun hb_6 => ?_) (fun hb_6 => ?_)
  · replace h := if_t hb_6 h
    refine zV_sub [] rfl ?_
    exact Jk_1  h
  · replace h := if_f hb_6 h
    refine zV_aload_n (n := 8) C0 0 dX3_append_7 rfl rfl ?_
    refine zV_get (n := 11) (ref := RX3) C0 hinX3_append_X3 1 rfl rfl 1 (Nat.le_of_ble_eq_true rfl) mX3_append_0 rfl rfl dX3_append_8 rfl ?_
    refine zV_aload_n (n := 12) C0 0 dX3_append_11 rfl rfl ?_
    refine zV_get (n := 15) (ref := RX3) C0 hinX3_append_X3 1 rfl rfl 0 (Nat.le_of_ble_eq_true rfl) mX3_append_1 rfl rfl dX3_append_12 rfl ?_
    refine zV_alen (n := 16) (v := (40 : Int32)) C0 7 0 rfl rfl rfl dX3_append_15 rfl ?_
    refine zV_icmp_lt (tgt := 21) (n := 19) C0 dX3_append_16 rfl rfl (fun hb_5 => ?_) (fun hb_5 => ?_)
    · replace h := if_t hb_5 h
      refine zV_aload_n (n := 22) C0 0 dX3_append_21 rfl rfl ?_
      refine zV_get (n := 25) (ref := RX3) C0 hinX3_append_X3 1 rfl rfl 0 (Nat.le_of_ble_eq_true rfl) mX3_append_1 rfl rfl dX3_append_22 rfl ?_
      refine zV_aload_n (n := 26) C0 0 dX3_append_25 rfl rfl ?_
      refine zV_get (n := 29) (ref := RX3) C0 hinX3_append_X3 1 rfl rfl 1 (Nat.le_of_ble_eq_true rfl) mX3_append_0 rfl rfl dX3_append_26 rfl ?_
      refine zV_iload_n (n := 30) C0 1 dX3_append_29 rfl rfl ?_
      obtain ⟨hg_2, h⟩ := gd_of h
      refine zV_iast (n := 31) C0 7 0 rfl rfl hg_2 (S.1, S.2.1, zur S.2.2 6 (upd (S.2.2 6) ((S.1 9)).toNatClampNeg a1)) (wC_a6 cI q ad S (upd (S.2.2 6) ((S.1 9)).toNatClampNeg a1)) dX3_append_30 rfl ?_
      refine zV_topS (fun S_3 eS_3 => ?_)
      replace h := zlet_of eS_3 h
      clear eS_3
      refine zV_aload_n (n := 32) C0 0 dX3_append_31 rfl rfl ?_
      refine zV_dup (n := 33) C0 dX3_append_32 rfl rfl ?_
      refine zV_get (n := 36) (ref := RX3) C0 hinX3_append_X3 1 rfl rfl 1 (Nat.le_of_ble_eq_true rfl) mX3_append_0 rfl rfl dX3_append_33 rfl ?_
      refine zV_iconst (n := 37) (v := (1 : Int32)) C0 dX3_append_36 rfl rfl ?_
      refine zV_iadd (n := 38) C0 dX3_append_37  rfl ?_
      refine zV_put (n := 41) (ref := RX3) C0 hinX3_append_X3 1 rfl rfl 1 (Nat.le_of_ble_eq_true rfl) mX3_append_0 rfl tyX3 tyX3_ok nmX3 rfl (tyX3_ok 1 (Nat.le_of_ble_eq_true rfl)) rfl rfl (Nat.le_of_ble_eq_true rfl) (upd S_3.1 9 ((S_3.1 9) + (1 : Int32)), S_3.2) (wC_f9 cI q ad S_3 ((S_3.1 9) + (1 : Int32))) dX3_append_38 rfl ?_
      refine zV_topS (fun S_4 eS_4 => ?_)
      replace h := zlet_of eS_4 h
      clear eS_4
      refine zV_iconst (n := 42) (v := (1 : Int32)) C0 dX3_append_41 rfl rfl ?_
      exact zretI hR h rfl dX3_append_42
    · replace h := if_f hb_5 h
      refine zV_sub [] rfl ?_
      exact Jk_1  h
set_option maxRecDepth 20000 in
theorem mX3_letterAt_0 : Cond.fieldLink RX3 15 "LeggedThrough$Text" "length" "I" ∈ wsX3_letterAt := by decide +kernel
set_option maxRecDepth 20000 in
theorem mX3_letterAt_1 : Cond.fieldLink RX3 9 "LeggedThrough$Text" "letters" "[I" ∈ wsX3_letterAt := by decide +kernel
set_option maxRecDepth 20000 in
theorem hinX3_letterAt_X3 : ∀ w ∈ u_ws RX3 TX3 2, w ∈ wsX3_letterAt := fun w h => List.mem_cons_of_mem _ (List.mem_append_right _ h)
set_option maxRecDepth 20000 in
set_option maxHeartbeats 4000000 in
theorem k_X3_letterAt {l : Launch} {D : va_G} {cI cZ : ClassId} {q : Nat} {ad : Nat → Nat} (a1 : Int32)  (S : zS) (r : Int32) (h : f_X3_letterAt a1 S = some r) : zI l yX3_letterAt wsX3_letterAt (zRm 0 0) D (zty cI cZ) zNw (wC cI q ad) [.ref (ad 0), .int a1] S (r, S) := by
  refine zI_of (cc := cX3_letterAt) (maxL := 2) (ty := .int) (by decide +kernel) rfl (Nat.le_of_ble_eq_true rfl) zNw_ok (fun E hE1 hE2 C0 hR => ?_)
  subst hE1; subst hE2
  replace C0 : zCx E (zRm 0 0) cX3_letterAt 2 RX3 wsX3_letterAt (zty cI cZ) zNw := C0
  show zV E (wC cI q ad) 2 S 0 [(0, .ref (ad 0)), (1, .int a1)] []
  delta f_X3_letterAt at h
  refine zV_iload_n (n := 1) C0 1 dX3_letterAt_0 rfl rfl ?_
  refine zjoin_of h (fun k_2 hk_2 h => ?_)
  have Jk_2 : ∀ (s_1 : Int32), k_2 (s_1) = some r → zV E (wC cI q ad) 2 S 31 [] [.int s_1] := by
    intro s_1 h
    replace h := hk_2 _ h
    exact zretI1 hR h rfl dX3_letterAt_31
  clear hk_2
  refine zjoin_of h (fun k_3 hk_3 h => ?_)
  have Jk_3 : k_3 () = some r → zV E (wC cI q ad) 2 S 30 [] [] := by
    intro  h
    replace h := hk_3 _ h
    refine zV_iconst (n := 31) (v := (-1 : Int32)) C0 dX3_letterAt_30 rfl rfl ?_
    exact Jk_2 (-1 : Int32) h
  clear hk_3
  refine zV_if_lt (tgt := 30) (n := 4) C0 dX3_letterAt_1 rfl rfl (fun hb_7 => ?_) (fun hb_7 => ?_)
  · replace h := if_t hb_7 h
    refine zV_sub [] rfl ?_
    exact Jk_3  h
  · replace h := if_f hb_7 h
    refine zV_iload_n (n := 5) C0 1 dX3_letterAt_4 rfl rfl ?_
    refine zV_aload_n (n := 6) C0 0 dX3_letterAt_5 rfl rfl ?_
    refine zV_get (n := 9) (ref := RX3) C0 hinX3_letterAt_X3 1 rfl rfl 1 (Nat.le_of_ble_eq_true rfl) mX3_letterAt_0 rfl rfl dX3_letterAt_6 rfl ?_
    refine zV_icmp_ge (tgt := 30) (n := 12) C0 dX3_letterAt_9 rfl rfl (fun hb_6 => ?_) (fun hb_6 => ?_)
    · replace h := if_t hb_6 h
      refine zV_sub [] rfl ?_
      exact Jk_3  h
    · replace h := if_f hb_6 h
      refine zV_iload_n (n := 13) C0 1 dX3_letterAt_12 rfl rfl ?_
      refine zV_aload_n (n := 14) C0 0 dX3_letterAt_13 rfl rfl ?_
      refine zV_get (n := 17) (ref := RX3) C0 hinX3_letterAt_X3 1 rfl rfl 0 (Nat.le_of_ble_eq_true rfl) mX3_letterAt_1 rfl rfl dX3_letterAt_14 rfl ?_
      refine zV_alen (n := 18) (v := (40 : Int32)) C0 7 0 rfl rfl rfl dX3_letterAt_17 rfl ?_
      refine zV_icmp_ge (tgt := 30) (n := 21) C0 dX3_letterAt_18 rfl rfl (fun hb_5 => ?_) (fun hb_5 => ?_)
      · replace h := if_t hb_5 h
        refine zV_sub [] rfl ?_
        exact Jk_3  h
      · replace h := if_f hb_5 h
        refine zV_aload_n (n := 22) C0 0 dX3_letterAt_21 rfl rfl ?_
        refine zV_get (n := 25) (ref := RX3) C0 hinX3_letterAt_X3 1 rfl rfl 0 (Nat.le_of_ble_eq_true rfl) mX3_letterAt_1 rfl rfl dX3_letterAt_22 rfl ?_
        refine zV_iload_n (n := 26) C0 1 dX3_letterAt_25 rfl rfl ?_
        obtain ⟨hg_4, h⟩ := gd_of h
        refine zV_iald (n := 27) C0 7 0 rfl rfl hg_4 dX3_letterAt_26 rfl ?_
        refine zV_goto (tgt := 31) C0 dX3_letterAt_27 rfl ?_
        refine zV_sub [] rfl ?_
        exact Jk_2 (S.2.2 6 (a1).toNatClampNeg) h
set_option maxRecDepth 20000 in
set_option maxHeartbeats 4000000 in
theorem k_X3_figureAt {l : Launch} {D : va_G} {cI cZ : ClassId} {q : Nat} {ad : Nat → Nat} (a1 : Int32)  (S : zS) (r : Int32) (h : f_X3_figureAt a1 S = some r) : zI l yX3_figureAt wsX3_figureAt (zRm 1 21) D (zty cI cZ) zNw (wC cI q ad) [.ref (ad 0), .int a1] S (r, S) := by
  refine zI_of (cc := cX3_figureAt) (maxL := 2) (ty := .int) (by decide +kernel) rfl (Nat.le_of_ble_eq_true rfl) zNw_ok (fun E hE1 hE2 C0 hR => ?_)
  subst hE1; subst hE2
  replace C0 : zCx E (zRm 1 21) cX3_figureAt 2 RX3 wsX3_figureAt (zty cI cZ) zNw := C0
  show zV E (wC cI q ad) 2 S 0 [(0, .ref (ad 0)), (1, .int a1)] []
  delta f_X3_figureAt at h
  refine zV_aload_n (n := 1) C0 0 dX3_figureAt_0 rfl rfl ?_
  refine zV_iload_n (n := 2) C0 1 dX3_figureAt_1 rfl rfl ?_
  obtain ⟨r_2, hc_1, h⟩ := ob_of h
  refine zV_callVI (n := 5) (st := []) (As := [.int a1]) C0 (k_X3_letterAt a1 S _ hc_1) gX3_figureAt_X3_letterAt rfl (hd_X3_letterAt) rfl ⟨rfl, rfl⟩ ⟨Nat.le_of_ble_eq_true rfl, Nat.le_of_ble_eq_true rfl⟩ 1 rfl rfl rfl (Nat.le_of_ble_eq_true rfl) dX3_figureAt_2 rfl ?_
  refine zV_bipush (n := 7) (v := (48 : Int32)) C0 dX3_figureAt_5 rfl rfl ?_
  refine zV_isub (n := 8) C0 dX3_figureAt_7  rfl ?_
  exact zretI1 hR h rfl dX3_figureAt_8
set_option maxRecDepth 20000 in
theorem mX3_firstFault_0 : Cond.fieldLink RX3 15 "LeggedThrough$Text" "length" "I" ∈ wsX3_firstFault := by decide +kernel
set_option maxRecDepth 20000 in
theorem hinX3_firstFault_X3 : ∀ w ∈ u_ws RX3 TX3 2, w ∈ wsX3_firstFault := fun w h => List.mem_cons_of_mem _ (List.mem_append_right _ h)
set_option maxRecDepth 20000 in
set_option maxHeartbeats 4000000 in
theorem k_X3_firstFault {l : Launch} {D : va_G} {cI cZ : ClassId} {q : Nat} {ad : Nat → Nat}   (S : zS) (r : Int32) (h : f_X3_firstFault  S = some r) : zI l yX3_firstFault wsX3_firstFault (zRm 1 21) D (zty cI cZ) zNw (wC cI q ad) [.ref (ad 0)] S (r, S) := by
  refine zI_of (cc := cX3_firstFault) (maxL := 8) (ty := .int) (by decide +kernel) rfl (Nat.le_of_ble_eq_true rfl) zNw_ok (fun E hE1 hE2 C0 hR => ?_)
  subst hE1; subst hE2
  replace C0 : zCx E (zRm 1 21) cX3_firstFault 8 RX3 wsX3_firstFault (zty cI cZ) zNw := C0
  show zV E (wC cI q ad) 8 S 0 [(0, .ref (ad 0))] []
  delta f_X3_firstFault at h
  refine zV_iconst (n := 1) (v := (0 : Int32)) C0 dX3_firstFault_0 rfl rfl ?_
  refine zV_istore_n (n := 2) C0 [(1, .int (0 : Int32)), (0, .ref (ad 0))] dX3_firstFault_1 rfl rfl (Nat.le_of_ble_eq_true rfl) rfl ?_
  refine zV_iconst (n := 3) (v := (0 : Int32)) C0 dX3_firstFault_2 rfl rfl ?_
  refine zV_istore_n (n := 4) C0 [(2, .int (0 : Int32)), (1, .int (0 : Int32)), (0, .ref (ad 0))] dX3_firstFault_3 rfl rfl (Nat.le_of_ble_eq_true rfl) rfl ?_
  refine zV_iconst (n := 5) (v := (0 : Int32)) C0 dX3_firstFault_4 rfl rfl ?_
  refine zV_istore_n (n := 6) C0 [(3, .int (0 : Int32)), (2, .int (0 : Int32)), (1, .int (0 : Int32)), (0, .ref (ad 0))] dX3_firstFault_5 rfl rfl (Nat.le_of_ble_eq_true rfl) rfl ?_
  refine zV_bipush (n := 8) (v := (48 : Int32)) C0 dX3_firstFault_6 rfl rfl ?_
  refine zV_istore (n := 10) C0 [(4, .int (48 : Int32)), (3, .int (0 : Int32)), (2, .int (0 : Int32)), (1, .int (0 : Int32)), (0, .ref (ad 0))] dX3_firstFault_8 rfl (Nat.le_of_ble_eq_true rfl) rfl ?_
  refine zV_bipush (n := 12) (v := (48 : Int32)) C0 dX3_firstFault_10 rfl rfl ?_
  refine zV_istore (n := 14) C0 [(5, .int (48 : Int32)), (4, .int (48 : Int32)), (3, .int (0 : Int32)), (2, .int (0 : Int32)), (1, .int (0 : Int32)), (0, .ref (ad 0))] dX3_firstFault_12 rfl (Nat.le_of_ble_eq_true rfl) rfl ?_
  refine zV_iconst (n := 15) (v := (0 : Int32)) C0 dX3_firstFault_14 rfl rfl ?_
  refine zV_istore (n := 17) C0 [(6, .int (0 : Int32)), (5, .int (48 : Int32)), (4, .int (48 : Int32)), (3, .int (0 : Int32)), (2, .int (0 : Int32)), (1, .int (0 : Int32)), (0, .ref (ad 0))] dX3_firstFault_15 rfl (Nat.le_of_ble_eq_true rfl) rfl ?_
  refine zV_sub [6, 5, 4, 3, 2, 1, 0] rfl ?_
  refine zfix_ind (fun e => zV E (wC cI q ad) 8 S 17 [(0, .ref (ad 0)), (1, .int e.1), (2, .int e.2.1), (3, .int e.2.2.1), (4, .int e.2.2.2.1), (5, .int e.2.2.2.2.1), (6, .int e.2.2.2.2.2)] []) (fun rec_7 hrec_7 e h => ?_) zN ((0 : Int32), (0 : Int32), (0 : Int32), (48 : Int32), (48 : Int32), (0 : Int32)) h
  obtain ⟨x1_1, x2_2, x3_3, x4_4, x5_5, x6_6⟩ := e
  have Jrec_7 : ∀ (x1_1 : Int32) (x2_2 : Int32) (x3_3 : Int32) (x4_4 : Int32) (x5_5 : Int32) (x6_6 : Int32), rec_7 (x1_1, x2_2, x3_3, x4_4, x5_5, x6_6) = some r → zV E (wC cI q ad) 8 S 17 [(0, .ref (ad 0)), (1, .int x1_1), (2, .int x2_2), (3, .int x3_3), (4, .int x4_4), (5, .int x5_5), (6, .int x6_6)] [] := fun x1_1 x2_2 x3_3 x4_4 x5_5 x6_6 h => hrec_7 _ h
  clear hrec_7
  dsimp only [F_X3_firstFault_17] at h
  show zV E (wC cI q ad) 8 S 17 [(0, .ref (ad 0)), (1, .int x1_1), (2, .int x2_2), (3, .int x3_3), (4, .int x4_4), (5, .int x5_5), (6, .int x6_6)] []
  refine zV_iload (n := 19) C0 6 dX3_firstFault_17 rfl rfl ?_
  refine zV_aload_n (n := 20) C0 0 dX3_firstFault_19 rfl rfl ?_
  refine zV_get (n := 23) (ref := RX3) C0 hinX3_firstFault_X3 1 rfl rfl 1 (Nat.le_of_ble_eq_true rfl) mX3_firstFault_0 rfl rfl dX3_firstFault_20 rfl ?_
  refine zV_icmp_ge (tgt := 161) (n := 26) C0 dX3_firstFault_23 rfl rfl (fun hb_36 => ?_) (fun hb_36 => ?_)
  · replace h := if_t hb_36 h
    refine zV_aload_n (n := 162) C0 0 dX3_firstFault_161 rfl rfl ?_
    refine zV_get (n := 165) (ref := RX3) C0 hinX3_firstFault_X3 1 rfl rfl 1 (Nat.le_of_ble_eq_true rfl) mX3_firstFault_0 rfl rfl dX3_firstFault_162 rfl ?_
    refine zjoin_of h (fun k_9 hk_9 h => ?_)
    have Jk_9 : ∀ (s_8 : Int32), k_9 (s_8) = some r → zV E (wC cI q ad) 8 S 181 [] [.int s_8] := by
      intro s_8 h
      replace h := hk_9 _ h
      exact zretI1 hR h rfl dX3_firstFault_181
    clear hk_9
    refine zjoin_of h (fun k_10 hk_10 h => ?_)
    have Jk_10 : k_10 () = some r → zV E (wC cI q ad) 8 S 172 [(0, .ref (ad 0))] [] := by
      intro  h
      replace h := hk_10 _ h
      refine zV_aload_n (n := 173) C0 0 dX3_firstFault_172 rfl rfl ?_
      refine zV_get (n := 176) (ref := RX3) C0 hinX3_firstFault_X3 1 rfl rfl 1 (Nat.le_of_ble_eq_true rfl) mX3_firstFault_0 rfl rfl dX3_firstFault_173 rfl ?_
      refine zV_goto (tgt := 181) C0 dX3_firstFault_176 rfl ?_
      refine zV_sub [] rfl ?_
      exact Jk_9 (S.1 9) h
    clear hk_10
    refine zV_if_eq (tgt := 172) (n := 168) C0 dX3_firstFault_165 rfl rfl (fun hb_12 => ?_) (fun hb_12 => ?_)
    · replace h := if_t hb_12 h
      refine zV_sub [0] rfl ?_
      exact Jk_10  h
    · replace h := if_f hb_12 h
      refine zV_iload_n (n := 169) C0 3 dX3_firstFault_168 rfl rfl ?_
      refine zV_if_le (tgt := 179) (n := 172) C0 dX3_firstFault_169 rfl rfl (fun hb_11 => ?_) (fun hb_11 => ?_)
      · replace h := if_t hb_11 h
        refine zV_bipush (n := 181) (v := (-9 : Int32)) C0 dX3_firstFault_179 rfl rfl ?_
        refine zV_sub [] rfl ?_
        exact Jk_9 (-9 : Int32) h
      · replace h := if_f hb_11 h
        refine zV_sub [0] rfl ?_
        exact Jk_10  h
  · replace h := if_f hb_36 h
    refine zV_aload_n (n := 27) C0 0 dX3_firstFault_26 rfl rfl ?_
    refine zV_iload (n := 29) C0 6 dX3_firstFault_27 rfl rfl ?_
    obtain ⟨r_14, hc_13, h⟩ := ob_of h
    refine zV_callVI (n := 32) (st := []) (As := [.int x6_6]) C0 (k_X3_letterAt x6_6 S _ hc_13) gX3_firstFault_X3_letterAt rfl (hd_X3_letterAt) rfl ⟨rfl, rfl⟩ ⟨Nat.le_of_ble_eq_true rfl, Nat.le_of_ble_eq_true rfl⟩ 1 rfl rfl rfl (Nat.le_of_ble_eq_true rfl) dX3_firstFault_29 rfl ?_
    refine zV_istore (n := 34) C0 [(7, .int r_14), (0, .ref (ad 0)), (1, .int x1_1), (2, .int x2_2), (3, .int x3_3), (4, .int x4_4), (5, .int x5_5), (6, .int x6_6)] dX3_firstFault_32 rfl (Nat.le_of_ble_eq_true rfl) rfl ?_
    refine zV_iload_n (n := 35) C0 4 dX3_firstFault_34 rfl rfl ?_
    refine zjoin_of h (fun k_20 hk_20 h => ?_)
    have Jk_20 : ∀ (x1_15 : Int32) (x2_16 : Int32) (x3_17 : Int32) (x4_18 : Int32) (x5_19 : Int32), k_20 (x1_15, x2_16, x3_17, x4_18, x5_19) = some r → zV E (wC cI q ad) 8 S 155 [(0, .ref (ad 0)), (1, .int x1_15), (2, .int x2_16), (3, .int x3_17), (4, .int x4_18), (5, .int x5_19), (6, .int x6_6)] [] := by
      intro x1_15 x2_16 x3_17 x4_18 x5_19 h
      replace h := hk_20 _ h
      dsimp only at h
      refine zV_iinc (n := 158) C0 6 (v := (x6_6 + (1 : Int32))) [(6, .int (x6_6 + (1 : Int32))), (0, .ref (ad 0)), (1, .int x1_15), (2, .int x2_16), (3, .int x3_17), (4, .int x4_18), (5, .int x5_19)] dX3_firstFault_155 rfl rfl rfl (Nat.le_of_ble_eq_true rfl) rfl ?_
      refine zV_goto (tgt := 17) C0 dX3_firstFault_158 rfl ?_
      refine zV_sub [1, 2, 3, 4, 5, 6, 0] rfl ?_
      exact Jrec_7 x1_15 x2_16 x3_17 x4_18 x5_19 (x6_6 + (1 : Int32)) h
    clear hk_20
    refine zV_if_le (tgt := 61) (n := 38) C0 dX3_firstFault_35 rfl rfl (fun hb_35 => ?_) (fun hb_35 => ?_)
    · replace h := if_t hb_35 h
      refine zV_iload (n := 63) C0 7 dX3_firstFault_61 rfl rfl ?_
      refine zjoin_of h (fun k_21 hk_21 h => ?_)
      have Jk_21 : k_21 () = some r → zV E (wC cI q ad) 8 S 86 [(0, .ref (ad 0)), (1, .int x1_1), (2, .int x2_2), (6, .int x6_6), (7, .int r_14)] [] := by
        intro  h
        replace h := hk_21 _ h
        refine zV_iload (n := 88) C0 3 dX3_firstFault_86 rfl rfl ?_
        refine zjoin_of h (fun k_22 hk_22 h => ?_)
        have Jk_22 : k_22 () = some r → zV E (wC cI q ad) 8 S 119 [(0, .ref (ad 0)), (1, .int x1_1), (2, .int x2_2), (6, .int x6_6), (7, .int r_14)] [] := by
          intro  h
          replace h := hk_22 _ h
          refine zV_iload (n := 121) C0 3 dX3_firstFault_119 rfl rfl ?_
          refine zjoin_of h (fun k_23 hk_23 h => ?_)
          have Jk_23 : k_23 () = some r → zV E (wC cI q ad) 8 S 152 [(6, .int x6_6)] [] := by
            intro  h
            replace h := hk_23 _ h
            refine zV_iload (n := 154) C0 0 dX3_firstFault_152 rfl rfl ?_
            exact zretI1 hR h rfl dX3_firstFault_154
          clear hk_23
          refine zV_if_le (tgt := 152) (n := 124) C0 dX3_firstFault_121 rfl rfl (fun hb_26 => ?_) (fun hb_26 => ?_)
          · replace h := if_t hb_26 h
            refine zV_sub [3] rfl ?_
            exact Jk_23  h
          · replace h := if_f hb_26 h
            refine zV_iload (n := 126) C0 4 dX3_firstFault_124 rfl rfl ?_
            refine zV_bipush (n := 128) (v := (66 : Int32)) C0 dX3_firstFault_126 rfl rfl ?_
            refine zV_icmp_ne (tgt := 152) (n := 131) C0 dX3_firstFault_128 rfl rfl (fun hb_25 => ?_) (fun hb_25 => ?_)
            · replace h := if_f hb_25 h
              refine zV_sub [3] rfl ?_
              exact Jk_23  h
            · replace h := if_t hb_25 h
              refine zV_iload_n (n := 132) C0 2 dX3_firstFault_131 rfl rfl ?_
              refine zV_iconst (n := 133) (v := (3 : Int32)) C0 dX3_firstFault_132 rfl rfl ?_
              refine zV_icmp_ge (tgt := 152) (n := 136) C0 dX3_firstFault_133 rfl rfl (fun hb_24 => ?_) (fun hb_24 => ?_)
              · replace h := if_t hb_24 h
                refine zV_sub [3] rfl ?_
                exact Jk_23  h
              · replace h := if_f hb_24 h
                refine zV_iinc (n := 139) C0 2 (v := (x2_2 + (1 : Int32))) [(2, .int (x2_2 + (1 : Int32))), (0, .ref (ad 0)), (1, .int x1_1), (6, .int x6_6), (7, .int r_14)] dX3_firstFault_136 rfl rfl rfl (Nat.le_of_ble_eq_true rfl) rfl ?_
                refine zV_iconst (n := 140) (v := (1 : Int32)) C0 dX3_firstFault_139 rfl rfl ?_
                refine zV_istore_n (n := 141) C0 [(3, .int (1 : Int32)), (2, .int (x2_2 + (1 : Int32))), (0, .ref (ad 0)), (1, .int x1_1), (6, .int x6_6), (7, .int r_14)] dX3_firstFault_140 rfl rfl (Nat.le_of_ble_eq_true rfl) rfl ?_
                refine zV_bipush (n := 143) (v := (48 : Int32)) C0 dX3_firstFault_141 rfl rfl ?_
                refine zV_istore (n := 145) C0 [(4, .int (48 : Int32)), (3, .int (1 : Int32)), (2, .int (x2_2 + (1 : Int32))), (0, .ref (ad 0)), (1, .int x1_1), (6, .int x6_6), (7, .int r_14)] dX3_firstFault_143 rfl (Nat.le_of_ble_eq_true rfl) rfl ?_
                refine zV_bipush (n := 147) (v := (57 : Int32)) C0 dX3_firstFault_145 rfl rfl ?_
                refine zV_istore (n := 149) C0 [(5, .int (57 : Int32)), (4, .int (48 : Int32)), (3, .int (1 : Int32)), (2, .int (x2_2 + (1 : Int32))), (0, .ref (ad 0)), (1, .int x1_1), (6, .int x6_6), (7, .int r_14)] dX3_firstFault_147 rfl (Nat.le_of_ble_eq_true rfl) rfl ?_
                refine zV_goto (tgt := 155) C0 dX3_firstFault_149 rfl ?_
                refine zV_sub [4, 5, 3, 2, 1, 0, 6] rfl ?_
                exact Jk_20 x1_1 (x2_2 + (1 : Int32)) (1 : Int32) (48 : Int32) (57 : Int32) h
        clear hk_22
        refine zV_if_le (tgt := 119) (n := 91) C0 dX3_firstFault_88 rfl rfl (fun hb_29 => ?_) (fun hb_29 => ?_)
        · replace h := if_t hb_29 h
          exact Jk_22  h
        · replace h := if_f hb_29 h
          refine zV_iload (n := 93) C0 4 dX3_firstFault_91 rfl rfl ?_
          refine zV_bipush (n := 95) (v := (71 : Int32)) C0 dX3_firstFault_93 rfl rfl ?_
          refine zV_icmp_ne (tgt := 119) (n := 98) C0 dX3_firstFault_95 rfl rfl (fun hb_28 => ?_) (fun hb_28 => ?_)
          · replace h := if_f hb_28 h
            exact Jk_22  h
          · replace h := if_t hb_28 h
            refine zV_iload_n (n := 99) C0 1 dX3_firstFault_98 rfl rfl ?_
            refine zV_iconst (n := 100) (v := (4 : Int32)) C0 dX3_firstFault_99 rfl rfl ?_
            refine zV_icmp_ge (tgt := 119) (n := 103) C0 dX3_firstFault_100 rfl rfl (fun hb_27 => ?_) (fun hb_27 => ?_)
            · replace h := if_t hb_27 h
              exact Jk_22  h
            · replace h := if_f hb_27 h
              refine zV_iinc (n := 106) C0 1 (v := (x1_1 + (1 : Int32))) [(1, .int (x1_1 + (1 : Int32))), (0, .ref (ad 0)), (2, .int x2_2), (6, .int x6_6), (7, .int r_14)] dX3_firstFault_103 rfl rfl rfl (Nat.le_of_ble_eq_true rfl) rfl ?_
              refine zV_iconst (n := 107) (v := (5 : Int32)) C0 dX3_firstFault_106 rfl rfl ?_
              refine zV_istore_n (n := 108) C0 [(3, .int (5 : Int32)), (1, .int (x1_1 + (1 : Int32))), (0, .ref (ad 0)), (2, .int x2_2), (6, .int x6_6), (7, .int r_14)] dX3_firstFault_107 rfl rfl (Nat.le_of_ble_eq_true rfl) rfl ?_
              refine zV_bipush (n := 110) (v := (48 : Int32)) C0 dX3_firstFault_108 rfl rfl ?_
              refine zV_istore (n := 112) C0 [(4, .int (48 : Int32)), (3, .int (5 : Int32)), (1, .int (x1_1 + (1 : Int32))), (0, .ref (ad 0)), (2, .int x2_2), (6, .int x6_6), (7, .int r_14)] dX3_firstFault_110 rfl (Nat.le_of_ble_eq_true rfl) rfl ?_
              refine zV_bipush (n := 114) (v := (51 : Int32)) C0 dX3_firstFault_112 rfl rfl ?_
              refine zV_istore (n := 116) C0 [(5, .int (51 : Int32)), (4, .int (48 : Int32)), (3, .int (5 : Int32)), (1, .int (x1_1 + (1 : Int32))), (0, .ref (ad 0)), (2, .int x2_2), (6, .int x6_6), (7, .int r_14)] dX3_firstFault_114 rfl (Nat.le_of_ble_eq_true rfl) rfl ?_
              refine zV_goto (tgt := 155) C0 dX3_firstFault_116 rfl ?_
              refine zV_sub [4, 3, 5, 2, 1, 0, 6] rfl ?_
              exact Jk_20 (x1_1 + (1 : Int32)) x2_2 (5 : Int32) (48 : Int32) (51 : Int32) h
      clear hk_21
      refine zV_if_ne (tgt := 86) (n := 66) C0 dX3_firstFault_63 rfl rfl (fun hb_31 => ?_) (fun hb_31 => ?_)
      · replace h := if_f hb_31 h
        refine zV_sub [1, 2, 3, 7, 0] rfl ?_
        exact Jk_21  h
      · replace h := if_t hb_31 h
        refine zV_iload (n := 68) C0 0 dX3_firstFault_66 rfl rfl ?_
        refine zV_bipush (n := 70) (v := (76 : Int32)) C0 dX3_firstFault_68 rfl rfl ?_
        refine zV_icmp_ne (tgt := 86) (n := 73) C0 dX3_firstFault_70 rfl rfl (fun hb_30 => ?_) (fun hb_30 => ?_)
        · replace h := if_f hb_30 h
          refine zV_sub [1, 2, 3, 7, 0] rfl ?_
          exact Jk_21  h
        · replace h := if_t hb_30 h
          refine zV_iconst (n := 74) (v := (1 : Int32)) C0 dX3_firstFault_73 rfl rfl ?_
          refine zV_istore_n (n := 75) C0 [(3, .int (1 : Int32)), (7, .int r_14), (0, .ref (ad 0)), (1, .int x1_1), (2, .int x2_2), (4, .int x4_4), (5, .int x5_5), (6, .int x6_6)] dX3_firstFault_74 rfl rfl (Nat.le_of_ble_eq_true rfl) rfl ?_
          refine zV_bipush (n := 77) (v := (49 : Int32)) C0 dX3_firstFault_75 rfl rfl ?_
          refine zV_istore (n := 79) C0 [(4, .int (49 : Int32)), (3, .int (1 : Int32)), (7, .int r_14), (0, .ref (ad 0)), (1, .int x1_1), (2, .int x2_2), (5, .int x5_5), (6, .int x6_6)] dX3_firstFault_77 rfl (Nat.le_of_ble_eq_true rfl) rfl ?_
          refine zV_bipush (n := 81) (v := (54 : Int32)) C0 dX3_firstFault_79 rfl rfl ?_
          refine zV_istore (n := 83) C0 [(5, .int (54 : Int32)), (4, .int (49 : Int32)), (3, .int (1 : Int32)), (7, .int r_14), (0, .ref (ad 0)), (1, .int x1_1), (2, .int x2_2), (6, .int x6_6)] dX3_firstFault_81 rfl (Nat.le_of_ble_eq_true rfl) rfl ?_
          refine zV_goto (tgt := 155) C0 dX3_firstFault_83 rfl ?_
          refine zV_sub [4, 5, 6, 2, 1, 0, 7] rfl ?_
          exact Jk_20 x1_1 x2_2 (1 : Int32) (49 : Int32) (54 : Int32) h
    · replace h := if_f hb_35 h
      refine zV_iload (n := 40) C0 0 dX3_firstFault_38 rfl rfl ?_
      refine zV_iload (n := 42) C0 5 dX3_firstFault_40 rfl rfl ?_
      refine zjoin_of h (fun k_32 hk_32 h => ?_)
      have Jk_32 : k_32 () = some r → zV E (wC cI q ad) 8 S 52 [(6, .int x6_6)] [] := by
        intro  h
        replace h := hk_32 _ h
        refine zV_iload (n := 54) C0 0 dX3_firstFault_52 rfl rfl ?_
        exact zretI1 hR h rfl dX3_firstFault_54
      clear hk_32
      refine zV_icmp_lt (tgt := 52) (n := 45) C0 dX3_firstFault_42 rfl rfl (fun hb_34 => ?_) (fun hb_34 => ?_)
      · replace h := if_t hb_34 h
        refine zV_sub [7] rfl ?_
        exact Jk_32  h
      · replace h := if_f hb_34 h
        refine zV_iload (n := 47) C0 0 dX3_firstFault_45 rfl rfl ?_
        refine zV_iload (n := 49) C0 6 dX3_firstFault_47 rfl rfl ?_
        refine zV_icmp_le (tgt := 55) (n := 52) C0 dX3_firstFault_49 rfl rfl (fun hb_33 => ?_) (fun hb_33 => ?_)
        · replace h := if_t hb_33 h
          refine zV_iinc (n := 58) C0 4 (v := (x3_3 + (-1 : Int32))) [(3, .int (x3_3 + (-1 : Int32))), (7, .int r_14), (0, .ref (ad 0)), (1, .int x1_1), (2, .int x2_2), (4, .int x4_4), (5, .int x5_5), (6, .int x6_6)] dX3_firstFault_55 rfl rfl rfl (Nat.le_of_ble_eq_true rfl) rfl ?_
          refine zV_goto (tgt := 155) C0 dX3_firstFault_58 rfl ?_
          refine zV_sub [2, 3, 4, 0, 5, 6, 7] rfl ?_
          exact Jk_20 x1_1 x2_2 (x3_3 + (-1 : Int32)) x4_4 x5_5 h
        · replace h := if_f hb_33 h
          refine zV_sub [7] rfl ?_
          exact Jk_32  h
set_option maxRecDepth 20000 in
theorem mX4_write_0 : Cond.fieldLink RX4 10 "LeggedThrough" "text" "LLeggedThrough$Text;" ∈ wsX4_write := by decide +kernel
set_option maxRecDepth 20000 in
theorem hinX4_write_X3 : ∀ w ∈ u_ws RX3 TX3 2, w ∈ wsX4_write := fun w h => List.mem_cons_of_mem _ (List.mem_append_right _ h)
set_option maxRecDepth 20000 in
theorem hinX4_write_X4 : ∀ w ∈ u_ws RX4 TX4 10, w ∈ wsX4_write := fun w h => List.mem_cons_of_mem _ (List.mem_append_left _ (List.mem_append_right _ h))
set_option maxRecDepth 20000 in
set_option maxHeartbeats 4000000 in
theorem k_X4_write {l : Launch} {D : va_G} {cI cZ : ClassId} {q : Nat} {ad : Nat → Nat} (a1 : Int32)  (S : zS) (r : Int32 × zS) (h : f_X4_write a1 S = some r) : zI l yX4_write wsX4_write (zRm 1 21) D (zty cI cZ) zNw (wC cI q ad) [.ref q, .int a1] S r := by
  refine zI_of (cc := cX4_write) (maxL := 2) (ty := .int) (by decide +kernel) rfl (Nat.le_of_ble_eq_true rfl) zNw_ok (fun E hE1 hE2 C0 hR => ?_)
  subst hE1; subst hE2
  replace C0 : zCx E (zRm 1 21) cX4_write 2 RX4 wsX4_write (zty cI cZ) zNw := C0
  show zV E (wC cI q ad) 2 S 0 [(0, .ref q), (1, .int a1)] []
  delta f_X4_write at h
  refine zV_iload_n (n := 1) C0 1 dX4_write_0 rfl rfl ?_
  refine zjoin_of h (fun k_1 hk_1 h => ?_)
  have Jk_1 : k_1 () = some r → zV E (wC cI q ad) 2 S 11 [] [] := by
    intro  h
    replace h := hk_1 _ h
    refine zV_bipush (n := 13) (v := (-2 : Int32)) C0 dX4_write_11 rfl rfl ?_
    exact zretI hR h rfl dX4_write_13
  clear hk_1
  refine zV_if_lt (tgt := 11) (n := 4) C0 dX4_write_1 rfl rfl (fun hb_9 => ?_) (fun hb_9 => ?_)
  · replace h := if_t hb_9 h
    refine zV_sub [] rfl ?_
    exact Jk_1  h
  · replace h := if_f hb_9 h
    refine zV_iload_n (n := 5) C0 1 dX4_write_4 rfl rfl ?_
    refine zV_sipush (n := 8) (v := (255 : Int32)) C0 dX4_write_5 rfl rfl ?_
    refine zV_icmp_le (tgt := 14) (n := 11) C0 dX4_write_8 rfl rfl (fun hb_8 => ?_) (fun hb_8 => ?_)
    · replace h := if_t hb_8 h
      refine zV_aload_n (n := 15) C0 0 dX4_write_14 rfl rfl ?_
      refine zV_get (n := 18) (ref := RX4) C0 hinX4_write_X4 0 rfl rfl 0 (Nat.le_of_ble_eq_true rfl) mX4_write_0 rfl rfl dX4_write_15 rfl ?_
      refine zV_iload_n (n := 19) C0 1 dX4_write_18 rfl rfl ?_
      obtain ⟨⟨r_3, S_4⟩, hc_2, h⟩ := ob_of h
      refine zV_callVI (n := 22) (st := []) (As := [.int a1]) C0 (k_X3_append a1 S _ hc_2) gX4_write_X3_append rfl (hd_X3_append) rfl ⟨rfl, rfl⟩ ⟨Nat.le_of_ble_eq_true rfl, Nat.le_of_ble_eq_true rfl⟩ 1 rfl rfl rfl (Nat.le_of_ble_eq_true rfl) dX4_write_19 rfl ?_
      refine zjoin_of h (fun k_6 hk_6 h => ?_)
      have Jk_6 : ∀ (s_5 : Int32), k_6 (s_5) = some r → zV E (wC cI q ad) 2 S_4 37 [] [.int s_5] := by
        intro s_5 h
        replace h := hk_6 _ h
        exact zretI hR h rfl dX4_write_37
      clear hk_6
      refine zV_if_eq (tgt := 35) (n := 25) C0 dX4_write_22 rfl rfl (fun hb_7 => ?_) (fun hb_7 => ?_)
      · replace h := if_t hb_7 h
        refine zV_bipush (n := 37) (v := (-4 : Int32)) C0 dX4_write_35 rfl rfl ?_
        refine zV_sub [] rfl ?_
        exact Jk_6 (-4 : Int32) h
      · replace h := if_f hb_7 h
        refine zV_aload_n (n := 26) C0 0 dX4_write_25 rfl rfl ?_
        refine zV_get (n := 29) (ref := RX4) C0 hinX4_write_X4 0 rfl rfl 0 (Nat.le_of_ble_eq_true rfl) mX4_write_0 rfl rfl dX4_write_26 rfl ?_
        refine zV_getN (n := 32) (ref := RX3) C0 hinX4_write_X3 1 rfl rfl 1 (Nat.le_of_ble_eq_true rfl) (fun hN => va_Nw.use rfl (hN _ (List.mem_of_getElem? (i := 0) rfl))) rfl rfl dX4_write_29 rfl ?_
        refine zV_goto (tgt := 37) C0 dX4_write_32 rfl ?_
        refine zV_sub [] rfl ?_
        exact Jk_6 (S_4.1 9) h
    · replace h := if_f hb_8 h
      refine zV_sub [] rfl ?_
      exact Jk_1  h
set_option maxRecDepth 20000 in
theorem mX4_wipe_0 : Cond.fieldLink RX4 10 "LeggedThrough" "text" "LLeggedThrough$Text;" ∈ wsX4_wipe := by decide +kernel
set_option maxRecDepth 20000 in
theorem hinX4_wipe_X3 : ∀ w ∈ u_ws RX3 TX3 2, w ∈ wsX4_wipe := fun w h => List.mem_cons_of_mem _ (List.mem_append_right _ h)
set_option maxRecDepth 20000 in
theorem hinX4_wipe_X4 : ∀ w ∈ u_ws RX4 TX4 10, w ∈ wsX4_wipe := fun w h => List.mem_cons_of_mem _ (List.mem_append_left _ (List.mem_append_right _ h))
set_option maxRecDepth 20000 in
set_option maxHeartbeats 4000000 in
theorem k_X4_wipe {l : Launch} {D : va_G} {cI cZ : ClassId} {q : Nat} {ad : Nat → Nat}   (S : zS) (r : Int32 × zS) (h : f_X4_wipe  S = some r) : zI l yX4_wipe wsX4_wipe (zRm 0 0) D (zty cI cZ) zNw (wC cI q ad) [.ref q] S r := by
  refine zI_of (cc := cX4_wipe) (maxL := 2) (ty := .int) (by decide +kernel) rfl (Nat.le_of_ble_eq_true rfl) zNw_ok (fun E hE1 hE2 C0 hR => ?_)
  subst hE1; subst hE2
  replace C0 : zCx E (zRm 0 0) cX4_wipe 2 RX4 wsX4_wipe (zty cI cZ) zNw := C0
  show zV E (wC cI q ad) 2 S 0 [(0, .ref q)] []
  delta f_X4_wipe at h
  refine zV_aload_n (n := 1) C0 0 dX4_wipe_0 rfl rfl ?_
  refine zV_get (n := 4) (ref := RX4) C0 hinX4_wipe_X4 0 rfl rfl 0 (Nat.le_of_ble_eq_true rfl) mX4_wipe_0 rfl rfl dX4_wipe_1 rfl ?_
  refine zV_getN (n := 7) (ref := RX3) C0 hinX4_wipe_X3 1 rfl rfl 1 (Nat.le_of_ble_eq_true rfl) (fun hN => va_Nw.use rfl (hN _ (List.mem_of_getElem? (i := 0) rfl))) rfl rfl dX4_wipe_4 rfl ?_
  refine zV_topi (fun x1_1 ex1_1 => ?_)
  replace h := zlet_of ex1_1 h
  clear ex1_1
  refine zV_istore_n (n := 8) C0 [(1, .int x1_1), (0, .ref q)] dX4_wipe_7 rfl rfl (Nat.le_of_ble_eq_true rfl) rfl ?_
  refine zV_aload_n (n := 9) C0 1 dX4_wipe_8 rfl rfl ?_
  refine zV_get (n := 12) (ref := RX4) C0 hinX4_wipe_X4 0 rfl rfl 0 (Nat.le_of_ble_eq_true rfl) mX4_wipe_0 rfl rfl dX4_wipe_9 rfl ?_
  refine zV_iconst (n := 13) (v := (0 : Int32)) C0 dX4_wipe_12 rfl rfl ?_
  refine zV_putN (n := 16) (ref := RX3) C0 hinX4_wipe_X3 1 rfl rfl 1 (Nat.le_of_ble_eq_true rfl) (fun hN => va_Nw.use rfl (hN _ (List.mem_of_getElem? (i := 0) rfl))) rfl tyX3 tyX3_ok nmX3 rfl (tyX3_ok 1 (Nat.le_of_ble_eq_true rfl)) rfl rfl (Nat.le_of_ble_eq_true rfl) (upd S.1 9 (0 : Int32), S.2) (wC_f9 cI q ad S (0 : Int32)) dX4_wipe_13 rfl ?_
  refine zV_topS (fun S_2 eS_2 => ?_)
  replace h := zlet_of eS_2 h
  clear eS_2
  refine zV_iload_n (n := 17) C0 0 dX4_wipe_16 rfl rfl ?_
  exact zretI hR h rfl dX4_wipe_17
set_option maxRecDepth 20000 in
theorem mX4_fault_0 : Cond.fieldLink RX4 10 "LeggedThrough" "text" "LLeggedThrough$Text;" ∈ wsX4_fault := by decide +kernel
set_option maxRecDepth 20000 in
theorem hinX4_fault_X4 : ∀ w ∈ u_ws RX4 TX4 10, w ∈ wsX4_fault := fun w h => List.mem_cons_of_mem _ (List.mem_append_left _ (List.mem_append_right _ h))
set_option maxRecDepth 20000 in
set_option maxHeartbeats 4000000 in
theorem k_X4_fault {l : Launch} {D : va_G} {cI cZ : ClassId} {q : Nat} {ad : Nat → Nat}   (S : zS) (r : Int32) (h : f_X4_fault  S = some r) : zI l yX4_fault wsX4_fault (zRm 2 48) D (zty cI cZ) zNw (wC cI q ad) [.ref q] S (r, S) := by
  refine zI_of (cc := cX4_fault) (maxL := 1) (ty := .int) (by decide +kernel) rfl (Nat.le_of_ble_eq_true rfl) zNw_ok (fun E hE1 hE2 C0 hR => ?_)
  subst hE1; subst hE2
  replace C0 : zCx E (zRm 2 48) cX4_fault 1 RX4 wsX4_fault (zty cI cZ) zNw := C0
  show zV E (wC cI q ad) 1 S 0 [(0, .ref q)] []
  delta f_X4_fault at h
  refine zV_aload_n (n := 1) C0 0 dX4_fault_0 rfl rfl ?_
  refine zV_get (n := 4) (ref := RX4) C0 hinX4_fault_X4 0 rfl rfl 0 (Nat.le_of_ble_eq_true rfl) mX4_fault_0 rfl rfl dX4_fault_1 rfl ?_
  obtain ⟨r_2, hc_1, h⟩ := ob_of h
  refine zV_callVI (n := 7) (st := []) (As := []) C0 (k_X3_firstFault  S _ hc_1) gX4_fault_X3_firstFault rfl (hd_X3_firstFault) rfl ⟨rfl, rfl⟩ ⟨Nat.le_of_ble_eq_true rfl, Nat.le_of_ble_eq_true rfl⟩ 1 rfl rfl rfl (Nat.le_of_ble_eq_true rfl) dX4_fault_4 rfl ?_
  exact zretI1 hR h rfl dX4_fault_7
set_option maxRecDepth 20000 in
theorem mX4_readTunnel_0 : Cond.fieldLink RX4 19 "LeggedThrough" "plan" "LLeggedThrough$Plan;" ∈ wsX4_readTunnel := by decide +kernel
set_option maxRecDepth 20000 in
theorem mX4_readTunnel_1 : Cond.fieldLink RX4 10 "LeggedThrough" "text" "LLeggedThrough$Text;" ∈ wsX4_readTunnel := by decide +kernel
set_option maxRecDepth 20000 in
theorem mX4_readTunnel_2 : Cond.fieldLink RX4 26 "LeggedThrough" "state" "LLeggedThrough$State;" ∈ wsX4_readTunnel := by decide +kernel
set_option maxRecDepth 20000 in
theorem hinX4_readTunnel_X1 : ∀ w ∈ u_ws RX1 TX1 5, w ∈ wsX4_readTunnel := fun w h => List.mem_cons_of_mem _ (List.mem_append_left _ (List.mem_append_right _ h))
set_option maxRecDepth 20000 in
theorem hinX4_readTunnel_X3 : ∀ w ∈ u_ws RX3 TX3 2, w ∈ wsX4_readTunnel := fun w h => List.mem_cons_of_mem _ (List.mem_append_left _ (List.mem_append_left _ (List.mem_append_right _ h)))
set_option maxRecDepth 20000 in
theorem hinX4_readTunnel_X4 : ∀ w ∈ u_ws RX4 TX4 10, w ∈ wsX4_readTunnel := fun w h => List.mem_cons_of_mem _ (List.mem_append_left _ (List.mem_append_left _ (List.mem_append_left _ (List.mem_append_right _ h))))
set_option maxRecDepth 20000 in
set_option maxHeartbeats 4000000 in
theorem k_X4_readTunnel {l : Launch} {D : va_G} {cI cZ : ClassId} {q : Nat} {ad : Nat → Nat}   (S : zS) (r : zS) (h : f_X4_readTunnel  S = some r) : zU l yX4_readTunnel wsX4_readTunnel (zRm 2 42) D (zty cI cZ) zNw (wC cI q ad) [.ref q] S r := by
  refine zU_of (cc := cX4_readTunnel) (maxL := 3)  (by decide +kernel) rfl (Nat.le_of_ble_eq_true rfl) zNw_ok (fun E hE1 hE2 C0 hR => ?_)
  subst hE1; subst hE2
  replace C0 : zCx E (zRm 2 42) cX4_readTunnel 3 RX4 wsX4_readTunnel (zty cI cZ) zNw := C0
  show zV E (wC cI q ad) 3 S 0 [(0, .ref q)] []
  delta f_X4_readTunnel at h
  refine zV_aload_n (n := 1) C0 0 dX4_readTunnel_0 rfl rfl ?_
  refine zV_get (n := 4) (ref := RX4) C0 hinX4_readTunnel_X4 0 rfl rfl 1 (Nat.le_of_ble_eq_true rfl) mX4_readTunnel_0 rfl rfl dX4_readTunnel_1 rfl ?_
  refine zV_aload_n (n := 5) C0 0 dX4_readTunnel_4 rfl rfl ?_
  refine zV_get (n := 8) (ref := RX4) C0 hinX4_readTunnel_X4 0 rfl rfl 0 (Nat.le_of_ble_eq_true rfl) mX4_readTunnel_1 rfl rfl dX4_readTunnel_5 rfl ?_
  refine zV_iconst (n := 9) (v := (1 : Int32)) C0 dX4_readTunnel_8 rfl rfl ?_
  obtain ⟨r_2, hc_1, h⟩ := ob_of h
  refine zV_callVI (n := 12) (st := [.ref (ad 1)]) (As := [.int (1 : Int32)]) C0 (k_X3_figureAt (1 : Int32) S _ hc_1) gX4_readTunnel_X3_figureAt rfl (hd_X3_figureAt) rfl ⟨rfl, rfl⟩ ⟨Nat.le_of_ble_eq_true rfl, Nat.le_of_ble_eq_true rfl⟩ 1 rfl rfl rfl (Nat.le_of_ble_eq_true rfl) dX4_readTunnel_9 rfl ?_
  obtain ⟨S_4, hc_3, h⟩ := ob_of h
  refine zV_callVU (n := 15) (st := []) (As := [.int r_2]) C0 (k_X1_layOut r_2 S _ hc_3) gX4_readTunnel_X1_layOut rfl (hd_X1_layOut) rfl ⟨rfl, rfl⟩ ⟨Nat.le_of_ble_eq_true rfl, Nat.le_of_ble_eq_true rfl⟩ 2 rfl rfl rfl (Nat.le_of_ble_eq_true rfl) dX4_readTunnel_12 rfl ?_
  refine zV_aload_n (n := 16) C0 0 dX4_readTunnel_15 rfl rfl ?_
  refine zV_get (n := 19) (ref := RX4) C0 hinX4_readTunnel_X4 0 rfl rfl 2 (Nat.le_of_ble_eq_true rfl) mX4_readTunnel_2 rfl rfl dX4_readTunnel_16 rfl ?_
  obtain ⟨S_6, hc_5, h⟩ := ob_of h
  refine zV_callVU (n := 22) (st := []) (As := []) C0 (k_X2_clear  S_4 _ hc_5) gX4_readTunnel_X2_clear rfl (hd_X2_clear) rfl ⟨rfl, rfl⟩ ⟨Nat.le_of_ble_eq_true rfl, Nat.le_of_ble_eq_true rfl⟩ 3 rfl rfl rfl (Nat.le_of_ble_eq_true rfl) dX4_readTunnel_19 rfl ?_
  refine zV_iconst (n := 23) (v := (2 : Int32)) C0 dX4_readTunnel_22 rfl rfl ?_
  refine zV_istore_n (n := 24) C0 [(1, .int (2 : Int32)), (0, .ref q)] dX4_readTunnel_23 rfl rfl (Nat.le_of_ble_eq_true rfl) rfl ?_
  refine zV_sub [1, 0] rfl ?_
  refine zfix_ind (fun e => zV E (wC cI q ad) 3 e.2 24 [(0, .ref q), (1, .int e.1)] []) (fun rec_9 hrec_9 e h => ?_) zN ((2 : Int32), S_6) h
  obtain ⟨x1_7, S_8⟩ := e
  have Jrec_9 : ∀ (x1_7 : Int32) (S_8 : zS), rec_9 (x1_7, S_8) = some r → zV E (wC cI q ad) 3 S_8 24 [(0, .ref q), (1, .int x1_7)] [] := fun x1_7 S_8 h => hrec_9 _ h
  clear hrec_9
  dsimp only [F_X4_readTunnel_24] at h
  show zV E (wC cI q ad) 3 S_8 24 [(0, .ref q), (1, .int x1_7)] []
  refine zV_iload_n (n := 25) C0 1 dX4_readTunnel_24 rfl rfl ?_
  refine zV_aload_n (n := 26) C0 0 dX4_readTunnel_25 rfl rfl ?_
  refine zV_get (n := 29) (ref := RX4) C0 hinX4_readTunnel_X4 0 rfl rfl 0 (Nat.le_of_ble_eq_true rfl) mX4_readTunnel_1 rfl rfl dX4_readTunnel_26 rfl ?_
  refine zV_getN (n := 32) (ref := RX3) C0 hinX4_readTunnel_X3 1 rfl rfl 1 (Nat.le_of_ble_eq_true rfl) (fun hN => va_Nw.use rfl (hN _ (List.mem_of_getElem? (i := 0) rfl))) rfl rfl dX4_readTunnel_29 rfl ?_
  refine zV_icmp_ge (tgt := 134) (n := 35) C0 dX4_readTunnel_32 rfl rfl (fun hb_29 => ?_) (fun hb_29 => ?_)
  · replace h := if_t hb_29 h
    exact zretU hR h dX4_readTunnel_134
  · replace h := if_f hb_29 h
    refine zV_aload_n (n := 36) C0 0 dX4_readTunnel_35 rfl rfl ?_
    refine zV_get (n := 39) (ref := RX4) C0 hinX4_readTunnel_X4 0 rfl rfl 0 (Nat.le_of_ble_eq_true rfl) mX4_readTunnel_1 rfl rfl dX4_readTunnel_36 rfl ?_
    refine zV_iload_n (n := 40) C0 1 dX4_readTunnel_39 rfl rfl ?_
    obtain ⟨r_11, hc_10, h⟩ := ob_of h
    refine zV_callVI (n := 43) (st := []) (As := [.int x1_7]) C0 (k_X3_letterAt x1_7 S_8 _ hc_10) gX4_readTunnel_X3_letterAt rfl (hd_X3_letterAt) rfl ⟨rfl, rfl⟩ ⟨Nat.le_of_ble_eq_true rfl, Nat.le_of_ble_eq_true rfl⟩ 1 rfl rfl rfl (Nat.le_of_ble_eq_true rfl) dX4_readTunnel_40 rfl ?_
    refine zV_bipush (n := 45) (v := (71 : Int32)) C0 dX4_readTunnel_43 rfl rfl ?_
    refine zV_icmp_ne (tgt := 111) (n := 48) C0 dX4_readTunnel_45 rfl rfl (fun hb_28 => ?_) (fun hb_28 => ?_)
    · replace h := if_f hb_28 h
      refine zV_aload_n (n := 112) C0 0 dX4_readTunnel_111 rfl rfl ?_
      refine zV_get (n := 115) (ref := RX4) C0 hinX4_readTunnel_X4 0 rfl rfl 1 (Nat.le_of_ble_eq_true rfl) mX4_readTunnel_0 rfl rfl dX4_readTunnel_112 rfl ?_
      refine zV_aload_n (n := 116) C0 0 dX4_readTunnel_115 rfl rfl ?_
      refine zV_get (n := 119) (ref := RX4) C0 hinX4_readTunnel_X4 0 rfl rfl 0 (Nat.le_of_ble_eq_true rfl) mX4_readTunnel_1 rfl rfl dX4_readTunnel_116 rfl ?_
      refine zV_iload_n (n := 120) C0 1 dX4_readTunnel_119 rfl rfl ?_
      refine zV_iconst (n := 121) (v := (1 : Int32)) C0 dX4_readTunnel_120 rfl rfl ?_
      refine zV_iadd (n := 122) C0 dX4_readTunnel_121  rfl ?_
      obtain ⟨r_13, hc_12, h⟩ := ob_of h
      refine zV_callVI (n := 125) (st := [.ref (ad 1)]) (As := [.int (x1_7 + (1 : Int32))]) C0 (k_X3_figureAt (x1_7 + (1 : Int32)) S_8 _ hc_12) gX4_readTunnel_X3_figureAt rfl (hd_X3_figureAt) rfl ⟨rfl, rfl⟩ ⟨Nat.le_of_ble_eq_true rfl, Nat.le_of_ble_eq_true rfl⟩ 1 rfl rfl rfl (Nat.le_of_ble_eq_true rfl) dX4_readTunnel_122 rfl ?_
      obtain ⟨S_15, hc_14, h⟩ := ob_of h
      refine zV_callVU (n := 128) (st := []) (As := [.int r_13]) C0 (k_X1_addBoat r_13 S_8 _ hc_14) gX4_readTunnel_X1_addBoat rfl (hd_X1_addBoat) rfl ⟨rfl, rfl⟩ ⟨Nat.le_of_ble_eq_true rfl, Nat.le_of_ble_eq_true rfl⟩ 2 rfl rfl rfl (Nat.le_of_ble_eq_true rfl) dX4_readTunnel_125 rfl ?_
      refine zV_iinc (n := 131) C0 1 (v := (x1_7 + (2 : Int32))) [(1, .int (x1_7 + (2 : Int32))), (0, .ref q)] dX4_readTunnel_128 rfl rfl rfl (Nat.le_of_ble_eq_true rfl) rfl ?_
      refine zV_goto (tgt := 24) C0 dX4_readTunnel_131 rfl ?_
      refine zV_sub [1, 0] rfl ?_
      exact Jrec_9 (x1_7 + (2 : Int32)) S_15 h
    · replace h := if_t hb_28 h
      refine zV_iconst (n := 49) (v := (0 : Int32)) C0 dX4_readTunnel_48 rfl rfl ?_
      refine zV_istore_n (n := 50) C0 [(2, .int (0 : Int32)), (0, .ref q), (1, .int x1_7)] dX4_readTunnel_49 rfl rfl (Nat.le_of_ble_eq_true rfl) rfl ?_
      refine zV_sub [1, 2, 0] rfl ?_
      refine zfix_ind (fun e => zV E (wC cI q ad) 3 e.2 50 [(0, .ref q), (1, .int x1_7), (2, .int e.1)] []) (fun rec_18 hrec_18 e h => ?_) zN ((0 : Int32), S_8) h
      obtain ⟨x2_16, S_17⟩ := e
      have Jrec_18 : ∀ (x2_16 : Int32) (S_17 : zS), rec_18 (x2_16, S_17) = some r → zV E (wC cI q ad) 3 S_17 50 [(0, .ref q), (1, .int x1_7), (2, .int x2_16)] [] := fun x2_16 S_17 h => hrec_18 _ h
      clear hrec_18
      dsimp only [F_X4_readTunnel_50] at h
      show zV E (wC cI q ad) 3 S_17 50 [(0, .ref q), (1, .int x1_7), (2, .int x2_16)] []
      refine zV_iload_n (n := 51) C0 2 dX4_readTunnel_50 rfl rfl ?_
      refine zV_iconst (n := 52) (v := (4 : Int32)) C0 dX4_readTunnel_51 rfl rfl ?_
      refine zV_icmp_ge (tgt := 88) (n := 55) C0 dX4_readTunnel_52 rfl rfl (fun hb_27 => ?_) (fun hb_27 => ?_)
      · replace h := if_t hb_27 h
        refine zV_aload_n (n := 89) C0 0 dX4_readTunnel_88 rfl rfl ?_
        refine zV_get (n := 92) (ref := RX4) C0 hinX4_readTunnel_X4 0 rfl rfl 1 (Nat.le_of_ble_eq_true rfl) mX4_readTunnel_0 rfl rfl dX4_readTunnel_89 rfl ?_
        refine zV_aload_n (n := 93) C0 0 dX4_readTunnel_92 rfl rfl ?_
        refine zV_get (n := 96) (ref := RX4) C0 hinX4_readTunnel_X4 0 rfl rfl 0 (Nat.le_of_ble_eq_true rfl) mX4_readTunnel_1 rfl rfl dX4_readTunnel_93 rfl ?_
        refine zV_iload_n (n := 97) C0 1 dX4_readTunnel_96 rfl rfl ?_
        refine zV_iconst (n := 98) (v := (1 : Int32)) C0 dX4_readTunnel_97 rfl rfl ?_
        refine zV_iadd (n := 99) C0 dX4_readTunnel_98  rfl ?_
        obtain ⟨r_20, hc_19, h⟩ := ob_of h
        refine zV_callVI (n := 102) (st := [.ref (ad 1)]) (As := [.int (x1_7 + (1 : Int32))]) C0 (k_X3_figureAt (x1_7 + (1 : Int32)) S_17 _ hc_19) gX4_readTunnel_X3_figureAt rfl (hd_X3_figureAt) rfl ⟨rfl, rfl⟩ ⟨Nat.le_of_ble_eq_true rfl, Nat.le_of_ble_eq_true rfl⟩ 1 rfl rfl rfl (Nat.le_of_ble_eq_true rfl) dX4_readTunnel_99 rfl ?_
        obtain ⟨S_22, hc_21, h⟩ := ob_of h
        refine zV_callVU (n := 105) (st := []) (As := [.int r_20]) C0 (k_X1_addLegger r_20 S_17 _ hc_21) gX4_readTunnel_X1_addLegger rfl (hd_X1_addLegger) rfl ⟨rfl, rfl⟩ ⟨Nat.le_of_ble_eq_true rfl, Nat.le_of_ble_eq_true rfl⟩ 2 rfl rfl rfl (Nat.le_of_ble_eq_true rfl) dX4_readTunnel_102 rfl ?_
        refine zV_iinc (n := 108) C0 1 (v := (x1_7 + (6 : Int32))) [(1, .int (x1_7 + (6 : Int32))), (0, .ref q), (2, .int x2_16)] dX4_readTunnel_105 rfl rfl rfl (Nat.le_of_ble_eq_true rfl) rfl ?_
        refine zV_goto (tgt := 24) C0 dX4_readTunnel_108 rfl ?_
        refine zV_sub [1, 0] rfl ?_
        exact Jrec_9 (x1_7 + (6 : Int32)) S_22 h
      · replace h := if_f hb_27 h
        refine zV_aload_n (n := 56) C0 0 dX4_readTunnel_55 rfl rfl ?_
        refine zV_get (n := 59) (ref := RX4) C0 hinX4_readTunnel_X4 0 rfl rfl 2 (Nat.le_of_ble_eq_true rfl) mX4_readTunnel_2 rfl rfl dX4_readTunnel_56 rfl ?_
        refine zV_aload_n (n := 60) C0 0 dX4_readTunnel_59 rfl rfl ?_
        refine zV_get (n := 63) (ref := RX4) C0 hinX4_readTunnel_X4 0 rfl rfl 1 (Nat.le_of_ble_eq_true rfl) mX4_readTunnel_0 rfl rfl dX4_readTunnel_60 rfl ?_
        refine zV_getN (n := 66) (ref := RX1) C0 hinX4_readTunnel_X1 2 rfl rfl 1 (Nat.le_of_ble_eq_true rfl) (fun hN => va_Nw.use rfl (hN _ (List.mem_of_getElem? (i := 2) rfl))) rfl rfl dX4_readTunnel_63 rfl ?_
        refine zV_iload_n (n := 67) C0 2 dX4_readTunnel_66 rfl rfl ?_
        refine zV_aload_n (n := 68) C0 0 dX4_readTunnel_67 rfl rfl ?_
        refine zV_get (n := 71) (ref := RX4) C0 hinX4_readTunnel_X4 0 rfl rfl 0 (Nat.le_of_ble_eq_true rfl) mX4_readTunnel_1 rfl rfl dX4_readTunnel_68 rfl ?_
        refine zV_iload_n (n := 72) C0 1 dX4_readTunnel_71 rfl rfl ?_
        refine zV_iconst (n := 73) (v := (2 : Int32)) C0 dX4_readTunnel_72 rfl rfl ?_
        refine zV_iadd (n := 74) C0 dX4_readTunnel_73  rfl ?_
        refine zV_iload_n (n := 75) C0 2 dX4_readTunnel_74 rfl rfl ?_
        refine zV_iadd (n := 76) C0 dX4_readTunnel_75  rfl ?_
        obtain ⟨r_24, hc_23, h⟩ := ob_of h
        refine zV_callVI (n := 79) (st := [.int x2_16, .int (S_17.1 11), .ref (ad 2)]) (As := [.int ((x1_7 + (2 : Int32)) + x2_16)]) C0 (k_X3_figureAt ((x1_7 + (2 : Int32)) + x2_16) S_17 _ hc_23) gX4_readTunnel_X3_figureAt rfl (hd_X3_figureAt) rfl ⟨rfl, rfl⟩ ⟨Nat.le_of_ble_eq_true rfl, Nat.le_of_ble_eq_true rfl⟩ 1 rfl rfl rfl (Nat.le_of_ble_eq_true rfl) dX4_readTunnel_76 rfl ?_
        obtain ⟨S_26, hc_25, h⟩ := ob_of h
        refine zV_callVU (n := 82) (st := []) (As := [.int (S_17.1 11), .int x2_16, .int r_24]) C0 (k_X2_cover (S_17.1 11) x2_16 r_24 S_17 _ hc_25) gX4_readTunnel_X2_cover rfl (hd_X2_cover) rfl ⟨rfl, rfl⟩ ⟨Nat.le_of_ble_eq_true rfl, Nat.le_of_ble_eq_true rfl⟩ 3 rfl rfl rfl (Nat.le_of_ble_eq_true rfl) dX4_readTunnel_79 rfl ?_
        refine zV_iinc (n := 85) C0 2 (v := (x2_16 + (1 : Int32))) [(2, .int (x2_16 + (1 : Int32))), (0, .ref q), (1, .int x1_7)] dX4_readTunnel_82 rfl rfl rfl (Nat.le_of_ble_eq_true rfl) rfl ?_
        refine zV_goto (tgt := 50) C0 dX4_readTunnel_85 rfl ?_
        refine zV_sub [1, 2, 0] rfl ?_
        exact Jrec_18 (x2_16 + (1 : Int32)) S_26 h
set_option maxRecDepth 20000 in
theorem mX4_tunnel_0 : Cond.fieldLink RX4 10 "LeggedThrough" "text" "LLeggedThrough$Text;" ∈ wsX4_tunnel := by decide +kernel
set_option maxRecDepth 20000 in
theorem mX4_tunnel_1 : Cond.fieldLink RX4 33 "LeggedThrough" "acts" "LLeggedThrough$Acts;" ∈ wsX4_tunnel := by decide +kernel
set_option maxRecDepth 20000 in
theorem mX4_tunnel_2 : Cond.fieldLink RX4 62 "LeggedThrough" "slotsKept" "I" ∈ wsX4_tunnel := by decide +kernel
set_option maxRecDepth 20000 in
theorem mX4_tunnel_3 : Cond.fieldLink RX4 19 "LeggedThrough" "plan" "LLeggedThrough$Plan;" ∈ wsX4_tunnel := by decide +kernel
set_option maxRecDepth 20000 in
theorem hinX4_tunnel_X1 : ∀ w ∈ u_ws RX1 TX1 5, w ∈ wsX4_tunnel := fun w h => List.mem_cons_of_mem _ (List.mem_append_left _ (List.mem_append_left _ (List.mem_append_left _ (List.mem_append_right _ h))))
set_option maxRecDepth 20000 in
theorem hinX4_tunnel_X4 : ∀ w ∈ u_ws RX4 TX4 10, w ∈ wsX4_tunnel := fun w h => List.mem_cons_of_mem _ (List.mem_append_left _ (List.mem_append_left _ (List.mem_append_left _ (List.mem_append_left _ (List.mem_append_right _ h)))))
set_option maxRecDepth 20000 in
set_option maxHeartbeats 4000000 in
theorem k_X4_tunnel {l : Launch} {D : va_G} {cI cZ : ClassId} {q : Nat} {ad : Nat → Nat}   (S : zS) (r : Int32 × zS) (h : f_X4_tunnel  S = some r) : zI l yX4_tunnel wsX4_tunnel (zRm 3 64) D (zty cI cZ) zNw (wC cI q ad) [.ref q] S r := by
  refine zI_of (cc := cX4_tunnel) (maxL := 1) (ty := .int) (by decide +kernel) rfl (Nat.le_of_ble_eq_true rfl) zNw_ok (fun E hE1 hE2 C0 hR => ?_)
  subst hE1; subst hE2
  replace C0 : zCx E (zRm 3 64) cX4_tunnel 1 RX4 wsX4_tunnel (zty cI cZ) zNw := C0
  show zV E (wC cI q ad) 1 S 0 [(0, .ref q)] []
  delta f_X4_tunnel at h
  refine zV_aload_n (n := 1) C0 0 dX4_tunnel_0 rfl rfl ?_
  refine zV_get (n := 4) (ref := RX4) C0 hinX4_tunnel_X4 0 rfl rfl 0 (Nat.le_of_ble_eq_true rfl) mX4_tunnel_0 rfl rfl dX4_tunnel_1 rfl ?_
  obtain ⟨r_2, hc_1, h⟩ := ob_of h
  refine zV_callVI (n := 7) (st := []) (As := []) C0 (k_X3_firstFault  S _ hc_1) gX4_tunnel_X3_firstFault rfl (hd_X3_firstFault) rfl ⟨rfl, rfl⟩ ⟨Nat.le_of_ble_eq_true rfl, Nat.le_of_ble_eq_true rfl⟩ 1 rfl rfl rfl (Nat.le_of_ble_eq_true rfl) dX4_tunnel_4 rfl ?_
  refine zV_bipush (n := 9) (v := (-9 : Int32)) C0 dX4_tunnel_7 rfl rfl ?_
  refine zV_icmp_eq (tgt := 15) (n := 12) C0 dX4_tunnel_9 rfl rfl (fun hb_8 => ?_) (fun hb_8 => ?_)
  · replace h := if_t hb_8 h
    refine zV_aload_n (n := 16) C0 0 dX4_tunnel_15 rfl rfl ?_
    obtain ⟨S_4, hc_3, h⟩ := ob_of h
    refine zV_callVU (n := 19) (st := []) (As := []) C0 (k_X4_readTunnel  S _ hc_3) gX4_tunnel_X4_readTunnel rfl (hd_X4_readTunnel) rfl ⟨rfl, rfl⟩ ⟨Nat.le_of_ble_eq_true rfl, Nat.le_of_ble_eq_true rfl⟩ 0 rfl rfl rfl (Nat.le_of_ble_eq_true rfl) dX4_tunnel_16 rfl ?_
    refine zV_aload_n (n := 20) C0 0 dX4_tunnel_19 rfl rfl ?_
    refine zV_get (n := 23) (ref := RX4) C0 hinX4_tunnel_X4 0 rfl rfl 3 (Nat.le_of_ble_eq_true rfl) mX4_tunnel_1 rfl rfl dX4_tunnel_20 rfl ?_
    obtain ⟨S_6, hc_5, h⟩ := ob_of h
    refine zV_callVU (n := 26) (st := []) (As := []) C0 (k_X0_forgetAll  S_4 _ hc_5) gX4_tunnel_X0_forgetAll rfl (hd_X0_forgetAll) rfl ⟨rfl, rfl⟩ ⟨Nat.le_of_ble_eq_true rfl, Nat.le_of_ble_eq_true rfl⟩ 4 rfl rfl rfl (Nat.le_of_ble_eq_true rfl) dX4_tunnel_23 rfl ?_
    refine zV_aload_n (n := 27) C0 0 dX4_tunnel_26 rfl rfl ?_
    refine zV_iconst (n := 28) (v := (0 : Int32)) C0 dX4_tunnel_27 rfl rfl ?_
    refine zV_put (n := 31) (ref := RX4) C0 hinX4_tunnel_X4 0 rfl rfl 6 (Nat.le_of_ble_eq_true rfl) mX4_tunnel_2 rfl tyX4 tyX4_ok nmX4 rfl (tyX4_ok 6 (Nat.le_of_ble_eq_true rfl)) rfl rfl (Nat.le_of_ble_eq_true rfl) (upd S_6.1 6 (0 : Int32), S_6.2) (wC_f6 cI q ad S_6 (0 : Int32)) dX4_tunnel_28 rfl ?_
    refine zV_topS (fun S_7 eS_7 => ?_)
    replace h := zlet_of eS_7 h
    clear eS_7
    refine zV_bipush (n := 33) (v := (10 : Int32)) C0 dX4_tunnel_31 rfl rfl ?_
    refine zV_aload_n (n := 34) C0 0 dX4_tunnel_33 rfl rfl ?_
    refine zV_get (n := 37) (ref := RX4) C0 hinX4_tunnel_X4 0 rfl rfl 1 (Nat.le_of_ble_eq_true rfl) mX4_tunnel_3 rfl rfl dX4_tunnel_34 rfl ?_
    refine zV_getN (n := 40) (ref := RX1) C0 hinX4_tunnel_X1 2 rfl rfl 1 (Nat.le_of_ble_eq_true rfl) (fun hN => va_Nw.use rfl (hN _ (List.mem_of_getElem? (i := 2) rfl))) rfl rfl dX4_tunnel_37 rfl ?_
    refine zV_imul (n := 41) C0 dX4_tunnel_40  rfl ?_
    refine zV_aload_n (n := 42) C0 0 dX4_tunnel_41 rfl rfl ?_
    refine zV_get (n := 45) (ref := RX4) C0 hinX4_tunnel_X4 0 rfl rfl 1 (Nat.le_of_ble_eq_true rfl) mX4_tunnel_3 rfl rfl dX4_tunnel_42 rfl ?_
    refine zV_getN (n := 48) (ref := RX1) C0 hinX4_tunnel_X1 2 rfl rfl 2 (Nat.le_of_ble_eq_true rfl) (fun hN => va_Nw.use rfl (hN _ (List.mem_of_getElem? (i := 3) rfl))) rfl rfl dX4_tunnel_45 rfl ?_
    refine zV_iadd (n := 49) C0 dX4_tunnel_48  rfl ?_
    exact zretI hR h rfl dX4_tunnel_49
  · replace h := if_f hb_8 h
    refine zV_bipush (n := 14) (v := (-3 : Int32)) C0 dX4_tunnel_12 rfl rfl ?_
    exact zretI hR h rfl dX4_tunnel_14
set_option maxRecDepth 20000 in
theorem mX4_about_0 : Cond.fieldLink RX4 19 "LeggedThrough" "plan" "LLeggedThrough$Plan;" ∈ wsX4_about := by decide +kernel
set_option maxRecDepth 20000 in
theorem mX4_about_1 : Cond.fieldLink RX4 26 "LeggedThrough" "state" "LLeggedThrough$State;" ∈ wsX4_about := by decide +kernel
set_option maxRecDepth 20000 in
theorem mX4_about_2 : Cond.fieldLink RX4 33 "LeggedThrough" "acts" "LLeggedThrough$Acts;" ∈ wsX4_about := by decide +kernel
set_option maxRecDepth 20000 in
theorem mX4_about_3 : Cond.fieldLink RX4 83 "LeggedThrough" "seenMany" "I" ∈ wsX4_about := by decide +kernel
set_option maxRecDepth 20000 in
theorem mX4_about_4 : Cond.fieldLink RX4 10 "LeggedThrough" "text" "LLeggedThrough$Text;" ∈ wsX4_about := by decide +kernel
set_option maxRecDepth 20000 in
theorem hinX4_about_X0 : ∀ w ∈ u_ws RX0 TX0 3, w ∈ wsX4_about := fun w h => List.mem_cons_of_mem _ (List.mem_append_left _ (List.mem_append_right _ h))
set_option maxRecDepth 20000 in
theorem hinX4_about_X1 : ∀ w ∈ u_ws RX1 TX1 5, w ∈ wsX4_about := fun w h => List.mem_cons_of_mem _ (List.mem_append_left _ (List.mem_append_left _ (List.mem_append_left _ (List.mem_append_right _ h))))
set_option maxRecDepth 20000 in
theorem hinX4_about_X2 : ∀ w ∈ u_ws RX2 TX2 4, w ∈ wsX4_about := fun w h => List.mem_cons_of_mem _ (List.mem_append_left _ (List.mem_append_left _ (List.mem_append_right _ h)))
set_option maxRecDepth 20000 in
theorem hinX4_about_X3 : ∀ w ∈ u_ws RX3 TX3 2, w ∈ wsX4_about := fun w h => List.mem_cons_of_mem _ (List.mem_append_right _ h)
set_option maxRecDepth 20000 in
theorem hinX4_about_X4 : ∀ w ∈ u_ws RX4 TX4 10, w ∈ wsX4_about := fun w h => List.mem_cons_of_mem _ (List.mem_append_left _ (List.mem_append_left _ (List.mem_append_left _ (List.mem_append_left _ (List.mem_append_right _ h)))))
set_option maxRecDepth 20000 in
set_option maxHeartbeats 4000000 in
theorem k_X4_about {l : Launch} {D : va_G} {cI cZ : ClassId} {q : Nat} {ad : Nat → Nat} (a1 : Int32)  (S : zS) (r : Int32) (h : f_X4_about a1 S = some r) : zI l yX4_about wsX4_about (zRm 0 0) D (zty cI cZ) zNw (wC cI q ad) [.ref q, .int a1] S (r, S) := by
  refine zI_of (cc := cX4_about) (maxL := 2) (ty := .int) (by decide +kernel) rfl (Nat.le_of_ble_eq_true rfl) zNw_ok (fun E hE1 hE2 C0 hR => ?_)
  subst hE1; subst hE2
  replace C0 : zCx E (zRm 0 0) cX4_about 2 RX4 wsX4_about (zty cI cZ) zNw := C0
  show zV E (wC cI q ad) 2 S 0 [(0, .ref q), (1, .int a1)] []
  delta f_X4_about at h
  refine zV_iload_n (n := 1) C0 1 dX4_about_0 rfl rfl ?_
  by_cases hs_1 : a1 = (0 : Int32)
  · replace h := if_t hs_1 h
    refine zV_tableIn (off := 47) (tgt := 48) C0 dX4_about_1 (by rw [hs_1]; decide) (by rw [hs_1]; decide) (by rw [hs_1]; rfl) rfl ?_
    refine zV_aload_n (n := 49) C0 0 dX4_about_48 rfl rfl ?_
    refine zV_get (n := 52) (ref := RX4) C0 hinX4_about_X4 0 rfl rfl 1 (Nat.le_of_ble_eq_true rfl) mX4_about_0 rfl rfl dX4_about_49 rfl ?_
    refine zV_getN (n := 55) (ref := RX1) C0 hinX4_about_X1 2 rfl rfl 0 (Nat.le_of_ble_eq_true rfl) (fun hN => va_Nw.use rfl (hN _ (List.mem_of_getElem? (i := 1) rfl))) rfl rfl dX4_about_52 rfl ?_
    exact zretI1 hR h rfl dX4_about_55
  replace h := if_f hs_1 h
  by_cases hs_2 : a1 = (1 : Int32)
  · replace h := if_t hs_2 h
    refine zV_tableIn (off := 55) (tgt := 56) C0 dX4_about_1 (by rw [hs_2]; decide) (by rw [hs_2]; decide) (by rw [hs_2]; rfl) rfl ?_
    refine zV_aload_n (n := 57) C0 0 dX4_about_56 rfl rfl ?_
    refine zV_get (n := 60) (ref := RX4) C0 hinX4_about_X4 0 rfl rfl 1 (Nat.le_of_ble_eq_true rfl) mX4_about_0 rfl rfl dX4_about_57 rfl ?_
    refine zV_getN (n := 63) (ref := RX1) C0 hinX4_about_X1 2 rfl rfl 1 (Nat.le_of_ble_eq_true rfl) (fun hN => va_Nw.use rfl (hN _ (List.mem_of_getElem? (i := 2) rfl))) rfl rfl dX4_about_60 rfl ?_
    exact zretI1 hR h rfl dX4_about_63
  replace h := if_f hs_2 h
  by_cases hs_3 : a1 = (2 : Int32)
  · replace h := if_t hs_3 h
    refine zV_tableIn (off := 63) (tgt := 64) C0 dX4_about_1 (by rw [hs_3]; decide) (by rw [hs_3]; decide) (by rw [hs_3]; rfl) rfl ?_
    refine zV_aload_n (n := 65) C0 0 dX4_about_64 rfl rfl ?_
    refine zV_get (n := 68) (ref := RX4) C0 hinX4_about_X4 0 rfl rfl 1 (Nat.le_of_ble_eq_true rfl) mX4_about_0 rfl rfl dX4_about_65 rfl ?_
    refine zV_getN (n := 71) (ref := RX1) C0 hinX4_about_X1 2 rfl rfl 2 (Nat.le_of_ble_eq_true rfl) (fun hN => va_Nw.use rfl (hN _ (List.mem_of_getElem? (i := 3) rfl))) rfl rfl dX4_about_68 rfl ?_
    exact zretI1 hR h rfl dX4_about_71
  replace h := if_f hs_3 h
  by_cases hs_4 : a1 = (3 : Int32)
  · replace h := if_t hs_4 h
    refine zV_tableIn (off := 71) (tgt := 72) C0 dX4_about_1 (by rw [hs_4]; decide) (by rw [hs_4]; decide) (by rw [hs_4]; rfl) rfl ?_
    refine zV_aload_n (n := 73) C0 0 dX4_about_72 rfl rfl ?_
    refine zV_get (n := 76) (ref := RX4) C0 hinX4_about_X4 0 rfl rfl 2 (Nat.le_of_ble_eq_true rfl) mX4_about_1 rfl rfl dX4_about_73 rfl ?_
    refine zV_getN (n := 79) (ref := RX2) C0 hinX4_about_X2 3 rfl rfl 2 (Nat.le_of_ble_eq_true rfl) (fun hN => va_Nw.use rfl (hN _ (List.mem_of_getElem? (i := 5) rfl))) rfl rfl dX4_about_76 rfl ?_
    exact zretI1 hR h rfl dX4_about_79
  replace h := if_f hs_4 h
  by_cases hs_5 : a1 = (4 : Int32)
  · replace h := if_t hs_5 h
    refine zV_tableIn (off := 79) (tgt := 80) C0 dX4_about_1 (by rw [hs_5]; decide) (by rw [hs_5]; decide) (by rw [hs_5]; rfl) rfl ?_
    refine zV_aload_n (n := 81) C0 0 dX4_about_80 rfl rfl ?_
    refine zV_get (n := 84) (ref := RX4) C0 hinX4_about_X4 0 rfl rfl 2 (Nat.le_of_ble_eq_true rfl) mX4_about_1 rfl rfl dX4_about_81 rfl ?_
    refine zV_getN (n := 87) (ref := RX2) C0 hinX4_about_X2 3 rfl rfl 3 (Nat.le_of_ble_eq_true rfl) (fun hN => va_Nw.use rfl (hN _ (List.mem_of_getElem? (i := 6) rfl))) rfl rfl dX4_about_84 rfl ?_
    exact zretI1 hR h rfl dX4_about_87
  replace h := if_f hs_5 h
  by_cases hs_6 : a1 = (5 : Int32)
  · replace h := if_t hs_6 h
    refine zV_tableIn (off := 87) (tgt := 88) C0 dX4_about_1 (by rw [hs_6]; decide) (by rw [hs_6]; decide) (by rw [hs_6]; rfl) rfl ?_
    refine zV_aload_n (n := 89) C0 0 dX4_about_88 rfl rfl ?_
    refine zV_get (n := 92) (ref := RX4) C0 hinX4_about_X4 0 rfl rfl 3 (Nat.le_of_ble_eq_true rfl) mX4_about_2 rfl rfl dX4_about_89 rfl ?_
    refine zV_getN (n := 95) (ref := RX0) C0 hinX4_about_X0 4 rfl rfl 2 (Nat.le_of_ble_eq_true rfl) (fun hN => va_Nw.use rfl (hN _ (List.mem_of_getElem? (i := 7) rfl))) rfl rfl dX4_about_92 rfl ?_
    exact zretI1 hR h rfl dX4_about_95
  replace h := if_f hs_6 h
  by_cases hs_7 : a1 = (6 : Int32)
  · replace h := if_t hs_7 h
    refine zV_tableIn (off := 95) (tgt := 96) C0 dX4_about_1 (by rw [hs_7]; decide) (by rw [hs_7]; decide) (by rw [hs_7]; rfl) rfl ?_
    refine zV_aload_n (n := 97) C0 0 dX4_about_96 rfl rfl ?_
    refine zV_get (n := 100) (ref := RX4) C0 hinX4_about_X4 0 rfl rfl 8 (Nat.le_of_ble_eq_true rfl) mX4_about_3 rfl rfl dX4_about_97 rfl ?_
    exact zretI1 hR h rfl dX4_about_100
  replace h := if_f hs_7 h
  by_cases hs_8 : a1 = (7 : Int32)
  · replace h := if_t hs_8 h
    refine zV_tableIn (off := 100) (tgt := 101) C0 dX4_about_1 (by rw [hs_8]; decide) (by rw [hs_8]; decide) (by rw [hs_8]; rfl) rfl ?_
    refine zV_aload_n (n := 102) C0 0 dX4_about_101 rfl rfl ?_
    refine zV_get (n := 105) (ref := RX4) C0 hinX4_about_X4 0 rfl rfl 0 (Nat.le_of_ble_eq_true rfl) mX4_about_4 rfl rfl dX4_about_102 rfl ?_
    refine zV_getN (n := 108) (ref := RX3) C0 hinX4_about_X3 1 rfl rfl 1 (Nat.le_of_ble_eq_true rfl) (fun hN => va_Nw.use rfl (hN _ (List.mem_of_getElem? (i := 0) rfl))) rfl rfl dX4_about_105 rfl ?_
    exact zretI1 hR h rfl dX4_about_108
  replace h := if_f hs_8 h
  refine zV_tableOut (tgt := 109) C0 dX4_about_1 (by have qhs_1 := zne (0 : Int32) (n := 0) rfl hs_1; have qhs_2 := zne (1 : Int32) (n := 1) rfl hs_2; have qhs_3 := zne (2 : Int32) (n := 2) rfl hs_3; have qhs_4 := zne (3 : Int32) (n := 3) rfl hs_4; have qhs_5 := zne (4 : Int32) (n := 4) rfl hs_5; have qhs_6 := zne (5 : Int32) (n := 5) rfl hs_6; have qhs_7 := zne (6 : Int32) (n := 6) rfl hs_7; have qhs_8 := zne (7 : Int32) (n := 7) rfl hs_8; omega) rfl ?_
  refine zV_bipush (n := 111) (v := (-2 : Int32)) C0 dX4_about_109 rfl rfl ?_
  exact zretI1 hR h rfl dX4_about_111
set_option maxRecDepth 20000 in
theorem mX4_legger_0 : Cond.fieldLink RX4 19 "LeggedThrough" "plan" "LLeggedThrough$Plan;" ∈ wsX4_legger := by decide +kernel
set_option maxRecDepth 20000 in
theorem mX4_legger_1 : Cond.fieldLink RX4 26 "LeggedThrough" "state" "LLeggedThrough$State;" ∈ wsX4_legger := by decide +kernel
set_option maxRecDepth 20000 in
theorem hinX4_legger_X2 : ∀ w ∈ u_ws RX2 TX2 4, w ∈ wsX4_legger := fun w h => List.mem_cons_of_mem _ (List.mem_append_left _ (List.mem_append_right _ h))
set_option maxRecDepth 20000 in
theorem hinX4_legger_X4 : ∀ w ∈ u_ws RX4 TX4 10, w ∈ wsX4_legger := fun w h => List.mem_cons_of_mem _ (List.mem_append_left _ (List.mem_append_left _ (List.mem_append_right _ h)))
set_option maxRecDepth 20000 in
set_option maxHeartbeats 4000000 in
theorem k_X4_legger {l : Launch} {D : va_G} {cI cZ : ClassId} {q : Nat} {ad : Nat → Nat} (a1 : Int32) (a2 : Int32)  (S : zS) (r : Int32) (h : f_X4_legger a1 a2 S = some r) : zI l yX4_legger wsX4_legger (zRm 2 43) D (zty cI cZ) zNw (wC cI q ad) [.ref q, .int a1, .int a2] S (r, S) := by
  refine zI_of (cc := cX4_legger) (maxL := 3) (ty := .int) (by decide +kernel) rfl (Nat.le_of_ble_eq_true rfl) zNw_ok (fun E hE1 hE2 C0 hR => ?_)
  subst hE1; subst hE2
  replace C0 : zCx E (zRm 2 43) cX4_legger 3 RX4 wsX4_legger (zty cI cZ) zNw := C0
  show zV E (wC cI q ad) 3 S 0 [(0, .ref q), (1, .int a1), (2, .int a2)] []
  delta f_X4_legger at h
  refine zV_aload_n (n := 1) C0 0 dX4_legger_0 rfl rfl ?_
  refine zV_get (n := 4) (ref := RX4) C0 hinX4_legger_X4 0 rfl rfl 1 (Nat.le_of_ble_eq_true rfl) mX4_legger_0 rfl rfl dX4_legger_1 rfl ?_
  refine zV_iload_n (n := 5) C0 1 dX4_legger_4 rfl rfl ?_
  obtain ⟨r_2, hc_1, h⟩ := ob_of h
  refine zV_callVI (n := 8) (st := []) (As := [.int a1]) C0 (k_X1_hasLegger a1 S _ hc_1) gX4_legger_X1_hasLegger rfl (hd_X1_hasLegger) rfl ⟨rfl, rfl⟩ ⟨Nat.le_of_ble_eq_true rfl, Nat.le_of_ble_eq_true rfl⟩ 2 rfl rfl rfl (Nat.le_of_ble_eq_true rfl) dX4_legger_5 rfl ?_
  refine zV_if_ne (tgt := 13) (n := 11) C0 dX4_legger_8 rfl rfl (fun hb_14 => ?_) (fun hb_14 => ?_)
  · replace h := if_f hb_14 h
    refine zV_iload_n (n := 14) C0 2 dX4_legger_13 rfl rfl ?_
    obtain ⟨r_4, hc_3, h⟩ := ob_of h
    refine zV_callS0 (n := 17) (st := []) (As := [.int a2]) C0 (k_X4_isPlace a2 _ hc_3) gX4_legger_X4_isPlace rfl (hd_X4_isPlace) rfl ⟨rfl, rfl⟩ ⟨Nat.le_of_ble_eq_true rfl, Nat.le_of_ble_eq_true rfl⟩ rfl (Nat.le_of_ble_eq_true rfl) dX4_legger_14 rfl ?_
    refine zV_if_eq (tgt := 30) (n := 20) C0 dX4_legger_17 rfl rfl (fun hb_13 => ?_) (fun hb_13 => ?_)
    · replace h := if_t hb_13 h
      refine zV_iload_n (n := 31) C0 2 dX4_legger_30 rfl rfl ?_
      by_cases hs_5 : a2 = (4 : Int32)
      · replace h := if_t hs_5 h
        refine zV_lookup (off := 25) (tgt := 56) C0 dX4_legger_31 rfl (by rw [hs_5]; rfl) rfl ?_
        refine zV_aload_n (n := 57) C0 0 dX4_legger_56 rfl rfl ?_
        refine zV_get (n := 60) (ref := RX4) C0 hinX4_legger_X4 0 rfl rfl 1 (Nat.le_of_ble_eq_true rfl) mX4_legger_0 rfl rfl dX4_legger_57 rfl ?_
        refine zV_iload_n (n := 61) C0 1 dX4_legger_60 rfl rfl ?_
        obtain ⟨r_7, hc_6, h⟩ := ob_of h
        refine zV_callVI (n := 64) (st := []) (As := [.int a1]) C0 (k_X1_kindOf a1 S _ hc_6) gX4_legger_X1_kindOf rfl (hd_X1_kindOf) rfl ⟨rfl, rfl⟩ ⟨Nat.le_of_ble_eq_true rfl, Nat.le_of_ble_eq_true rfl⟩ 2 rfl rfl rfl (Nat.le_of_ble_eq_true rfl) dX4_legger_61 rfl ?_
        exact zretI1 hR h rfl dX4_legger_64
      replace h := if_f hs_5 h
      by_cases hs_8 : a2 = (5 : Int32)
      · replace h := if_t hs_8 h
        refine zV_lookup (off := 34) (tgt := 65) C0 dX4_legger_31 rfl (by rw [hs_8]; rfl) rfl ?_
        refine zV_aload_n (n := 66) C0 0 dX4_legger_65 rfl rfl ?_
        refine zV_get (n := 69) (ref := RX4) C0 hinX4_legger_X4 0 rfl rfl 2 (Nat.le_of_ble_eq_true rfl) mX4_legger_1 rfl rfl dX4_legger_66 rfl ?_
        refine zV_getN (n := 72) (ref := RX2) C0 hinX4_legger_X2 3 rfl rfl 1 (Nat.le_of_ble_eq_true rfl) (fun hN => va_Nw.use rfl (hN _ (List.mem_of_getElem? (i := 4) rfl))) rfl rfl dX4_legger_69 rfl ?_
        refine zV_iload_n (n := 73) C0 1 dX4_legger_72 rfl rfl ?_
        obtain ⟨r_10, hc_9, h⟩ := ob_of h
        refine zV_callS0 (n := 76) (st := []) (As := [.int (S.1 16), .int a1]) C0 (k_X4_timesTired (S.1 16) a1 _ hc_9) gX4_legger_X4_timesTired rfl (hd_X4_timesTired) rfl ⟨rfl, rfl⟩ ⟨Nat.le_of_ble_eq_true rfl, Nat.le_of_ble_eq_true rfl⟩ rfl (Nat.le_of_ble_eq_true rfl) dX4_legger_73 rfl ?_
        exact zretI1 hR h rfl dX4_legger_76
      replace h := if_f hs_8 h
      refine zV_lookup (off := 46) (tgt := 77) C0 dX4_legger_31 rfl (by show Op.lookupswitch.offset [(4, 25), (5, 34)] 46 a2.toInt = 46; rw [Op.lookupswitch.offset_cons, if_neg (fun e => zne (4 : Int32) (n := 4) rfl hs_5 e.symm)]; rw [Op.lookupswitch.offset_cons, if_neg (fun e => zne (5 : Int32) (n := 5) rfl hs_8 e.symm)]; rfl) rfl ?_
      refine zV_bipush (n := 79) (v := (-2 : Int32)) C0 dX4_legger_77 rfl rfl ?_
      exact zretI1 hR h rfl dX4_legger_79
    · replace h := if_f hb_13 h
      refine zV_aload_n (n := 21) C0 0 dX4_legger_20 rfl rfl ?_
      refine zV_get (n := 24) (ref := RX4) C0 hinX4_legger_X4 0 rfl rfl 2 (Nat.le_of_ble_eq_true rfl) mX4_legger_1 rfl rfl dX4_legger_21 rfl ?_
      refine zV_iload_n (n := 25) C0 1 dX4_legger_24 rfl rfl ?_
      refine zV_iload_n (n := 26) C0 2 dX4_legger_25 rfl rfl ?_
      obtain ⟨r_12, hc_11, h⟩ := ob_of h
      refine zV_callVI (n := 29) (st := []) (As := [.int a1, .int a2]) C0 (k_X2_groundAt a1 a2 S _ hc_11) gX4_legger_X2_groundAt rfl (hd_X2_groundAt) rfl ⟨rfl, rfl⟩ ⟨Nat.le_of_ble_eq_true rfl, Nat.le_of_ble_eq_true rfl⟩ 3 rfl rfl rfl (Nat.le_of_ble_eq_true rfl) dX4_legger_26 rfl ?_
      exact zretI1 hR h rfl dX4_legger_29
  · replace h := if_t hb_14 h
    refine zV_iconst (n := 12) (v := (-1 : Int32)) C0 dX4_legger_11 rfl rfl ?_
    exact zretI1 hR h rfl dX4_legger_12
set_option maxRecDepth 20000 in
theorem mX4_load_0 : Cond.fieldLink RX4 19 "LeggedThrough" "plan" "LLeggedThrough$Plan;" ∈ wsX4_load := by decide +kernel
set_option maxRecDepth 20000 in
theorem hinX4_load_X4 : ∀ w ∈ u_ws RX4 TX4 10, w ∈ wsX4_load := fun w h => List.mem_cons_of_mem _ (List.mem_append_left _ (List.mem_append_right _ h))
set_option maxRecDepth 20000 in
set_option maxHeartbeats 4000000 in
theorem k_X4_load {l : Launch} {D : va_G} {cI cZ : ClassId} {q : Nat} {ad : Nat → Nat} (a1 : Int32)  (S : zS) (r : Int32) (h : f_X4_load a1 S = some r) : zI l yX4_load wsX4_load (zRm 1 21) D (zty cI cZ) zNw (wC cI q ad) [.ref q, .int a1] S (r, S) := by
  refine zI_of (cc := cX4_load) (maxL := 2) (ty := .int) (by decide +kernel) rfl (Nat.le_of_ble_eq_true rfl) zNw_ok (fun E hE1 hE2 C0 hR => ?_)
  subst hE1; subst hE2
  replace C0 : zCx E (zRm 1 21) cX4_load 2 RX4 wsX4_load (zty cI cZ) zNw := C0
  show zV E (wC cI q ad) 2 S 0 [(0, .ref q), (1, .int a1)] []
  delta f_X4_load at h
  refine zV_aload_n (n := 1) C0 0 dX4_load_0 rfl rfl ?_
  refine zV_get (n := 4) (ref := RX4) C0 hinX4_load_X4 0 rfl rfl 1 (Nat.le_of_ble_eq_true rfl) mX4_load_0 rfl rfl dX4_load_1 rfl ?_
  refine zV_iload_n (n := 5) C0 1 dX4_load_4 rfl rfl ?_
  obtain ⟨r_2, hc_1, h⟩ := ob_of h
  refine zV_callVI (n := 8) (st := []) (As := [.int a1]) C0 (k_X1_hasBoat a1 S _ hc_1) gX4_load_X1_hasBoat rfl (hd_X1_hasBoat) rfl ⟨rfl, rfl⟩ ⟨Nat.le_of_ble_eq_true rfl, Nat.le_of_ble_eq_true rfl⟩ 2 rfl rfl rfl (Nat.le_of_ble_eq_true rfl) dX4_load_5 rfl ?_
  refine zjoin_of h (fun k_4 hk_4 h => ?_)
  have Jk_4 : ∀ (s_3 : Int32), k_4 (s_3) = some r → zV E (wC cI q ad) 2 S 23 [] [.int s_3] := by
    intro s_3 h
    replace h := hk_4 _ h
    exact zretI1 hR h rfl dX4_load_23
  clear hk_4
  refine zV_if_eq (tgt := 22) (n := 11) C0 dX4_load_8 rfl rfl (fun hb_7 => ?_) (fun hb_7 => ?_)
  · replace h := if_t hb_7 h
    refine zV_iconst (n := 23) (v := (-1 : Int32)) C0 dX4_load_22 rfl rfl ?_
    refine zV_sub [] rfl ?_
    exact Jk_4 (-1 : Int32) h
  · replace h := if_f hb_7 h
    refine zV_aload_n (n := 12) C0 0 dX4_load_11 rfl rfl ?_
    refine zV_get (n := 15) (ref := RX4) C0 hinX4_load_X4 0 rfl rfl 1 (Nat.le_of_ble_eq_true rfl) mX4_load_0 rfl rfl dX4_load_12 rfl ?_
    refine zV_iload_n (n := 16) C0 1 dX4_load_15 rfl rfl ?_
    obtain ⟨r_6, hc_5, h⟩ := ob_of h
    refine zV_callVI (n := 19) (st := []) (As := [.int a1]) C0 (k_X1_loadOf a1 S _ hc_5) gX4_load_X1_loadOf rfl (hd_X1_loadOf) rfl ⟨rfl, rfl⟩ ⟨Nat.le_of_ble_eq_true rfl, Nat.le_of_ble_eq_true rfl⟩ 2 rfl rfl rfl (Nat.le_of_ble_eq_true rfl) dX4_load_16 rfl ?_
    refine zV_goto (tgt := 23) C0 dX4_load_19 rfl ?_
    refine zV_sub [] rfl ?_
    exact Jk_4 r_6 h
set_option maxRecDepth 20000 in
theorem mX4_pairRefusal_0 : Cond.fieldLink RX4 19 "LeggedThrough" "plan" "LLeggedThrough$Plan;" ∈ wsX4_pairRefusal := by decide +kernel
set_option maxRecDepth 20000 in
theorem hinX4_pairRefusal_X4 : ∀ w ∈ u_ws RX4 TX4 10, w ∈ wsX4_pairRefusal := fun w h => List.mem_cons_of_mem _ (List.mem_append_left _ (List.mem_append_right _ h))
set_option maxRecDepth 20000 in
set_option maxHeartbeats 4000000 in
theorem k_X4_pairRefusal {l : Launch} {D : va_G} {cI cZ : ClassId} {q : Nat} {ad : Nat → Nat} (a1 : Int32) (a2 : Int32) (a3 : Int32)  (S : zS) (r : Int32) (h : f_X4_pairRefusal a1 a2 a3 S = some r) : zI l yX4_pairRefusal wsX4_pairRefusal (zRm 1 21) D (zty cI cZ) zNw (wC cI q ad) [.ref q, .int a1, .int a2, .int a3] S (r, S) := by
  refine zI_of (cc := cX4_pairRefusal) (maxL := 4) (ty := .int) (by decide +kernel) rfl (Nat.le_of_ble_eq_true rfl) zNw_ok (fun E hE1 hE2 C0 hR => ?_)
  subst hE1; subst hE2
  replace C0 : zCx E (zRm 1 21) cX4_pairRefusal 4 RX4 wsX4_pairRefusal (zty cI cZ) zNw := C0
  show zV E (wC cI q ad) 4 S 0 [(0, .ref q), (1, .int a1), (2, .int a2), (3, .int a3)] []
  delta f_X4_pairRefusal at h
  refine zV_aload_n (n := 1) C0 0 dX4_pairRefusal_0 rfl rfl ?_
  refine zV_get (n := 4) (ref := RX4) C0 hinX4_pairRefusal_X4 0 rfl rfl 1 (Nat.le_of_ble_eq_true rfl) mX4_pairRefusal_0 rfl rfl dX4_pairRefusal_1 rfl ?_
  refine zV_iload_n (n := 5) C0 1 dX4_pairRefusal_4 rfl rfl ?_
  obtain ⟨r_2, hc_1, h⟩ := ob_of h
  refine zV_callVI (n := 8) (st := []) (As := [.int a1]) C0 (k_X1_hasBoat a1 S _ hc_1) gX4_pairRefusal_X1_hasBoat rfl (hd_X1_hasBoat) rfl ⟨rfl, rfl⟩ ⟨Nat.le_of_ble_eq_true rfl, Nat.le_of_ble_eq_true rfl⟩ 2 rfl rfl rfl (Nat.le_of_ble_eq_true rfl) dX4_pairRefusal_5 rfl ?_
  refine zjoin_of h (fun k_3 hk_3 h => ?_)
  have Jk_3 : k_3 () = some r → zV E (wC cI q ad) 4 S 33 [] [] := by
    intro  h
    replace h := hk_3 _ h
    refine zV_iconst (n := 34) (v := (-1 : Int32)) C0 dX4_pairRefusal_33 rfl rfl ?_
    exact zretI1 hR h rfl dX4_pairRefusal_34
  clear hk_3
  refine zV_if_eq (tgt := 33) (n := 11) C0 dX4_pairRefusal_8 rfl rfl (fun hb_13 => ?_) (fun hb_13 => ?_)
  · replace h := if_t hb_13 h
    refine zV_sub [] rfl ?_
    exact Jk_3  h
  · replace h := if_f hb_13 h
    refine zV_aload_n (n := 12) C0 0 dX4_pairRefusal_11 rfl rfl ?_
    refine zV_get (n := 15) (ref := RX4) C0 hinX4_pairRefusal_X4 0 rfl rfl 1 (Nat.le_of_ble_eq_true rfl) mX4_pairRefusal_0 rfl rfl dX4_pairRefusal_12 rfl ?_
    refine zV_iload_n (n := 16) C0 2 dX4_pairRefusal_15 rfl rfl ?_
    obtain ⟨r_5, hc_4, h⟩ := ob_of h
    refine zV_callVI (n := 19) (st := []) (As := [.int a2]) C0 (k_X1_hasLegger a2 S _ hc_4) gX4_pairRefusal_X1_hasLegger rfl (hd_X1_hasLegger) rfl ⟨rfl, rfl⟩ ⟨Nat.le_of_ble_eq_true rfl, Nat.le_of_ble_eq_true rfl⟩ 2 rfl rfl rfl (Nat.le_of_ble_eq_true rfl) dX4_pairRefusal_16 rfl ?_
    refine zV_if_eq (tgt := 33) (n := 22) C0 dX4_pairRefusal_19 rfl rfl (fun hb_12 => ?_) (fun hb_12 => ?_)
    · replace h := if_t hb_12 h
      refine zV_sub [] rfl ?_
      exact Jk_3  h
    · replace h := if_f hb_12 h
      refine zV_aload_n (n := 23) C0 0 dX4_pairRefusal_22 rfl rfl ?_
      refine zV_get (n := 26) (ref := RX4) C0 hinX4_pairRefusal_X4 0 rfl rfl 1 (Nat.le_of_ble_eq_true rfl) mX4_pairRefusal_0 rfl rfl dX4_pairRefusal_23 rfl ?_
      refine zV_iload_n (n := 27) C0 3 dX4_pairRefusal_26 rfl rfl ?_
      obtain ⟨r_7, hc_6, h⟩ := ob_of h
      refine zV_callVI (n := 30) (st := []) (As := [.int a3]) C0 (k_X1_hasLegger a3 S _ hc_6) gX4_pairRefusal_X1_hasLegger rfl (hd_X1_hasLegger) rfl ⟨rfl, rfl⟩ ⟨Nat.le_of_ble_eq_true rfl, Nat.le_of_ble_eq_true rfl⟩ 2 rfl rfl rfl (Nat.le_of_ble_eq_true rfl) dX4_pairRefusal_27 rfl ?_
      refine zV_if_ne (tgt := 35) (n := 33) C0 dX4_pairRefusal_30 rfl rfl (fun hb_11 => ?_) (fun hb_11 => ?_)
      · replace h := if_f hb_11 h
        refine zV_iload_n (n := 36) C0 2 dX4_pairRefusal_35 rfl rfl ?_
        refine zV_iload_n (n := 37) C0 3 dX4_pairRefusal_36 rfl rfl ?_
        refine zjoin_of h (fun k_9 hk_9 h => ?_)
        have Jk_9 : ∀ (s_8 : Int32), k_9 (s_8) = some r → zV E (wC cI q ad) 4 S 46 [] [.int s_8] := by
          intro s_8 h
          replace h := hk_9 _ h
          exact zretI1 hR h rfl dX4_pairRefusal_46
        clear hk_9
        refine zV_icmp_ne (tgt := 45) (n := 40) C0 dX4_pairRefusal_37 rfl rfl (fun hb_10 => ?_) (fun hb_10 => ?_)
        · replace h := if_f hb_10 h
          refine zV_iconst (n := 46) (v := (0 : Int32)) C0 dX4_pairRefusal_45 rfl rfl ?_
          refine zV_sub [] rfl ?_
          exact Jk_9 (0 : Int32) h
        · replace h := if_t hb_10 h
          refine zV_bipush (n := 42) (v := (-2 : Int32)) C0 dX4_pairRefusal_40 rfl rfl ?_
          refine zV_goto (tgt := 46) C0 dX4_pairRefusal_42 rfl ?_
          refine zV_sub [] rfl ?_
          exact Jk_9 (-2 : Int32) h
      · replace h := if_t hb_11 h
        refine zV_sub [] rfl ?_
        exact Jk_3  h
set_option maxRecDepth 20000 in
theorem mX4_stepMinutes_0 : Cond.fieldLink RX4 19 "LeggedThrough" "plan" "LLeggedThrough$Plan;" ∈ wsX4_stepMinutes := by decide +kernel
set_option maxRecDepth 20000 in
theorem mX4_stepMinutes_1 : Cond.methodLink RX4 247 Lib.Math.max.name ∈ wsX4_stepMinutes := by decide +kernel
set_option maxRecDepth 20000 in
theorem mX4_stepMinutes_2 : Cond.static Lib.Math.max.name ∈ wsX4_stepMinutes := by decide +kernel
set_option maxRecDepth 20000 in
theorem mX4_stepMinutes_3 : Cond.initialized "java/lang/Math" ∈ wsX4_stepMinutes := by decide +kernel
set_option maxRecDepth 20000 in
theorem mX4_stepMinutes_4 : Cond.code Lib.Math.max.name Lib.Math.max.code 2 (some .int) ∈ wsX4_stepMinutes := by decide +kernel
set_option maxRecDepth 20000 in
theorem hinX4_stepMinutes_X1 : ∀ w ∈ u_ws RX1 TX1 5, w ∈ wsX4_stepMinutes := fun w h => List.mem_cons_of_mem _ (List.mem_append_right _ h)
set_option maxRecDepth 20000 in
theorem hinX4_stepMinutes_X4 : ∀ w ∈ u_ws RX4 TX4 10, w ∈ wsX4_stepMinutes := fun w h => List.mem_cons_of_mem _ (List.mem_append_left _ (List.mem_append_right _ h))
set_option maxRecDepth 20000 in
set_option maxHeartbeats 4000000 in
theorem k_X4_stepMinutes {l : Launch} {D : va_G} {cI cZ : ClassId} {q : Nat} {ad : Nat → Nat} (a1 : Int32) (a2 : Int32) (a3 : Int32) (a4 : Int32)  (S : zS) (r : Int32) (h : f_X4_stepMinutes a1 a2 a3 a4 S = some r) : zI l yX4_stepMinutes wsX4_stepMinutes (zRm 1 24) D (zty cI cZ) zNw (wC cI q ad) [.ref q, .int a1, .int a2, .int a3, .int a4] S (r, S) := by
  refine zI_of (cc := cX4_stepMinutes) (maxL := 6) (ty := .int) (by decide +kernel) rfl (Nat.le_of_ble_eq_true rfl) zNw_ok (fun E hE1 hE2 C0 hR => ?_)
  subst hE1; subst hE2
  replace C0 : zCx E (zRm 1 24) cX4_stepMinutes 6 RX4 wsX4_stepMinutes (zty cI cZ) zNw := C0
  show zV E (wC cI q ad) 6 S 0 [(0, .ref q), (1, .int a1), (2, .int a2), (3, .int a3), (4, .int a4)] []
  delta f_X4_stepMinutes at h
  refine zV_iload_n (n := 1) C0 2 dX4_stepMinutes_0 rfl rfl ?_
  obtain ⟨r_2, hc_1, h⟩ := ob_of h
  refine zV_callS0 (n := 4) (st := []) (As := [.int a2]) C0 (k_X4_minutesOver a2 _ hc_1) gX4_stepMinutes_X4_minutesOver rfl (hd_X4_minutesOver) rfl ⟨rfl, rfl⟩ ⟨Nat.le_of_ble_eq_true rfl, Nat.le_of_ble_eq_true rfl⟩ rfl (Nat.le_of_ble_eq_true rfl) dX4_stepMinutes_1 rfl ?_
  refine zV_istore (n := 6) C0 [(5, .int r_2), (0, .ref q), (1, .int a1), (2, .int a2), (3, .int a3), (4, .int a4)] dX4_stepMinutes_4 rfl (Nat.le_of_ble_eq_true rfl) rfl ?_
  refine zV_aload_n (n := 7) C0 1 dX4_stepMinutes_6 rfl rfl ?_
  refine zV_get (n := 10) (ref := RX4) C0 hinX4_stepMinutes_X4 0 rfl rfl 1 (Nat.le_of_ble_eq_true rfl) mX4_stepMinutes_0 rfl rfl dX4_stepMinutes_7 rfl ?_
  refine zV_iload_n (n := 11) C0 2 dX4_stepMinutes_10 rfl rfl ?_
  obtain ⟨r_4, hc_3, h⟩ := ob_of h
  refine zV_callVI (n := 14) (st := []) (As := [.int a1]) C0 (k_X1_kindOf a1 S _ hc_3) gX4_stepMinutes_X1_kindOf rfl (hd_X1_kindOf) rfl ⟨rfl, rfl⟩ ⟨Nat.le_of_ble_eq_true rfl, Nat.le_of_ble_eq_true rfl⟩ 2 rfl rfl rfl (Nat.le_of_ble_eq_true rfl) dX4_stepMinutes_11 rfl ?_
  refine zjoin_of h (fun k_6 hk_6 h => ?_)
  have Jk_6 : ∀ (x5_5 : Int32), k_6 (x5_5) = some r → zV E (wC cI q ad) 6 S 85 [(1, .int a1), (4, .int a4), (5, .int x5_5)] [] := by
    intro x5_5 h
    replace h := hk_6 _ h
    refine zV_iload (n := 87) C0 2 dX4_stepMinutes_85 rfl rfl ?_
    refine zV_iload (n := 89) C0 1 dX4_stepMinutes_87 rfl rfl ?_
    refine zV_iload_n (n := 90) C0 0 dX4_stepMinutes_89 rfl rfl ?_
    obtain ⟨r_8, hc_7, h⟩ := ob_of h
    refine zV_callS0 (n := 93) (st := [.int x5_5]) (As := [.int a4, .int a1]) C0 (k_X4_timesTired a4 a1 _ hc_7) gX4_stepMinutes_X4_timesTired rfl (hd_X4_timesTired) rfl ⟨rfl, rfl⟩ ⟨Nat.le_of_ble_eq_true rfl, Nat.le_of_ble_eq_true rfl⟩ rfl (Nat.le_of_ble_eq_true rfl) dX4_stepMinutes_90 rfl ?_
    refine zV_iadd (n := 94) C0 dX4_stepMinutes_93  rfl ?_
    exact zretI1 hR h rfl dX4_stepMinutes_94
  clear hk_6
  by_cases hs_9 : r_4 = (1 : Int32)
  · replace h := if_t hs_9 h
    refine zV_tableIn (off := 26) (tgt := 40) C0 dX4_stepMinutes_14 (by rw [hs_9]; decide) (by rw [hs_9]; decide) (by rw [hs_9]; rfl) rfl ?_
    refine zV_iinc (n := 43) C0 0 (v := (r_2 + (1 : Int32))) [(5, .int (r_2 + (1 : Int32))), (0, .ref q), (1, .int a1), (2, .int a2), (3, .int a3), (4, .int a4)] dX4_stepMinutes_40 rfl rfl rfl (Nat.le_of_ble_eq_true rfl) rfl ?_
    refine zV_goto (tgt := 85) C0 dX4_stepMinutes_43 rfl ?_
    refine zV_sub [2, 5, 0] rfl ?_
    exact Jk_6 (r_2 + (1 : Int32)) h
  replace h := if_f hs_9 h
  by_cases hs_10 : r_4 = (2 : Int32)
  · replace h := if_t hs_10 h
    refine zV_tableIn (off := 32) (tgt := 46) C0 dX4_stepMinutes_14 (by rw [hs_10]; decide) (by rw [hs_10]; decide) (by rw [hs_10]; rfl) rfl ?_
    refine zV_iconst (n := 47) (v := (1 : Int32)) C0 dX4_stepMinutes_46 rfl rfl ?_
    refine zV_iload (n := 49) C0 0 dX4_stepMinutes_47 rfl rfl ?_
    refine zV_iconst (n := 50) (v := (1 : Int32)) C0 dX4_stepMinutes_49 rfl rfl ?_
    refine zV_isub (n := 51) C0 dX4_stepMinutes_50  rfl ?_
    refine zV_mmax (n := 54) C0 dX4_stepMinutes_51 mX4_stepMinutes_1 mX4_stepMinutes_2 mX4_stepMinutes_3 mX4_stepMinutes_4 (Nat.le_of_ble_eq_true rfl) (Nat.le_of_ble_eq_true rfl) rfl ?_
    refine zV_topi (fun t_11 et_11 => ?_)
    replace h := zlet_of et_11 h
    clear et_11
    refine zV_istore (n := 56) C0 [(5, .int t_11), (0, .ref q), (1, .int a1), (2, .int a2), (3, .int a3), (4, .int a4)] dX4_stepMinutes_54 rfl (Nat.le_of_ble_eq_true rfl) rfl ?_
    refine zV_goto (tgt := 85) C0 dX4_stepMinutes_56 rfl ?_
    refine zV_sub [2, 5, 0] rfl ?_
    exact Jk_6 t_11 h
  replace h := if_f hs_10 h
  by_cases hs_12 : r_4 = (3 : Int32)
  · replace h := if_t hs_12 h
    refine zV_tableIn (off := 45) (tgt := 59) C0 dX4_stepMinutes_14 (by rw [hs_12]; decide) (by rw [hs_12]; decide) (by rw [hs_12]; rfl) rfl ?_
    refine zV_iload (n := 61) C0 0 dX4_stepMinutes_59 rfl rfl ?_
    refine zV_iload_n (n := 62) C0 4 dX4_stepMinutes_61 rfl rfl ?_
    refine zV_aload_n (n := 63) C0 1 dX4_stepMinutes_62 rfl rfl ?_
    refine zV_get (n := 66) (ref := RX4) C0 hinX4_stepMinutes_X4 0 rfl rfl 1 (Nat.le_of_ble_eq_true rfl) mX4_stepMinutes_0 rfl rfl dX4_stepMinutes_63 rfl ?_
    refine zV_getN (n := 69) (ref := RX1) C0 hinX4_stepMinutes_X1 2 rfl rfl 0 (Nat.le_of_ble_eq_true rfl) (fun hN => va_Nw.use rfl (hN _ (List.mem_of_getElem? (i := 1) rfl))) rfl rfl dX4_stepMinutes_66 rfl ?_
    refine zV_iconst (n := 70) (v := (2 : Int32)) C0 dX4_stepMinutes_69 rfl rfl ?_
    refine zV_idiv (n := 71) C0 dX4_stepMinutes_70 (by decide) rfl ?_
    refine zjoin_of h (fun k_14 hk_14 h => ?_)
    have Jk_14 : ∀ (s_13 : Int32), k_14 (s_13) = some r → zV E (wC cI q ad) 6 S 79 [(1, .int a1), (4, .int a4)] [.int s_13, .int r_2] := by
      intro s_13 h
      replace h := hk_14 _ h
      refine zV_iadd (n := 80) C0 dX4_stepMinutes_79  rfl ?_
      refine zV_topi (fun x5_15 ex5_15 => ?_)
      replace h := zlet_of ex5_15 h
      clear ex5_15
      refine zV_istore (n := 82) C0 [(5, .int x5_15), (1, .int a1), (4, .int a4)] dX4_stepMinutes_80 rfl (Nat.le_of_ble_eq_true rfl) rfl ?_
      refine zV_goto (tgt := 85) C0 dX4_stepMinutes_82 rfl ?_
      refine zV_sub [1, 2, 0] rfl ?_
      exact Jk_6 x5_15 h
    clear hk_14
    refine zV_icmp_ne (tgt := 78) (n := 74) C0 dX4_stepMinutes_71 rfl rfl (fun hb_16 => ?_) (fun hb_16 => ?_)
    · replace h := if_f hb_16 h
      refine zV_iconst (n := 79) (v := (0 : Int32)) C0 dX4_stepMinutes_78 rfl rfl ?_
      refine zV_sub [2, 5] rfl ?_
      exact Jk_14 (0 : Int32) h
    · replace h := if_t hb_16 h
      refine zV_iconst (n := 75) (v := (2 : Int32)) C0 dX4_stepMinutes_74 rfl rfl ?_
      refine zV_goto (tgt := 79) C0 dX4_stepMinutes_75 rfl ?_
      refine zV_sub [2, 5] rfl ?_
      exact Jk_14 (2 : Int32) h
  replace h := if_f hs_12 h
  refine zV_tableOut (tgt := 85) C0 dX4_stepMinutes_14 (by have qhs_9 := zne (1 : Int32) (n := 1) rfl hs_9; have qhs_10 := zne (2 : Int32) (n := 2) rfl hs_10; have qhs_12 := zne (3 : Int32) (n := 3) rfl hs_12; omega) rfl ?_
  refine zV_sub [2, 5, 0] rfl ?_
  exact Jk_6 r_2 h
set_option maxRecDepth 20000 in
theorem mX4_pairMinutes_0 : Cond.fieldLink RX4 19 "LeggedThrough" "plan" "LLeggedThrough$Plan;" ∈ wsX4_pairMinutes := by decide +kernel
set_option maxRecDepth 20000 in
theorem mX4_pairMinutes_1 : Cond.fieldLink RX4 26 "LeggedThrough" "state" "LLeggedThrough$State;" ∈ wsX4_pairMinutes := by decide +kernel
set_option maxRecDepth 20000 in
theorem mX4_pairMinutes_2 : Cond.methodLink RX4 247 Lib.Math.max.name ∈ wsX4_pairMinutes := by decide +kernel
set_option maxRecDepth 20000 in
theorem mX4_pairMinutes_3 : Cond.static Lib.Math.max.name ∈ wsX4_pairMinutes := by decide +kernel
set_option maxRecDepth 20000 in
theorem mX4_pairMinutes_4 : Cond.initialized "java/lang/Math" ∈ wsX4_pairMinutes := by decide +kernel
set_option maxRecDepth 20000 in
theorem mX4_pairMinutes_5 : Cond.code Lib.Math.max.name Lib.Math.max.code 2 (some .int) ∈ wsX4_pairMinutes := by decide +kernel
set_option maxRecDepth 20000 in
theorem hinX4_pairMinutes_X1 : ∀ w ∈ u_ws RX1 TX1 5, w ∈ wsX4_pairMinutes := fun w h => List.mem_cons_of_mem _ (List.mem_append_left _ (List.mem_append_right _ h))
set_option maxRecDepth 20000 in
theorem hinX4_pairMinutes_X4 : ∀ w ∈ u_ws RX4 TX4 10, w ∈ wsX4_pairMinutes := fun w h => List.mem_cons_of_mem _ (List.mem_append_left _ (List.mem_append_left _ (List.mem_append_right _ h)))
set_option maxRecDepth 20000 in
set_option maxHeartbeats 4000000 in
theorem k_X4_pairMinutes {l : Launch} {D : va_G} {cI cZ : ClassId} {q : Nat} {ad : Nat → Nat} (a1 : Int32) (a2 : Int32) (a3 : Int32) (a4 : Int32) (a5 : Int32)  (S : zS) (r : Int32) (h : f_X4_pairMinutes a1 a2 a3 a4 a5 S = some r) : zI l yX4_pairMinutes wsX4_pairMinutes (zRm 2 49) D (zty cI cZ) zNw (wC cI q ad) [.ref q, .int a1, .int a2, .int a3, .int a4, .int a5] S (r, S) := by
  refine zI_of (cc := cX4_pairMinutes) (maxL := 12) (ty := .int) (by decide +kernel) rfl (Nat.le_of_ble_eq_true rfl) zNw_ok (fun E hE1 hE2 C0 hR => ?_)
  subst hE1; subst hE2
  replace C0 : zCx E (zRm 2 49) cX4_pairMinutes 12 RX4 wsX4_pairMinutes (zty cI cZ) zNw := C0
  show zV E (wC cI q ad) 12 S 0 [(0, .ref q), (1, .int a1), (2, .int a2), (3, .int a3), (4, .int a4), (5, .int a5)] []
  delta f_X4_pairMinutes at h
  refine zV_iconst (n := 1) (v := (0 : Int32)) C0 dX4_pairMinutes_0 rfl rfl ?_
  refine zV_istore (n := 3) C0 [(6, .int (0 : Int32)), (0, .ref q), (1, .int a1), (2, .int a2), (3, .int a3), (4, .int a4), (5, .int a5)] dX4_pairMinutes_1 rfl (Nat.le_of_ble_eq_true rfl) rfl ?_
  refine zV_iload_n (n := 4) C0 4 dX4_pairMinutes_3 rfl rfl ?_
  refine zV_istore (n := 6) C0 [(7, .int a3), (6, .int (0 : Int32)), (0, .ref q), (1, .int a1), (2, .int a2), (3, .int a3), (4, .int a4), (5, .int a5)] dX4_pairMinutes_4 rfl (Nat.le_of_ble_eq_true rfl) rfl ?_
  refine zV_iload (n := 8) C0 6 dX4_pairMinutes_6 rfl rfl ?_
  refine zV_istore (n := 10) C0 [(8, .int a4), (7, .int a3), (6, .int (0 : Int32)), (0, .ref q), (1, .int a1), (2, .int a2), (3, .int a3), (4, .int a4), (5, .int a5)] dX4_pairMinutes_8 rfl (Nat.le_of_ble_eq_true rfl) rfl ?_
  refine zV_iconst (n := 11) (v := (0 : Int32)) C0 dX4_pairMinutes_10 rfl rfl ?_
  refine zV_istore (n := 13) C0 [(9, .int (0 : Int32)), (8, .int a4), (7, .int a3), (6, .int (0 : Int32)), (0, .ref q), (1, .int a1), (2, .int a2), (3, .int a3), (4, .int a4), (5, .int a5)] dX4_pairMinutes_11 rfl (Nat.le_of_ble_eq_true rfl) rfl ?_
  refine zV_sub [4, 5, 6, 9, 3, 2, 1, 0] rfl ?_
  refine zfix_ind (fun e => zV E (wC cI q ad) 12 S 13 [(0, .ref q), (1, .int a1), (2, .int a2), (5, .int a5), (6, .int e.1), (7, .int e.2.1), (8, .int e.2.2.1), (9, .int e.2.2.2)] []) (fun rec_5 hrec_5 e h => ?_) zN ((0 : Int32), a3, a4, (0 : Int32)) h
  obtain ⟨x6_1, x7_2, x8_3, x9_4⟩ := e
  have Jrec_5 : ∀ (x6_1 : Int32) (x7_2 : Int32) (x8_3 : Int32) (x9_4 : Int32), rec_5 (x6_1, x7_2, x8_3, x9_4) = some r → zV E (wC cI q ad) 12 S 13 [(0, .ref q), (1, .int a1), (2, .int a2), (5, .int a5), (6, .int x6_1), (7, .int x7_2), (8, .int x8_3), (9, .int x9_4)] [] := fun x6_1 x7_2 x8_3 x9_4 h => hrec_5 _ h
  clear hrec_5
  dsimp only [F_X4_pairMinutes_13] at h
  show zV E (wC cI q ad) 12 S 13 [(0, .ref q), (1, .int a1), (2, .int a2), (5, .int a5), (6, .int x6_1), (7, .int x7_2), (8, .int x8_3), (9, .int x9_4)] []
  refine zV_iload (n := 15) C0 7 dX4_pairMinutes_13 rfl rfl ?_
  refine zV_aload_n (n := 16) C0 0 dX4_pairMinutes_15 rfl rfl ?_
  refine zV_get (n := 19) (ref := RX4) C0 hinX4_pairMinutes_X4 0 rfl rfl 1 (Nat.le_of_ble_eq_true rfl) mX4_pairMinutes_0 rfl rfl dX4_pairMinutes_16 rfl ?_
  refine zV_getN (n := 22) (ref := RX1) C0 hinX4_pairMinutes_X1 2 rfl rfl 0 (Nat.le_of_ble_eq_true rfl) (fun hN => va_Nw.use rfl (hN _ (List.mem_of_getElem? (i := 1) rfl))) rfl rfl dX4_pairMinutes_19 rfl ?_
  refine zV_icmp_ge (tgt := 120) (n := 25) C0 dX4_pairMinutes_22 rfl rfl (fun hb_24 => ?_) (fun hb_24 => ?_)
  · replace h := if_t hb_24 h
    refine zV_iload (n := 122) C0 4 dX4_pairMinutes_120 rfl rfl ?_
    exact zretI1 hR h rfl dX4_pairMinutes_122
  · replace h := if_f hb_24 h
    refine zV_aload_n (n := 26) C0 0 dX4_pairMinutes_25 rfl rfl ?_
    refine zV_get (n := 29) (ref := RX4) C0 hinX4_pairMinutes_X4 0 rfl rfl 2 (Nat.le_of_ble_eq_true rfl) mX4_pairMinutes_1 rfl rfl dX4_pairMinutes_26 rfl ?_
    refine zV_iload_n (n := 30) C0 1 dX4_pairMinutes_29 rfl rfl ?_
    refine zV_iload (n := 32) C0 5 dX4_pairMinutes_30 rfl rfl ?_
    obtain ⟨r_7, hc_6, h⟩ := ob_of h
    refine zV_callVI (n := 35) (st := []) (As := [.int a1, .int x7_2]) C0 (k_X2_groundAt a1 x7_2 S _ hc_6) gX4_pairMinutes_X2_groundAt rfl (hd_X2_groundAt) rfl ⟨rfl, rfl⟩ ⟨Nat.le_of_ble_eq_true rfl, Nat.le_of_ble_eq_true rfl⟩ 3 rfl rfl rfl (Nat.le_of_ble_eq_true rfl) dX4_pairMinutes_32 rfl ?_
    refine zV_istore (n := 37) C0 [(10, .int r_7), (0, .ref q), (1, .int a1), (2, .int a2), (5, .int a5), (6, .int x6_1), (7, .int x7_2), (8, .int x8_3), (9, .int x9_4)] dX4_pairMinutes_35 rfl (Nat.le_of_ble_eq_true rfl) rfl ?_
    refine zV_aload_n (n := 38) C0 1 dX4_pairMinutes_37 rfl rfl ?_
    refine zV_get (n := 41) (ref := RX4) C0 hinX4_pairMinutes_X4 0 rfl rfl 2 (Nat.le_of_ble_eq_true rfl) mX4_pairMinutes_1 rfl rfl dX4_pairMinutes_38 rfl ?_
    refine zV_iload_n (n := 42) C0 3 dX4_pairMinutes_41 rfl rfl ?_
    refine zV_iload (n := 44) C0 7 dX4_pairMinutes_42 rfl rfl ?_
    obtain ⟨r_9, hc_8, h⟩ := ob_of h
    refine zV_callVI (n := 47) (st := []) (As := [.int a2, .int x8_3]) C0 (k_X2_groundAt a2 x8_3 S _ hc_8) gX4_pairMinutes_X2_groundAt rfl (hd_X2_groundAt) rfl ⟨rfl, rfl⟩ ⟨Nat.le_of_ble_eq_true rfl, Nat.le_of_ble_eq_true rfl⟩ 3 rfl rfl rfl (Nat.le_of_ble_eq_true rfl) dX4_pairMinutes_44 rfl ?_
    refine zV_istore (n := 49) C0 [(11, .int r_9), (10, .int r_7), (0, .ref q), (1, .int a1), (2, .int a2), (5, .int a5), (6, .int x6_1), (7, .int x7_2), (8, .int x8_3), (9, .int x9_4)] dX4_pairMinutes_47 rfl (Nat.le_of_ble_eq_true rfl) rfl ?_
    refine zV_iload (n := 51) C0 6 dX4_pairMinutes_49 rfl rfl ?_
    refine zV_aload_n (n := 52) C0 2 dX4_pairMinutes_51 rfl rfl ?_
    refine zV_iload_n (n := 53) C0 3 dX4_pairMinutes_52 rfl rfl ?_
    refine zV_iload (n := 55) C0 1 dX4_pairMinutes_53 rfl rfl ?_
    refine zV_iload (n := 57) C0 9 dX4_pairMinutes_55 rfl rfl ?_
    refine zV_iload (n := 59) C0 5 dX4_pairMinutes_57 rfl rfl ?_
    obtain ⟨r_11, hc_10, h⟩ := ob_of h
    refine zV_callVI (n := 62) (st := [.int x6_1]) (As := [.int a1, .int r_7, .int x9_4, .int a5]) C0 (k_X4_stepMinutes a1 r_7 x9_4 a5 S _ hc_10) gX4_pairMinutes_X4_stepMinutes rfl (hd_X4_stepMinutes) rfl ⟨rfl, rfl⟩ ⟨Nat.le_of_ble_eq_true rfl, Nat.le_of_ble_eq_true rfl⟩ 0 rfl rfl rfl (Nat.le_of_ble_eq_true rfl) dX4_pairMinutes_59 rfl ?_
    refine zV_aload_n (n := 63) C0 2 dX4_pairMinutes_62 rfl rfl ?_
    refine zV_iload_n (n := 64) C0 4 dX4_pairMinutes_63 rfl rfl ?_
    refine zV_iload (n := 66) C0 0 dX4_pairMinutes_64 rfl rfl ?_
    refine zV_iload (n := 68) C0 9 dX4_pairMinutes_66 rfl rfl ?_
    refine zV_iload (n := 70) C0 5 dX4_pairMinutes_68 rfl rfl ?_
    obtain ⟨r_13, hc_12, h⟩ := ob_of h
    refine zV_callVI (n := 73) (st := [.int r_11, .int x6_1]) (As := [.int a2, .int r_9, .int x9_4, .int a5]) C0 (k_X4_stepMinutes a2 r_9 x9_4 a5 S _ hc_12) gX4_pairMinutes_X4_stepMinutes rfl (hd_X4_stepMinutes) rfl ⟨rfl, rfl⟩ ⟨Nat.le_of_ble_eq_true rfl, Nat.le_of_ble_eq_true rfl⟩ 0 rfl rfl rfl (Nat.le_of_ble_eq_true rfl) dX4_pairMinutes_70 rfl ?_
    refine zV_mmax (n := 76) C0 dX4_pairMinutes_73 mX4_pairMinutes_2 mX4_pairMinutes_3 mX4_pairMinutes_4 mX4_pairMinutes_5 (Nat.le_of_ble_eq_true rfl) (Nat.le_of_ble_eq_true rfl) rfl ?_
    refine zV_topi (fun t_14 et_14 => ?_)
    replace h := zlet_of et_14 h
    clear et_14
    refine zV_iadd (n := 77) C0 dX4_pairMinutes_76  rfl ?_
    refine zV_topi (fun x6_15 ex6_15 => ?_)
    replace h := zlet_of ex6_15 h
    clear ex6_15
    refine zV_istore (n := 79) C0 [(6, .int x6_15), (11, .int r_9), (10, .int r_7), (0, .ref q), (1, .int a1), (2, .int a2), (5, .int a5), (7, .int x7_2), (8, .int x8_3), (9, .int x9_4)] dX4_pairMinutes_77 rfl (Nat.le_of_ble_eq_true rfl) rfl ?_
    refine zV_iload (n := 81) C0 0 dX4_pairMinutes_79 rfl rfl ?_
    refine zV_iload (n := 83) C0 2 dX4_pairMinutes_81 rfl rfl ?_
    refine zV_iload (n := 85) C0 1 dX4_pairMinutes_83 rfl rfl ?_
    refine zjoin_of h (fun k_17 hk_17 h => ?_)
    have Jk_17 : ∀ (s_16 : Int32), k_17 (s_16) = some r → zV E (wC cI q ad) 12 S 93 [(0, .ref q), (1, .int a1), (2, .int a2), (5, .int a5), (7, .int x7_2), (8, .int x8_3), (9, .int x9_4), (10, .int r_7), (11, .int r_9)] [.int s_16, .int x6_15] := by
      intro s_16 h
      replace h := hk_17 _ h
      refine zV_iadd (n := 94) C0 dX4_pairMinutes_93  rfl ?_
      refine zV_topi (fun x6_18 ex6_18 => ?_)
      replace h := zlet_of ex6_18 h
      clear ex6_18
      refine zV_istore (n := 96) C0 [(6, .int x6_18), (0, .ref q), (1, .int a1), (2, .int a2), (5, .int a5), (7, .int x7_2), (8, .int x8_3), (9, .int x9_4), (10, .int r_7), (11, .int r_9)] dX4_pairMinutes_94 rfl (Nat.le_of_ble_eq_true rfl) rfl ?_
      refine zV_iload (n := 98) C0 5 dX4_pairMinutes_96 rfl rfl ?_
      refine zV_iload (n := 100) C0 8 dX4_pairMinutes_98 rfl rfl ?_
      obtain ⟨r_20, hc_19, h⟩ := ob_of h
      refine zV_callS0 (n := 103) (st := []) (As := [.int x7_2, .int r_7]) C0 (k_X4_placeBehind x7_2 r_7 _ hc_19) gX4_pairMinutes_X4_placeBehind rfl (hd_X4_placeBehind) rfl ⟨rfl, rfl⟩ ⟨Nat.le_of_ble_eq_true rfl, Nat.le_of_ble_eq_true rfl⟩ rfl (Nat.le_of_ble_eq_true rfl) dX4_pairMinutes_100 rfl ?_
      refine zV_istore (n := 105) C0 [(7, .int r_20), (6, .int x6_18), (0, .ref q), (1, .int a1), (2, .int a2), (5, .int a5), (8, .int x8_3), (9, .int x9_4), (10, .int r_7), (11, .int r_9)] dX4_pairMinutes_103 rfl (Nat.le_of_ble_eq_true rfl) rfl ?_
      refine zV_iload (n := 107) C0 6 dX4_pairMinutes_105 rfl rfl ?_
      refine zV_iload (n := 109) C0 9 dX4_pairMinutes_107 rfl rfl ?_
      obtain ⟨r_22, hc_21, h⟩ := ob_of h
      refine zV_callS0 (n := 112) (st := []) (As := [.int x8_3, .int r_9]) C0 (k_X4_placeBehind x8_3 r_9 _ hc_21) gX4_pairMinutes_X4_placeBehind rfl (hd_X4_placeBehind) rfl ⟨rfl, rfl⟩ ⟨Nat.le_of_ble_eq_true rfl, Nat.le_of_ble_eq_true rfl⟩ rfl (Nat.le_of_ble_eq_true rfl) dX4_pairMinutes_109 rfl ?_
      refine zV_istore (n := 114) C0 [(8, .int r_22), (7, .int r_20), (6, .int x6_18), (0, .ref q), (1, .int a1), (2, .int a2), (5, .int a5), (9, .int x9_4), (10, .int r_7), (11, .int r_9)] dX4_pairMinutes_112 rfl (Nat.le_of_ble_eq_true rfl) rfl ?_
      refine zV_iinc (n := 117) C0 7 (v := (x9_4 + (1 : Int32))) [(9, .int (x9_4 + (1 : Int32))), (8, .int r_22), (7, .int r_20), (6, .int x6_18), (0, .ref q), (1, .int a1), (2, .int a2), (5, .int a5), (10, .int r_7), (11, .int r_9)] dX4_pairMinutes_114 rfl rfl rfl (Nat.le_of_ble_eq_true rfl) rfl ?_
      refine zV_goto (tgt := 13) C0 dX4_pairMinutes_117 rfl ?_
      refine zV_sub [4, 5, 6, 7, 3, 2, 1, 0] rfl ?_
      exact Jrec_5 x6_18 r_20 r_22 (x9_4 + (1 : Int32)) h
    clear hk_17
    refine zV_icmp_ne (tgt := 92) (n := 88) C0 dX4_pairMinutes_85 rfl rfl (fun hb_23 => ?_) (fun hb_23 => ?_)
    · replace h := if_f hb_23 h
      refine zV_iconst (n := 93) (v := (1 : Int32)) C0 dX4_pairMinutes_92 rfl rfl ?_
      refine zV_sub [3, 4, 5, 6, 7, 8, 9, 2, 1] rfl ?_
      exact Jk_17 (1 : Int32) h
    · replace h := if_t hb_23 h
      refine zV_iconst (n := 89) (v := (0 : Int32)) C0 dX4_pairMinutes_88 rfl rfl ?_
      refine zV_goto (tgt := 93) C0 dX4_pairMinutes_89 rfl ?_
      refine zV_sub [3, 4, 5, 6, 7, 8, 9, 2, 1] rfl ?_
      exact Jk_17 (0 : Int32) h
set_option maxRecDepth 20000 in
theorem mX4_leg_0 : Cond.fieldLink RX4 26 "LeggedThrough" "state" "LLeggedThrough$State;" ∈ wsX4_leg := by decide +kernel
set_option maxRecDepth 20000 in
theorem mX4_leg_1 : Cond.fieldLink RX4 33 "LeggedThrough" "acts" "LLeggedThrough$Acts;" ∈ wsX4_leg := by decide +kernel
set_option maxRecDepth 20000 in
theorem mX4_leg_2 : Cond.fieldLink RX4 19 "LeggedThrough" "plan" "LLeggedThrough$Plan;" ∈ wsX4_leg := by decide +kernel
set_option maxRecDepth 20000 in
theorem hinX4_leg_X2 : ∀ w ∈ u_ws RX2 TX2 4, w ∈ wsX4_leg := fun w h => List.mem_cons_of_mem _ (List.mem_append_left _ (List.mem_append_left _ (List.mem_append_right _ h)))
set_option maxRecDepth 20000 in
theorem hinX4_leg_X4 : ∀ w ∈ u_ws RX4 TX4 10, w ∈ wsX4_leg := fun w h => List.mem_cons_of_mem _ (List.mem_append_left _ (List.mem_append_left _ (List.mem_append_left _ (List.mem_append_right _ h))))
set_option maxRecDepth 20000 in
set_option maxHeartbeats 4000000 in
theorem k_X4_leg {l : Launch} {D : va_G} {cI cZ : ClassId} {q : Nat} {ad : Nat → Nat} (a1 : Int32) (a2 : Int32) (a3 : Int32)  (S : zS) (r : Int32 × zS) (h : f_X4_leg a1 a2 a3 S = some r) : zI l yX4_leg wsX4_leg (zRm 3 80) D (zty cI cZ) zNw (wC cI q ad) [.ref q, .int a1, .int a2, .int a3] S r := by
  refine zI_of (cc := cX4_leg) (maxL := 5) (ty := .int) (by decide +kernel) rfl (Nat.le_of_ble_eq_true rfl) zNw_ok (fun E hE1 hE2 C0 hR => ?_)
  subst hE1; subst hE2
  replace C0 : zCx E (zRm 3 80) cX4_leg 5 RX4 wsX4_leg (zty cI cZ) zNw := C0
  show zV E (wC cI q ad) 5 S 0 [(0, .ref q), (1, .int a1), (2, .int a2), (3, .int a3)] []
  delta f_X4_leg at h
  refine zV_aload_n (n := 1) C0 0 dX4_leg_0 rfl rfl ?_
  refine zV_iload_n (n := 2) C0 1 dX4_leg_1 rfl rfl ?_
  refine zV_iload_n (n := 3) C0 2 dX4_leg_2 rfl rfl ?_
  refine zV_iload_n (n := 4) C0 3 dX4_leg_3 rfl rfl ?_
  obtain ⟨r_2, hc_1, h⟩ := ob_of h
  refine zV_callVI (n := 7) (st := []) (As := [.int a1, .int a2, .int a3]) C0 (k_X4_pairRefusal a1 a2 a3 S _ hc_1) gX4_leg_X4_pairRefusal rfl (hd_X4_pairRefusal) rfl ⟨rfl, rfl⟩ ⟨Nat.le_of_ble_eq_true rfl, Nat.le_of_ble_eq_true rfl⟩ 0 rfl rfl rfl (Nat.le_of_ble_eq_true rfl) dX4_leg_4 rfl ?_
  refine zV_istore (n := 9) C0 [(4, .int r_2), (0, .ref q), (1, .int a1), (2, .int a2), (3, .int a3)] dX4_leg_7 rfl (Nat.le_of_ble_eq_true rfl) rfl ?_
  refine zV_iload (n := 11) C0 0 dX4_leg_9 rfl rfl ?_
  refine zV_if_eq (tgt := 17) (n := 14) C0 dX4_leg_11 rfl rfl (fun hb_17 => ?_) (fun hb_17 => ?_)
  · replace h := if_t hb_17 h
    refine zV_aload_n (n := 18) C0 1 dX4_leg_17 rfl rfl ?_
    refine zV_get (n := 21) (ref := RX4) C0 hinX4_leg_X4 0 rfl rfl 2 (Nat.le_of_ble_eq_true rfl) mX4_leg_0 rfl rfl dX4_leg_18 rfl ?_
    refine zV_getN (n := 24) (ref := RX2) C0 hinX4_leg_X2 3 rfl rfl 2 (Nat.le_of_ble_eq_true rfl) (fun hN => va_Nw.use rfl (hN _ (List.mem_of_getElem? (i := 5) rfl))) rfl rfl dX4_leg_21 rfl ?_
    refine zV_iload_n (n := 25) C0 2 dX4_leg_24 rfl rfl ?_
    obtain ⟨r_4, hc_3, h⟩ := ob_of h
    refine zV_callS0 (n := 28) (st := []) (As := [.int (S.1 17), .int a1]) C0 (k_X4_isIn (S.1 17) a1 _ hc_3) gX4_leg_X4_isIn rfl (hd_X4_isIn) rfl ⟨rfl, rfl⟩ ⟨Nat.le_of_ble_eq_true rfl, Nat.le_of_ble_eq_true rfl⟩ rfl (Nat.le_of_ble_eq_true rfl) dX4_leg_25 rfl ?_
    refine zV_if_eq (tgt := 34) (n := 31) C0 dX4_leg_28 rfl rfl (fun hb_16 => ?_) (fun hb_16 => ?_)
    · replace h := if_t hb_16 h
      refine zV_aload_n (n := 35) C0 1 dX4_leg_34 rfl rfl ?_
      refine zV_get (n := 38) (ref := RX4) C0 hinX4_leg_X4 0 rfl rfl 3 (Nat.le_of_ble_eq_true rfl) mX4_leg_1 rfl rfl dX4_leg_35 rfl ?_
      refine zV_aload_n (n := 39) C0 1 dX4_leg_38 rfl rfl ?_
      refine zV_get (n := 42) (ref := RX4) C0 hinX4_leg_X4 0 rfl rfl 2 (Nat.le_of_ble_eq_true rfl) mX4_leg_0 rfl rfl dX4_leg_39 rfl ?_
      obtain ⟨S_6, hc_5, h⟩ := ob_of h
      refine zV_callVU (n := 45) (st := []) (As := [.ref (ad 2)]) C0 (k_X0_remember  S _ hc_5) gX4_leg_X0_remember rfl (hd_X0_remember) rfl ⟨rfl, rfl⟩ ⟨Nat.le_of_ble_eq_true rfl, Nat.le_of_ble_eq_true rfl⟩ 4 rfl rfl rfl (Nat.le_of_ble_eq_true rfl) dX4_leg_42 rfl ?_
      refine zV_aload_n (n := 46) C0 1 dX4_leg_45 rfl rfl ?_
      refine zV_get (n := 49) (ref := RX4) C0 hinX4_leg_X4 0 rfl rfl 2 (Nat.le_of_ble_eq_true rfl) mX4_leg_0 rfl rfl dX4_leg_46 rfl ?_
      refine zV_dup (n := 50) C0 dX4_leg_49 rfl rfl ?_
      refine zV_getN (n := 53) (ref := RX2) C0 hinX4_leg_X2 3 rfl rfl 3 (Nat.le_of_ble_eq_true rfl) (fun hN => va_Nw.use rfl (hN _ (List.mem_of_getElem? (i := 6) rfl))) rfl rfl dX4_leg_50 rfl ?_
      refine zV_aload_n (n := 54) C0 1 dX4_leg_53 rfl rfl ?_
      refine zV_iload_n (n := 55) C0 3 dX4_leg_54 rfl rfl ?_
      refine zV_iload_n (n := 56) C0 4 dX4_leg_55 rfl rfl ?_
      refine zV_iconst (n := 57) (v := (0 : Int32)) C0 dX4_leg_56 rfl rfl ?_
      refine zV_iconst (n := 58) (v := (0 : Int32)) C0 dX4_leg_57 rfl rfl ?_
      refine zV_aload_n (n := 59) C0 1 dX4_leg_58 rfl rfl ?_
      refine zV_get (n := 62) (ref := RX4) C0 hinX4_leg_X4 0 rfl rfl 2 (Nat.le_of_ble_eq_true rfl) mX4_leg_0 rfl rfl dX4_leg_59 rfl ?_
      refine zV_getN (n := 65) (ref := RX2) C0 hinX4_leg_X2 3 rfl rfl 1 (Nat.le_of_ble_eq_true rfl) (fun hN => va_Nw.use rfl (hN _ (List.mem_of_getElem? (i := 4) rfl))) rfl rfl dX4_leg_62 rfl ?_
      obtain ⟨r_8, hc_7, h⟩ := ob_of h
      refine zV_callVI (n := 68) (st := [.int (S_6.1 18), .ref (ad 2)]) (As := [.int a2, .int a3, .int (0 : Int32), .int (0 : Int32), .int (S_6.1 16)]) C0 (k_X4_pairMinutes a2 a3 (0 : Int32) (0 : Int32) (S_6.1 16) S_6 _ hc_7) gX4_leg_X4_pairMinutes rfl (hd_X4_pairMinutes) rfl ⟨rfl, rfl⟩ ⟨Nat.le_of_ble_eq_true rfl, Nat.le_of_ble_eq_true rfl⟩ 0 rfl rfl rfl (Nat.le_of_ble_eq_true rfl) dX4_leg_65 rfl ?_
      refine zV_aload_n (n := 69) C0 1 dX4_leg_68 rfl rfl ?_
      refine zV_get (n := 72) (ref := RX4) C0 hinX4_leg_X4 0 rfl rfl 1 (Nat.le_of_ble_eq_true rfl) mX4_leg_2 rfl rfl dX4_leg_69 rfl ?_
      refine zV_iload_n (n := 73) C0 2 dX4_leg_72 rfl rfl ?_
      obtain ⟨r_10, hc_9, h⟩ := ob_of h
      refine zV_callVI (n := 76) (st := [.int r_8, .int (S_6.1 18), .ref (ad 2)]) (As := [.int a1]) C0 (k_X1_loadOf a1 S_6 _ hc_9) gX4_leg_X1_loadOf rfl (hd_X1_loadOf) rfl ⟨rfl, rfl⟩ ⟨Nat.le_of_ble_eq_true rfl, Nat.le_of_ble_eq_true rfl⟩ 2 rfl rfl rfl (Nat.le_of_ble_eq_true rfl) dX4_leg_73 rfl ?_
      refine zV_iadd (n := 77) C0 dX4_leg_76  rfl ?_
      refine zV_iadd (n := 78) C0 dX4_leg_77  rfl ?_
      refine zV_putN (n := 81) (ref := RX2) C0 hinX4_leg_X2 3 rfl rfl 3 (Nat.le_of_ble_eq_true rfl) (fun hN => va_Nw.use rfl (hN _ (List.mem_of_getElem? (i := 6) rfl))) rfl tyX2 tyX2_ok nmX2 rfl (tyX2_ok 3 (Nat.le_of_ble_eq_true rfl)) rfl rfl (Nat.le_of_ble_eq_true rfl) (upd S_6.1 18 ((S_6.1 18) + (r_8 + r_10)), S_6.2) (wC_f18 cI q ad S_6 ((S_6.1 18) + (r_8 + r_10))) dX4_leg_78 rfl ?_
      refine zV_topS (fun S_11 eS_11 => ?_)
      replace h := zlet_of eS_11 h
      clear eS_11
      refine zV_aload_n (n := 82) C0 1 dX4_leg_81 rfl rfl ?_
      refine zV_get (n := 85) (ref := RX4) C0 hinX4_leg_X4 0 rfl rfl 2 (Nat.le_of_ble_eq_true rfl) mX4_leg_0 rfl rfl dX4_leg_82 rfl ?_
      refine zV_dup (n := 86) C0 dX4_leg_85 rfl rfl ?_
      refine zV_getN (n := 89) (ref := RX2) C0 hinX4_leg_X2 3 rfl rfl 2 (Nat.le_of_ble_eq_true rfl) (fun hN => va_Nw.use rfl (hN _ (List.mem_of_getElem? (i := 5) rfl))) rfl rfl dX4_leg_86 rfl ?_
      refine zV_iconst (n := 90) (v := (1 : Int32)) C0 dX4_leg_89 rfl rfl ?_
      refine zV_iload_n (n := 91) C0 2 dX4_leg_90 rfl rfl ?_
      refine zV_ishl (n := 92) C0 dX4_leg_91  rfl ?_
      refine zV_ior (n := 93) C0 dX4_leg_92  rfl ?_
      refine zV_putN (n := 96) (ref := RX2) C0 hinX4_leg_X2 3 rfl rfl 2 (Nat.le_of_ble_eq_true rfl) (fun hN => va_Nw.use rfl (hN _ (List.mem_of_getElem? (i := 5) rfl))) rfl tyX2 tyX2_ok nmX2 rfl (tyX2_ok 2 (Nat.le_of_ble_eq_true rfl)) rfl rfl (Nat.le_of_ble_eq_true rfl) (upd S_11.1 17 ((S_11.1 17) ||| (zshl (1 : Int32) a1)), S_11.2) (wC_f17 cI q ad S_11 ((S_11.1 17) ||| (zshl (1 : Int32) a1))) dX4_leg_93 rfl ?_
      refine zV_topS (fun S_12 eS_12 => ?_)
      replace h := zlet_of eS_12 h
      clear eS_12
      refine zV_aload_n (n := 97) C0 1 dX4_leg_96 rfl rfl ?_
      refine zV_get (n := 100) (ref := RX4) C0 hinX4_leg_X4 0 rfl rfl 2 (Nat.le_of_ble_eq_true rfl) mX4_leg_0 rfl rfl dX4_leg_97 rfl ?_
      refine zV_aload_n (n := 101) C0 1 dX4_leg_100 rfl rfl ?_
      refine zV_get (n := 104) (ref := RX4) C0 hinX4_leg_X4 0 rfl rfl 2 (Nat.le_of_ble_eq_true rfl) mX4_leg_0 rfl rfl dX4_leg_101 rfl ?_
      refine zV_getN (n := 107) (ref := RX2) C0 hinX4_leg_X2 3 rfl rfl 1 (Nat.le_of_ble_eq_true rfl) (fun hN => va_Nw.use rfl (hN _ (List.mem_of_getElem? (i := 4) rfl))) rfl rfl dX4_leg_104 rfl ?_
      refine zV_iload_n (n := 108) C0 3 dX4_leg_107 rfl rfl ?_
      refine zV_iload_n (n := 109) C0 4 dX4_leg_108 rfl rfl ?_
      obtain ⟨r_14, hc_13, h⟩ := ob_of h
      refine zV_callS0 (n := 112) (st := [.ref (ad 2)]) (As := [.int (S_12.1 16), .int a2, .int a3]) C0 (k_X4_tireBoth (S_12.1 16) a2 a3 _ hc_13) gX4_leg_X4_tireBoth rfl (hd_X4_tireBoth) rfl ⟨rfl, rfl⟩ ⟨Nat.le_of_ble_eq_true rfl, Nat.le_of_ble_eq_true rfl⟩ rfl (Nat.le_of_ble_eq_true rfl) dX4_leg_109 rfl ?_
      refine zV_putN (n := 115) (ref := RX2) C0 hinX4_leg_X2 3 rfl rfl 1 (Nat.le_of_ble_eq_true rfl) (fun hN => va_Nw.use rfl (hN _ (List.mem_of_getElem? (i := 4) rfl))) rfl tyX2 tyX2_ok nmX2 rfl (tyX2_ok 1 (Nat.le_of_ble_eq_true rfl)) rfl rfl (Nat.le_of_ble_eq_true rfl) (upd S_12.1 16 r_14, S_12.2) (wC_f16 cI q ad S_12 r_14) dX4_leg_112 rfl ?_
      refine zV_topS (fun S_15 eS_15 => ?_)
      replace h := zlet_of eS_15 h
      clear eS_15
      refine zV_aload_n (n := 116) C0 1 dX4_leg_115 rfl rfl ?_
      refine zV_get (n := 119) (ref := RX4) C0 hinX4_leg_X4 0 rfl rfl 2 (Nat.le_of_ble_eq_true rfl) mX4_leg_0 rfl rfl dX4_leg_116 rfl ?_
      refine zV_getN (n := 122) (ref := RX2) C0 hinX4_leg_X2 3 rfl rfl 3 (Nat.le_of_ble_eq_true rfl) (fun hN => va_Nw.use rfl (hN _ (List.mem_of_getElem? (i := 6) rfl))) rfl rfl dX4_leg_119 rfl ?_
      exact zretI hR h rfl dX4_leg_122
    · replace h := if_f hb_16 h
      refine zV_bipush (n := 33) (v := (-3 : Int32)) C0 dX4_leg_31 rfl rfl ?_
      exact zretI hR h rfl dX4_leg_33
  · replace h := if_f hb_17 h
    refine zV_iload (n := 16) C0 0 dX4_leg_14 rfl rfl ?_
    exact zretI hR h rfl dX4_leg_16
set_option maxRecDepth 20000 in
theorem mX4_rest_0 : Cond.fieldLink RX4 19 "LeggedThrough" "plan" "LLeggedThrough$Plan;" ∈ wsX4_rest := by decide +kernel
set_option maxRecDepth 20000 in
theorem mX4_rest_1 : Cond.fieldLink RX4 26 "LeggedThrough" "state" "LLeggedThrough$State;" ∈ wsX4_rest := by decide +kernel
set_option maxRecDepth 20000 in
theorem mX4_rest_2 : Cond.fieldLink RX4 33 "LeggedThrough" "acts" "LLeggedThrough$Acts;" ∈ wsX4_rest := by decide +kernel
set_option maxRecDepth 20000 in
theorem hinX4_rest_X2 : ∀ w ∈ u_ws RX2 TX2 4, w ∈ wsX4_rest := fun w h => List.mem_cons_of_mem _ (List.mem_append_left _ (List.mem_append_left _ (List.mem_append_right _ h)))
set_option maxRecDepth 20000 in
theorem hinX4_rest_X4 : ∀ w ∈ u_ws RX4 TX4 10, w ∈ wsX4_rest := fun w h => List.mem_cons_of_mem _ (List.mem_append_left _ (List.mem_append_left _ (List.mem_append_left _ (List.mem_append_right _ h))))
set_option maxRecDepth 20000 in
set_option maxHeartbeats 4000000 in
theorem k_X4_rest {l : Launch} {D : va_G} {cI cZ : ClassId} {q : Nat} {ad : Nat → Nat} (a1 : Int32)  (S : zS) (r : Int32 × zS) (h : f_X4_rest a1 S = some r) : zI l yX4_rest wsX4_rest (zRm 2 44) D (zty cI cZ) zNw (wC cI q ad) [.ref q, .int a1] S r := by
  refine zI_of (cc := cX4_rest) (maxL := 2) (ty := .int) (by decide +kernel) rfl (Nat.le_of_ble_eq_true rfl) zNw_ok (fun E hE1 hE2 C0 hR => ?_)
  subst hE1; subst hE2
  replace C0 : zCx E (zRm 2 44) cX4_rest 2 RX4 wsX4_rest (zty cI cZ) zNw := C0
  show zV E (wC cI q ad) 2 S 0 [(0, .ref q), (1, .int a1)] []
  delta f_X4_rest at h
  refine zV_aload_n (n := 1) C0 0 dX4_rest_0 rfl rfl ?_
  refine zV_get (n := 4) (ref := RX4) C0 hinX4_rest_X4 0 rfl rfl 1 (Nat.le_of_ble_eq_true rfl) mX4_rest_0 rfl rfl dX4_rest_1 rfl ?_
  refine zV_iload_n (n := 5) C0 1 dX4_rest_4 rfl rfl ?_
  obtain ⟨r_2, hc_1, h⟩ := ob_of h
  refine zV_callVI (n := 8) (st := []) (As := [.int a1]) C0 (k_X1_hasLegger a1 S _ hc_1) gX4_rest_X1_hasLegger rfl (hd_X1_hasLegger) rfl ⟨rfl, rfl⟩ ⟨Nat.le_of_ble_eq_true rfl, Nat.le_of_ble_eq_true rfl⟩ 2 rfl rfl rfl (Nat.le_of_ble_eq_true rfl) dX4_rest_5 rfl ?_
  refine zV_if_ne (tgt := 13) (n := 11) C0 dX4_rest_8 rfl rfl (fun hb_10 => ?_) (fun hb_10 => ?_)
  · replace h := if_f hb_10 h
    refine zV_aload_n (n := 14) C0 0 dX4_rest_13 rfl rfl ?_
    refine zV_get (n := 17) (ref := RX4) C0 hinX4_rest_X4 0 rfl rfl 2 (Nat.le_of_ble_eq_true rfl) mX4_rest_1 rfl rfl dX4_rest_14 rfl ?_
    refine zV_getN (n := 20) (ref := RX2) C0 hinX4_rest_X2 3 rfl rfl 1 (Nat.le_of_ble_eq_true rfl) (fun hN => va_Nw.use rfl (hN _ (List.mem_of_getElem? (i := 4) rfl))) rfl rfl dX4_rest_17 rfl ?_
    refine zV_iload_n (n := 21) C0 1 dX4_rest_20 rfl rfl ?_
    obtain ⟨r_4, hc_3, h⟩ := ob_of h
    refine zV_callS0 (n := 24) (st := []) (As := [.int (S.1 16), .int a1]) C0 (k_X4_timesTired (S.1 16) a1 _ hc_3) gX4_rest_X4_timesTired rfl (hd_X4_timesTired) rfl ⟨rfl, rfl⟩ ⟨Nat.le_of_ble_eq_true rfl, Nat.le_of_ble_eq_true rfl⟩ rfl (Nat.le_of_ble_eq_true rfl) dX4_rest_21 rfl ?_
    refine zV_if_ne (tgt := 30) (n := 27) C0 dX4_rest_24 rfl rfl (fun hb_9 => ?_) (fun hb_9 => ?_)
    · replace h := if_f hb_9 h
      refine zV_aload_n (n := 31) C0 0 dX4_rest_30 rfl rfl ?_
      refine zV_get (n := 34) (ref := RX4) C0 hinX4_rest_X4 0 rfl rfl 3 (Nat.le_of_ble_eq_true rfl) mX4_rest_2 rfl rfl dX4_rest_31 rfl ?_
      refine zV_aload_n (n := 35) C0 0 dX4_rest_34 rfl rfl ?_
      refine zV_get (n := 38) (ref := RX4) C0 hinX4_rest_X4 0 rfl rfl 2 (Nat.le_of_ble_eq_true rfl) mX4_rest_1 rfl rfl dX4_rest_35 rfl ?_
      obtain ⟨S_6, hc_5, h⟩ := ob_of h
      refine zV_callVU (n := 41) (st := []) (As := [.ref (ad 2)]) C0 (k_X0_remember  S _ hc_5) gX4_rest_X0_remember rfl (hd_X0_remember) rfl ⟨rfl, rfl⟩ ⟨Nat.le_of_ble_eq_true rfl, Nat.le_of_ble_eq_true rfl⟩ 4 rfl rfl rfl (Nat.le_of_ble_eq_true rfl) dX4_rest_38 rfl ?_
      refine zV_aload_n (n := 42) C0 0 dX4_rest_41 rfl rfl ?_
      refine zV_get (n := 45) (ref := RX4) C0 hinX4_rest_X4 0 rfl rfl 2 (Nat.le_of_ble_eq_true rfl) mX4_rest_1 rfl rfl dX4_rest_42 rfl ?_
      refine zV_dup (n := 46) C0 dX4_rest_45 rfl rfl ?_
      refine zV_getN (n := 49) (ref := RX2) C0 hinX4_rest_X2 3 rfl rfl 1 (Nat.le_of_ble_eq_true rfl) (fun hN => va_Nw.use rfl (hN _ (List.mem_of_getElem? (i := 4) rfl))) rfl rfl dX4_rest_46 rfl ?_
      refine zV_iconst (n := 50) (v := (3 : Int32)) C0 dX4_rest_49 rfl rfl ?_
      refine zV_iconst (n := 51) (v := (2 : Int32)) C0 dX4_rest_50 rfl rfl ?_
      refine zV_iload_n (n := 52) C0 1 dX4_rest_51 rfl rfl ?_
      refine zV_imul (n := 53) C0 dX4_rest_52  rfl ?_
      refine zV_ishl (n := 54) C0 dX4_rest_53  rfl ?_
      refine zV_iconst (n := 55) (v := (-1 : Int32)) C0 dX4_rest_54 rfl rfl ?_
      refine zV_ixor (n := 56) C0 dX4_rest_55  rfl ?_
      refine zV_iand (n := 57) C0 dX4_rest_56  rfl ?_
      refine zV_putN (n := 60) (ref := RX2) C0 hinX4_rest_X2 3 rfl rfl 1 (Nat.le_of_ble_eq_true rfl) (fun hN => va_Nw.use rfl (hN _ (List.mem_of_getElem? (i := 4) rfl))) rfl tyX2 tyX2_ok nmX2 rfl (tyX2_ok 1 (Nat.le_of_ble_eq_true rfl)) rfl rfl (Nat.le_of_ble_eq_true rfl) (upd S_6.1 16 ((S_6.1 16) &&& ((zshl (3 : Int32) ((2 : Int32) * a1)) ^^^ (-1 : Int32))), S_6.2) (wC_f16 cI q ad S_6 ((S_6.1 16) &&& ((zshl (3 : Int32) ((2 : Int32) * a1)) ^^^ (-1 : Int32)))) dX4_rest_57 rfl ?_
      refine zV_topS (fun S_7 eS_7 => ?_)
      replace h := zlet_of eS_7 h
      clear eS_7
      refine zV_aload_n (n := 61) C0 0 dX4_rest_60 rfl rfl ?_
      refine zV_get (n := 64) (ref := RX4) C0 hinX4_rest_X4 0 rfl rfl 2 (Nat.le_of_ble_eq_true rfl) mX4_rest_1 rfl rfl dX4_rest_61 rfl ?_
      refine zV_dup (n := 65) C0 dX4_rest_64 rfl rfl ?_
      refine zV_getN (n := 68) (ref := RX2) C0 hinX4_rest_X2 3 rfl rfl 3 (Nat.le_of_ble_eq_true rfl) (fun hN => va_Nw.use rfl (hN _ (List.mem_of_getElem? (i := 6) rfl))) rfl rfl dX4_rest_65 rfl ?_
      refine zV_iconst (n := 69) (v := (5 : Int32)) C0 dX4_rest_68 rfl rfl ?_
      refine zV_iadd (n := 70) C0 dX4_rest_69  rfl ?_
      refine zV_putN (n := 73) (ref := RX2) C0 hinX4_rest_X2 3 rfl rfl 3 (Nat.le_of_ble_eq_true rfl) (fun hN => va_Nw.use rfl (hN _ (List.mem_of_getElem? (i := 6) rfl))) rfl tyX2 tyX2_ok nmX2 rfl (tyX2_ok 3 (Nat.le_of_ble_eq_true rfl)) rfl rfl (Nat.le_of_ble_eq_true rfl) (upd S_7.1 18 ((S_7.1 18) + (5 : Int32)), S_7.2) (wC_f18 cI q ad S_7 ((S_7.1 18) + (5 : Int32))) dX4_rest_70 rfl ?_
      refine zV_topS (fun S_8 eS_8 => ?_)
      replace h := zlet_of eS_8 h
      clear eS_8
      refine zV_aload_n (n := 74) C0 0 dX4_rest_73 rfl rfl ?_
      refine zV_get (n := 77) (ref := RX4) C0 hinX4_rest_X4 0 rfl rfl 2 (Nat.le_of_ble_eq_true rfl) mX4_rest_1 rfl rfl dX4_rest_74 rfl ?_
      refine zV_getN (n := 80) (ref := RX2) C0 hinX4_rest_X2 3 rfl rfl 3 (Nat.le_of_ble_eq_true rfl) (fun hN => va_Nw.use rfl (hN _ (List.mem_of_getElem? (i := 6) rfl))) rfl rfl dX4_rest_77 rfl ?_
      exact zretI hR h rfl dX4_rest_80
    · replace h := if_t hb_9 h
      refine zV_bipush (n := 29) (v := (-3 : Int32)) C0 dX4_rest_27 rfl rfl ?_
      exact zretI hR h rfl dX4_rest_29
  · replace h := if_t hb_10 h
    refine zV_iconst (n := 12) (v := (-1 : Int32)) C0 dX4_rest_11 rfl rfl ?_
    exact zretI hR h rfl dX4_rest_12
set_option maxRecDepth 20000 in
theorem mX4_placeRefusal_0 : Cond.fieldLink RX4 19 "LeggedThrough" "plan" "LLeggedThrough$Plan;" ∈ wsX4_placeRefusal := by decide +kernel
set_option maxRecDepth 20000 in
theorem hinX4_placeRefusal_X4 : ∀ w ∈ u_ws RX4 TX4 10, w ∈ wsX4_placeRefusal := fun w h => List.mem_cons_of_mem _ (List.mem_append_left _ (List.mem_append_right _ h))
set_option maxRecDepth 20000 in
set_option maxHeartbeats 4000000 in
theorem k_X4_placeRefusal {l : Launch} {D : va_G} {cI cZ : ClassId} {q : Nat} {ad : Nat → Nat} (a1 : Int32) (a2 : Int32)  (S : zS) (r : Int32) (h : f_X4_placeRefusal a1 a2 S = some r) : zI l yX4_placeRefusal wsX4_placeRefusal (zRm 1 21) D (zty cI cZ) zNw (wC cI q ad) [.ref q, .int a1, .int a2] S (r, S) := by
  refine zI_of (cc := cX4_placeRefusal) (maxL := 3) (ty := .int) (by decide +kernel) rfl (Nat.le_of_ble_eq_true rfl) zNw_ok (fun E hE1 hE2 C0 hR => ?_)
  subst hE1; subst hE2
  replace C0 : zCx E (zRm 1 21) cX4_placeRefusal 3 RX4 wsX4_placeRefusal (zty cI cZ) zNw := C0
  show zV E (wC cI q ad) 3 S 0 [(0, .ref q), (1, .int a1), (2, .int a2)] []
  delta f_X4_placeRefusal at h
  refine zV_aload_n (n := 1) C0 0 dX4_placeRefusal_0 rfl rfl ?_
  refine zV_get (n := 4) (ref := RX4) C0 hinX4_placeRefusal_X4 0 rfl rfl 1 (Nat.le_of_ble_eq_true rfl) mX4_placeRefusal_0 rfl rfl dX4_placeRefusal_1 rfl ?_
  refine zV_iload_n (n := 5) C0 1 dX4_placeRefusal_4 rfl rfl ?_
  obtain ⟨r_2, hc_1, h⟩ := ob_of h
  refine zV_callVI (n := 8) (st := []) (As := [.int a1]) C0 (k_X1_hasLegger a1 S _ hc_1) gX4_placeRefusal_X1_hasLegger rfl (hd_X1_hasLegger) rfl ⟨rfl, rfl⟩ ⟨Nat.le_of_ble_eq_true rfl, Nat.le_of_ble_eq_true rfl⟩ 2 rfl rfl rfl (Nat.le_of_ble_eq_true rfl) dX4_placeRefusal_5 rfl ?_
  refine zV_if_ne (tgt := 13) (n := 11) C0 dX4_placeRefusal_8 rfl rfl (fun hb_8 => ?_) (fun hb_8 => ?_)
  · replace h := if_f hb_8 h
    refine zV_iload_n (n := 14) C0 2 dX4_placeRefusal_13 rfl rfl ?_
    obtain ⟨r_4, hc_3, h⟩ := ob_of h
    refine zV_callS0 (n := 17) (st := []) (As := [.int a2]) C0 (k_X4_isPlace a2 _ hc_3) gX4_placeRefusal_X4_isPlace rfl (hd_X4_isPlace) rfl ⟨rfl, rfl⟩ ⟨Nat.le_of_ble_eq_true rfl, Nat.le_of_ble_eq_true rfl⟩ rfl (Nat.le_of_ble_eq_true rfl) dX4_placeRefusal_14 rfl ?_
    refine zjoin_of h (fun k_6 hk_6 h => ?_)
    have Jk_6 : ∀ (s_5 : Int32), k_6 (s_5) = some r → zV E (wC cI q ad) 3 S 26 [] [.int s_5] := by
      intro s_5 h
      replace h := hk_6 _ h
      exact zretI1 hR h rfl dX4_placeRefusal_26
    clear hk_6
    refine zV_if_eq (tgt := 24) (n := 20) C0 dX4_placeRefusal_17 rfl rfl (fun hb_7 => ?_) (fun hb_7 => ?_)
    · replace h := if_t hb_7 h
      refine zV_bipush (n := 26) (v := (-2 : Int32)) C0 dX4_placeRefusal_24 rfl rfl ?_
      refine zV_sub [] rfl ?_
      exact Jk_6 (-2 : Int32) h
    · replace h := if_f hb_7 h
      refine zV_iconst (n := 21) (v := (0 : Int32)) C0 dX4_placeRefusal_20 rfl rfl ?_
      refine zV_goto (tgt := 26) C0 dX4_placeRefusal_21 rfl ?_
      refine zV_sub [] rfl ?_
      exact Jk_6 (0 : Int32) h
  · replace h := if_t hb_8 h
    refine zV_iconst (n := 12) (v := (-1 : Int32)) C0 dX4_placeRefusal_11 rfl rfl ?_
    exact zretI1 hR h rfl dX4_placeRefusal_12
set_option maxRecDepth 20000 in
theorem mX4_wet_0 : Cond.fieldLink RX4 26 "LeggedThrough" "state" "LLeggedThrough$State;" ∈ wsX4_wet := by decide +kernel
set_option maxRecDepth 20000 in
theorem mX4_wet_1 : Cond.fieldLink RX4 33 "LeggedThrough" "acts" "LLeggedThrough$Acts;" ∈ wsX4_wet := by decide +kernel
set_option maxRecDepth 20000 in
theorem hinX4_wet_X4 : ∀ w ∈ u_ws RX4 TX4 10, w ∈ wsX4_wet := fun w h => List.mem_cons_of_mem _ (List.mem_append_left _ (List.mem_append_left _ (List.mem_append_left _ (List.mem_append_right _ h))))
set_option maxRecDepth 20000 in
set_option maxHeartbeats 4000000 in
theorem k_X4_wet {l : Launch} {D : va_G} {cI cZ : ClassId} {q : Nat} {ad : Nat → Nat} (a1 : Int32) (a2 : Int32)  (S : zS) (r : Int32 × zS) (h : f_X4_wet a1 a2 S = some r) : zI l yX4_wet wsX4_wet (zRm 2 44) D (zty cI cZ) zNw (wC cI q ad) [.ref q, .int a1, .int a2] S r := by
  refine zI_of (cc := cX4_wet) (maxL := 5) (ty := .int) (by decide +kernel) rfl (Nat.le_of_ble_eq_true rfl) zNw_ok (fun E hE1 hE2 C0 hR => ?_)
  subst hE1; subst hE2
  replace C0 : zCx E (zRm 2 44) cX4_wet 5 RX4 wsX4_wet (zty cI cZ) zNw := C0
  show zV E (wC cI q ad) 5 S 0 [(0, .ref q), (1, .int a1), (2, .int a2)] []
  delta f_X4_wet at h
  refine zV_aload_n (n := 1) C0 0 dX4_wet_0 rfl rfl ?_
  refine zV_iload_n (n := 2) C0 1 dX4_wet_1 rfl rfl ?_
  refine zV_iload_n (n := 3) C0 2 dX4_wet_2 rfl rfl ?_
  obtain ⟨r_2, hc_1, h⟩ := ob_of h
  refine zV_callVI (n := 6) (st := []) (As := [.int a1, .int a2]) C0 (k_X4_placeRefusal a1 a2 S _ hc_1) gX4_wet_X4_placeRefusal rfl (hd_X4_placeRefusal) rfl ⟨rfl, rfl⟩ ⟨Nat.le_of_ble_eq_true rfl, Nat.le_of_ble_eq_true rfl⟩ 0 rfl rfl rfl (Nat.le_of_ble_eq_true rfl) dX4_wet_3 rfl ?_
  refine zV_istore_n (n := 7) C0 [(3, .int r_2), (0, .ref q), (1, .int a1), (2, .int a2)] dX4_wet_6 rfl rfl (Nat.le_of_ble_eq_true rfl) rfl ?_
  refine zV_iload_n (n := 8) C0 0 dX4_wet_7 rfl rfl ?_
  refine zV_if_eq (tgt := 13) (n := 11) C0 dX4_wet_8 rfl rfl (fun hb_10 => ?_) (fun hb_10 => ?_)
  · replace h := if_t hb_10 h
    refine zV_aload_n (n := 14) C0 1 dX4_wet_13 rfl rfl ?_
    refine zV_get (n := 17) (ref := RX4) C0 hinX4_wet_X4 0 rfl rfl 2 (Nat.le_of_ble_eq_true rfl) mX4_wet_0 rfl rfl dX4_wet_14 rfl ?_
    refine zV_iload_n (n := 18) C0 2 dX4_wet_17 rfl rfl ?_
    refine zV_iload_n (n := 19) C0 3 dX4_wet_18 rfl rfl ?_
    obtain ⟨r_4, hc_3, h⟩ := ob_of h
    refine zV_callVI (n := 22) (st := []) (As := [.int a1, .int a2]) C0 (k_X2_groundAt a1 a2 S _ hc_3) gX4_wet_X2_groundAt rfl (hd_X2_groundAt) rfl ⟨rfl, rfl⟩ ⟨Nat.le_of_ble_eq_true rfl, Nat.le_of_ble_eq_true rfl⟩ 3 rfl rfl rfl (Nat.le_of_ble_eq_true rfl) dX4_wet_19 rfl ?_
    refine zV_istore (n := 24) C0 [(4, .int r_4), (3, .int r_2), (0, .ref q), (1, .int a1), (2, .int a2)] dX4_wet_22 rfl (Nat.le_of_ble_eq_true rfl) rfl ?_
    refine zV_iload (n := 26) C0 0 dX4_wet_24 rfl rfl ?_
    refine zV_iconst (n := 27) (v := (2 : Int32)) C0 dX4_wet_26 rfl rfl ?_
    refine zV_icmp_ne (tgt := 33) (n := 30) C0 dX4_wet_27 rfl rfl (fun hb_9 => ?_) (fun hb_9 => ?_)
    · replace h := if_f hb_9 h
      refine zV_aload_n (n := 34) C0 2 dX4_wet_33 rfl rfl ?_
      refine zV_get (n := 37) (ref := RX4) C0 hinX4_wet_X4 0 rfl rfl 3 (Nat.le_of_ble_eq_true rfl) mX4_wet_1 rfl rfl dX4_wet_34 rfl ?_
      refine zV_aload_n (n := 38) C0 2 dX4_wet_37 rfl rfl ?_
      refine zV_get (n := 41) (ref := RX4) C0 hinX4_wet_X4 0 rfl rfl 2 (Nat.le_of_ble_eq_true rfl) mX4_wet_0 rfl rfl dX4_wet_38 rfl ?_
      obtain ⟨S_6, hc_5, h⟩ := ob_of h
      refine zV_callVU (n := 44) (st := []) (As := [.ref (ad 2)]) C0 (k_X0_remember  S _ hc_5) gX4_wet_X0_remember rfl (hd_X0_remember) rfl ⟨rfl, rfl⟩ ⟨Nat.le_of_ble_eq_true rfl, Nat.le_of_ble_eq_true rfl⟩ 4 rfl rfl rfl (Nat.le_of_ble_eq_true rfl) dX4_wet_41 rfl ?_
      refine zV_aload_n (n := 45) C0 2 dX4_wet_44 rfl rfl ?_
      refine zV_get (n := 48) (ref := RX4) C0 hinX4_wet_X4 0 rfl rfl 2 (Nat.le_of_ble_eq_true rfl) mX4_wet_0 rfl rfl dX4_wet_45 rfl ?_
      refine zV_iload_n (n := 49) C0 3 dX4_wet_48 rfl rfl ?_
      refine zV_iload_n (n := 50) C0 4 dX4_wet_49 rfl rfl ?_
      refine zV_iconst (n := 51) (v := (2 : Int32)) C0 dX4_wet_50 rfl rfl ?_
      obtain ⟨S_8, hc_7, h⟩ := ob_of h
      refine zV_callVU (n := 54) (st := []) (As := [.int a1, .int a2, .int (2 : Int32)]) C0 (k_X2_cover a1 a2 (2 : Int32) S_6 _ hc_7) gX4_wet_X2_cover rfl (hd_X2_cover) rfl ⟨rfl, rfl⟩ ⟨Nat.le_of_ble_eq_true rfl, Nat.le_of_ble_eq_true rfl⟩ 3 rfl rfl rfl (Nat.le_of_ble_eq_true rfl) dX4_wet_51 rfl ?_
      refine zV_iload (n := 56) C0 0 dX4_wet_54 rfl rfl ?_
      exact zretI hR h rfl dX4_wet_56
    · replace h := if_t hb_9 h
      refine zV_bipush (n := 32) (v := (-3 : Int32)) C0 dX4_wet_30 rfl rfl ?_
      exact zretI hR h rfl dX4_wet_32
  · replace h := if_f hb_10 h
    refine zV_iload_n (n := 12) C0 0 dX4_wet_11 rfl rfl ?_
    exact zretI hR h rfl dX4_wet_12
set_option maxRecDepth 20000 in
theorem mX4_dry_0 : Cond.fieldLink RX4 26 "LeggedThrough" "state" "LLeggedThrough$State;" ∈ wsX4_dry := by decide +kernel
set_option maxRecDepth 20000 in
theorem mX4_dry_1 : Cond.fieldLink RX4 33 "LeggedThrough" "acts" "LLeggedThrough$Acts;" ∈ wsX4_dry := by decide +kernel
set_option maxRecDepth 20000 in
theorem hinX4_dry_X4 : ∀ w ∈ u_ws RX4 TX4 10, w ∈ wsX4_dry := fun w h => List.mem_cons_of_mem _ (List.mem_append_left _ (List.mem_append_left _ (List.mem_append_left _ (List.mem_append_right _ h))))
set_option maxRecDepth 20000 in
set_option maxHeartbeats 4000000 in
theorem k_X4_dry {l : Launch} {D : va_G} {cI cZ : ClassId} {q : Nat} {ad : Nat → Nat} (a1 : Int32) (a2 : Int32)  (S : zS) (r : Int32 × zS) (h : f_X4_dry a1 a2 S = some r) : zI l yX4_dry wsX4_dry (zRm 3 66) D (zty cI cZ) zNw (wC cI q ad) [.ref q, .int a1, .int a2] S r := by
  refine zI_of (cc := cX4_dry) (maxL := 4) (ty := .int) (by decide +kernel) rfl (Nat.le_of_ble_eq_true rfl) zNw_ok (fun E hE1 hE2 C0 hR => ?_)
  subst hE1; subst hE2
  replace C0 : zCx E (zRm 3 66) cX4_dry 4 RX4 wsX4_dry (zty cI cZ) zNw := C0
  show zV E (wC cI q ad) 4 S 0 [(0, .ref q), (1, .int a1), (2, .int a2)] []
  delta f_X4_dry at h
  refine zV_aload_n (n := 1) C0 0 dX4_dry_0 rfl rfl ?_
  refine zV_iload_n (n := 2) C0 1 dX4_dry_1 rfl rfl ?_
  refine zV_iload_n (n := 3) C0 2 dX4_dry_2 rfl rfl ?_
  obtain ⟨r_2, hc_1, h⟩ := ob_of h
  refine zV_callVI (n := 6) (st := []) (As := [.int a1, .int a2]) C0 (k_X4_placeRefusal a1 a2 S _ hc_1) gX4_dry_X4_placeRefusal rfl (hd_X4_placeRefusal) rfl ⟨rfl, rfl⟩ ⟨Nat.le_of_ble_eq_true rfl, Nat.le_of_ble_eq_true rfl⟩ 0 rfl rfl rfl (Nat.le_of_ble_eq_true rfl) dX4_dry_3 rfl ?_
  refine zV_istore_n (n := 7) C0 [(3, .int r_2), (0, .ref q), (1, .int a1), (2, .int a2)] dX4_dry_6 rfl rfl (Nat.le_of_ble_eq_true rfl) rfl ?_
  refine zV_iload_n (n := 8) C0 0 dX4_dry_7 rfl rfl ?_
  refine zV_if_eq (tgt := 13) (n := 11) C0 dX4_dry_8 rfl rfl (fun hb_12 => ?_) (fun hb_12 => ?_)
  · replace h := if_t hb_12 h
    refine zV_aload_n (n := 14) C0 1 dX4_dry_13 rfl rfl ?_
    refine zV_get (n := 17) (ref := RX4) C0 hinX4_dry_X4 0 rfl rfl 2 (Nat.le_of_ble_eq_true rfl) mX4_dry_0 rfl rfl dX4_dry_14 rfl ?_
    refine zV_iload_n (n := 18) C0 2 dX4_dry_17 rfl rfl ?_
    refine zV_iload_n (n := 19) C0 3 dX4_dry_18 rfl rfl ?_
    obtain ⟨r_4, hc_3, h⟩ := ob_of h
    refine zV_callVI (n := 22) (st := []) (As := [.int a1, .int a2]) C0 (k_X2_groundAt a1 a2 S _ hc_3) gX4_dry_X2_groundAt rfl (hd_X2_groundAt) rfl ⟨rfl, rfl⟩ ⟨Nat.le_of_ble_eq_true rfl, Nat.le_of_ble_eq_true rfl⟩ 3 rfl rfl rfl (Nat.le_of_ble_eq_true rfl) dX4_dry_19 rfl ?_
    refine zV_iconst (n := 23) (v := (2 : Int32)) C0 dX4_dry_22 rfl rfl ?_
    refine zV_icmp_eq (tgt := 29) (n := 26) C0 dX4_dry_23 rfl rfl (fun hb_11 => ?_) (fun hb_11 => ?_)
    · replace h := if_t hb_11 h
      refine zV_aload_n (n := 30) C0 1 dX4_dry_29 rfl rfl ?_
      refine zV_get (n := 33) (ref := RX4) C0 hinX4_dry_X4 0 rfl rfl 3 (Nat.le_of_ble_eq_true rfl) mX4_dry_1 rfl rfl dX4_dry_30 rfl ?_
      refine zV_aload_n (n := 34) C0 1 dX4_dry_33 rfl rfl ?_
      refine zV_get (n := 37) (ref := RX4) C0 hinX4_dry_X4 0 rfl rfl 2 (Nat.le_of_ble_eq_true rfl) mX4_dry_0 rfl rfl dX4_dry_34 rfl ?_
      obtain ⟨S_6, hc_5, h⟩ := ob_of h
      refine zV_callVU (n := 40) (st := []) (As := [.ref (ad 2)]) C0 (k_X0_remember  S _ hc_5) gX4_dry_X0_remember rfl (hd_X0_remember) rfl ⟨rfl, rfl⟩ ⟨Nat.le_of_ble_eq_true rfl, Nat.le_of_ble_eq_true rfl⟩ 4 rfl rfl rfl (Nat.le_of_ble_eq_true rfl) dX4_dry_37 rfl ?_
      refine zV_aload_n (n := 41) C0 1 dX4_dry_40 rfl rfl ?_
      refine zV_get (n := 44) (ref := RX4) C0 hinX4_dry_X4 0 rfl rfl 2 (Nat.le_of_ble_eq_true rfl) mX4_dry_0 rfl rfl dX4_dry_41 rfl ?_
      refine zV_iload_n (n := 45) C0 2 dX4_dry_44 rfl rfl ?_
      refine zV_iload_n (n := 46) C0 3 dX4_dry_45 rfl rfl ?_
      refine zV_iconst (n := 47) (v := (0 : Int32)) C0 dX4_dry_46 rfl rfl ?_
      obtain ⟨S_8, hc_7, h⟩ := ob_of h
      refine zV_callVU (n := 50) (st := []) (As := [.int a1, .int a2, .int (0 : Int32)]) C0 (k_X2_cover a1 a2 (0 : Int32) S_6 _ hc_7) gX4_dry_X2_cover rfl (hd_X2_cover) rfl ⟨rfl, rfl⟩ ⟨Nat.le_of_ble_eq_true rfl, Nat.le_of_ble_eq_true rfl⟩ 3 rfl rfl rfl (Nat.le_of_ble_eq_true rfl) dX4_dry_47 rfl ?_
      refine zV_aload_n (n := 51) C0 1 dX4_dry_50 rfl rfl ?_
      refine zV_get (n := 54) (ref := RX4) C0 hinX4_dry_X4 0 rfl rfl 2 (Nat.le_of_ble_eq_true rfl) mX4_dry_0 rfl rfl dX4_dry_51 rfl ?_
      refine zV_iload_n (n := 55) C0 2 dX4_dry_54 rfl rfl ?_
      obtain ⟨r_10, hc_9, h⟩ := ob_of h
      refine zV_callVI (n := 58) (st := []) (As := [.int a1]) C0 (k_X2_wetPlaces a1 S_8 _ hc_9) gX4_dry_X2_wetPlaces rfl (hd_X2_wetPlaces) rfl ⟨rfl, rfl⟩ ⟨Nat.le_of_ble_eq_true rfl, Nat.le_of_ble_eq_true rfl⟩ 3 rfl rfl rfl (Nat.le_of_ble_eq_true rfl) dX4_dry_55 rfl ?_
      exact zretI hR h rfl dX4_dry_58
    · replace h := if_f hb_11 h
      refine zV_bipush (n := 28) (v := (-3 : Int32)) C0 dX4_dry_26 rfl rfl ?_
      exact zretI hR h rfl dX4_dry_28
  · replace h := if_f hb_12 h
    refine zV_iload_n (n := 12) C0 0 dX4_dry_11 rfl rfl ?_
    exact zretI hR h rfl dX4_dry_12
set_option maxRecDepth 20000 in
theorem mX4_undo_0 : Cond.fieldLink RX4 33 "LeggedThrough" "acts" "LLeggedThrough$Acts;" ∈ wsX4_undo := by decide +kernel
set_option maxRecDepth 20000 in
theorem mX4_undo_1 : Cond.fieldLink RX4 26 "LeggedThrough" "state" "LLeggedThrough$State;" ∈ wsX4_undo := by decide +kernel
set_option maxRecDepth 20000 in
theorem hinX4_undo_X0 : ∀ w ∈ u_ws RX0 TX0 3, w ∈ wsX4_undo := fun w h => List.mem_cons_of_mem _ (List.mem_append_left _ (List.mem_append_right _ h))
set_option maxRecDepth 20000 in
theorem hinX4_undo_X4 : ∀ w ∈ u_ws RX4 TX4 10, w ∈ wsX4_undo := fun w h => List.mem_cons_of_mem _ (List.mem_append_left _ (List.mem_append_left _ (List.mem_append_right _ h)))
set_option maxRecDepth 20000 in
set_option maxHeartbeats 4000000 in
theorem k_X4_undo {l : Launch} {D : va_G} {cI cZ : ClassId} {q : Nat} {ad : Nat → Nat}   (S : zS) (r : Int32 × zS) (h : f_X4_undo  S = some r) : zI l yX4_undo wsX4_undo (zRm 2 44) D (zty cI cZ) zNw (wC cI q ad) [.ref q] S r := by
  refine zI_of (cc := cX4_undo) (maxL := 1) (ty := .int) (by decide +kernel) rfl (Nat.le_of_ble_eq_true rfl) zNw_ok (fun E hE1 hE2 C0 hR => ?_)
  subst hE1; subst hE2
  replace C0 : zCx E (zRm 2 44) cX4_undo 1 RX4 wsX4_undo (zty cI cZ) zNw := C0
  show zV E (wC cI q ad) 1 S 0 [(0, .ref q)] []
  delta f_X4_undo at h
  refine zV_aload_n (n := 1) C0 0 dX4_undo_0 rfl rfl ?_
  refine zV_get (n := 4) (ref := RX4) C0 hinX4_undo_X4 0 rfl rfl 3 (Nat.le_of_ble_eq_true rfl) mX4_undo_0 rfl rfl dX4_undo_1 rfl ?_
  refine zV_getN (n := 7) (ref := RX0) C0 hinX4_undo_X0 4 rfl rfl 2 (Nat.le_of_ble_eq_true rfl) (fun hN => va_Nw.use rfl (hN _ (List.mem_of_getElem? (i := 7) rfl))) rfl rfl dX4_undo_4 rfl ?_
  refine zV_if_ne (tgt := 13) (n := 10) C0 dX4_undo_7 rfl rfl (fun hb_3 => ?_) (fun hb_3 => ?_)
  · replace h := if_f hb_3 h
    refine zV_aload_n (n := 14) C0 0 dX4_undo_13 rfl rfl ?_
    refine zV_get (n := 17) (ref := RX4) C0 hinX4_undo_X4 0 rfl rfl 3 (Nat.le_of_ble_eq_true rfl) mX4_undo_0 rfl rfl dX4_undo_14 rfl ?_
    refine zV_aload_n (n := 18) C0 0 dX4_undo_17 rfl rfl ?_
    refine zV_get (n := 21) (ref := RX4) C0 hinX4_undo_X4 0 rfl rfl 2 (Nat.le_of_ble_eq_true rfl) mX4_undo_1 rfl rfl dX4_undo_18 rfl ?_
    obtain ⟨S_2, hc_1, h⟩ := ob_of h
    refine zV_callVU (n := 24) (st := []) (As := [.ref (ad 2)]) C0 (k_X0_takeBack  S _ hc_1) gX4_undo_X0_takeBack rfl (hd_X0_takeBack) rfl ⟨rfl, rfl⟩ ⟨Nat.le_of_ble_eq_true rfl, Nat.le_of_ble_eq_true rfl⟩ 4 rfl rfl rfl (Nat.le_of_ble_eq_true rfl) dX4_undo_21 rfl ?_
    refine zV_aload_n (n := 25) C0 0 dX4_undo_24 rfl rfl ?_
    refine zV_get (n := 28) (ref := RX4) C0 hinX4_undo_X4 0 rfl rfl 3 (Nat.le_of_ble_eq_true rfl) mX4_undo_0 rfl rfl dX4_undo_25 rfl ?_
    refine zV_getN (n := 31) (ref := RX0) C0 hinX4_undo_X0 4 rfl rfl 2 (Nat.le_of_ble_eq_true rfl) (fun hN => va_Nw.use rfl (hN _ (List.mem_of_getElem? (i := 7) rfl))) rfl rfl dX4_undo_28 rfl ?_
    exact zretI hR h rfl dX4_undo_31
  · replace h := if_t hb_3 h
    refine zV_bipush (n := 12) (v := (-3 : Int32)) C0 dX4_undo_10 rfl rfl ?_
    exact zretI hR h rfl dX4_undo_12
set_option maxRecDepth 20000 in
theorem mX4_aloneMinutes_0 : Cond.fieldLink RX4 19 "LeggedThrough" "plan" "LLeggedThrough$Plan;" ∈ wsX4_aloneMinutes := by decide +kernel
set_option maxRecDepth 20000 in
theorem mX4_aloneMinutes_1 : Cond.fieldLink RX4 26 "LeggedThrough" "state" "LLeggedThrough$State;" ∈ wsX4_aloneMinutes := by decide +kernel
set_option maxRecDepth 20000 in
theorem hinX4_aloneMinutes_X1 : ∀ w ∈ u_ws RX1 TX1 5, w ∈ wsX4_aloneMinutes := fun w h => List.mem_cons_of_mem _ (List.mem_append_left _ (List.mem_append_right _ h))
set_option maxRecDepth 20000 in
theorem hinX4_aloneMinutes_X2 : ∀ w ∈ u_ws RX2 TX2 4, w ∈ wsX4_aloneMinutes := fun w h => List.mem_cons_of_mem _ (List.mem_append_right _ h)
set_option maxRecDepth 20000 in
theorem hinX4_aloneMinutes_X4 : ∀ w ∈ u_ws RX4 TX4 10, w ∈ wsX4_aloneMinutes := fun w h => List.mem_cons_of_mem _ (List.mem_append_left _ (List.mem_append_left _ (List.mem_append_right _ h)))
set_option maxRecDepth 20000 in
set_option maxHeartbeats 4000000 in
theorem k_X4_aloneMinutes {l : Launch} {D : va_G} {cI cZ : ClassId} {q : Nat} {ad : Nat → Nat} (a1 : Int32) (a2 : Int32)  (S : zS) (r : Int32) (h : f_X4_aloneMinutes a1 a2 S = some r) : zI l yX4_aloneMinutes wsX4_aloneMinutes (zRm 2 49) D (zty cI cZ) zNw (wC cI q ad) [.ref q, .int a1, .int a2] S (r, S) := by
  refine zI_of (cc := cX4_aloneMinutes) (maxL := 7) (ty := .int) (by decide +kernel) rfl (Nat.le_of_ble_eq_true rfl) zNw_ok (fun E hE1 hE2 C0 hR => ?_)
  subst hE1; subst hE2
  replace C0 : zCx E (zRm 2 49) cX4_aloneMinutes 7 RX4 wsX4_aloneMinutes (zty cI cZ) zNw := C0
  show zV E (wC cI q ad) 7 S 0 [(0, .ref q), (1, .int a1), (2, .int a2)] []
  delta f_X4_aloneMinutes at h
  refine zV_iconst (n := 1) (v := (0 : Int32)) C0 dX4_aloneMinutes_0 rfl rfl ?_
  refine zV_istore_n (n := 2) C0 [(3, .int (0 : Int32)), (0, .ref q), (1, .int a1), (2, .int a2)] dX4_aloneMinutes_1 rfl rfl (Nat.le_of_ble_eq_true rfl) rfl ?_
  refine zV_iload_n (n := 3) C0 3 dX4_aloneMinutes_2 rfl rfl ?_
  refine zV_istore (n := 5) C0 [(4, .int a2), (3, .int (0 : Int32)), (0, .ref q), (1, .int a1), (2, .int a2)] dX4_aloneMinutes_3 rfl (Nat.le_of_ble_eq_true rfl) rfl ?_
  refine zV_iconst (n := 6) (v := (0 : Int32)) C0 dX4_aloneMinutes_5 rfl rfl ?_
  refine zV_istore (n := 8) C0 [(5, .int (0 : Int32)), (4, .int a2), (3, .int (0 : Int32)), (0, .ref q), (1, .int a1), (2, .int a2)] dX4_aloneMinutes_6 rfl (Nat.le_of_ble_eq_true rfl) rfl ?_
  refine zV_sub [3, 4, 2, 1, 0] rfl ?_
  refine zfix_ind (fun e => zV E (wC cI q ad) 7 S 8 [(0, .ref q), (1, .int a1), (3, .int e.1), (4, .int e.2.1), (5, .int e.2.2)] []) (fun rec_4 hrec_4 e h => ?_) zN ((0 : Int32), a2, (0 : Int32)) h
  obtain ⟨x3_1, x4_2, x5_3⟩ := e
  have Jrec_4 : ∀ (x3_1 : Int32) (x4_2 : Int32) (x5_3 : Int32), rec_4 (x3_1, x4_2, x5_3) = some r → zV E (wC cI q ad) 7 S 8 [(0, .ref q), (1, .int a1), (3, .int x3_1), (4, .int x4_2), (5, .int x5_3)] [] := fun x3_1 x4_2 x5_3 h => hrec_4 _ h
  clear hrec_4
  dsimp only [F_X4_aloneMinutes_8] at h
  show zV E (wC cI q ad) 7 S 8 [(0, .ref q), (1, .int a1), (3, .int x3_1), (4, .int x4_2), (5, .int x5_3)] []
  refine zV_iload (n := 10) C0 4 dX4_aloneMinutes_8 rfl rfl ?_
  refine zV_aload_n (n := 11) C0 0 dX4_aloneMinutes_10 rfl rfl ?_
  refine zV_get (n := 14) (ref := RX4) C0 hinX4_aloneMinutes_X4 0 rfl rfl 1 (Nat.le_of_ble_eq_true rfl) mX4_aloneMinutes_0 rfl rfl dX4_aloneMinutes_11 rfl ?_
  refine zV_getN (n := 17) (ref := RX1) C0 hinX4_aloneMinutes_X1 2 rfl rfl 0 (Nat.le_of_ble_eq_true rfl) (fun hN => va_Nw.use rfl (hN _ (List.mem_of_getElem? (i := 1) rfl))) rfl rfl dX4_aloneMinutes_14 rfl ?_
  refine zV_icmp_ge (tgt := 66) (n := 20) C0 dX4_aloneMinutes_17 rfl rfl (fun hb_12 => ?_) (fun hb_12 => ?_)
  · replace h := if_t hb_12 h
    refine zV_iload_n (n := 67) C0 2 dX4_aloneMinutes_66 rfl rfl ?_
    exact zretI1 hR h rfl dX4_aloneMinutes_67
  · replace h := if_f hb_12 h
    refine zV_aload_n (n := 21) C0 0 dX4_aloneMinutes_20 rfl rfl ?_
    refine zV_get (n := 24) (ref := RX4) C0 hinX4_aloneMinutes_X4 0 rfl rfl 2 (Nat.le_of_ble_eq_true rfl) mX4_aloneMinutes_1 rfl rfl dX4_aloneMinutes_21 rfl ?_
    refine zV_iload_n (n := 25) C0 1 dX4_aloneMinutes_24 rfl rfl ?_
    refine zV_iload (n := 27) C0 3 dX4_aloneMinutes_25 rfl rfl ?_
    obtain ⟨r_6, hc_5, h⟩ := ob_of h
    refine zV_callVI (n := 30) (st := []) (As := [.int a1, .int x4_2]) C0 (k_X2_groundAt a1 x4_2 S _ hc_5) gX4_aloneMinutes_X2_groundAt rfl (hd_X2_groundAt) rfl ⟨rfl, rfl⟩ ⟨Nat.le_of_ble_eq_true rfl, Nat.le_of_ble_eq_true rfl⟩ 3 rfl rfl rfl (Nat.le_of_ble_eq_true rfl) dX4_aloneMinutes_27 rfl ?_
    refine zV_istore (n := 32) C0 [(6, .int r_6), (0, .ref q), (1, .int a1), (3, .int x3_1), (4, .int x4_2), (5, .int x5_3)] dX4_aloneMinutes_30 rfl (Nat.le_of_ble_eq_true rfl) rfl ?_
    refine zV_iload_n (n := 33) C0 3 dX4_aloneMinutes_32 rfl rfl ?_
    refine zV_aload_n (n := 34) C0 1 dX4_aloneMinutes_33 rfl rfl ?_
    refine zV_iload_n (n := 35) C0 2 dX4_aloneMinutes_34 rfl rfl ?_
    refine zV_iload (n := 37) C0 0 dX4_aloneMinutes_35 rfl rfl ?_
    refine zV_iload (n := 39) C0 5 dX4_aloneMinutes_37 rfl rfl ?_
    refine zV_aload_n (n := 40) C0 1 dX4_aloneMinutes_39 rfl rfl ?_
    refine zV_get (n := 43) (ref := RX4) C0 hinX4_aloneMinutes_X4 0 rfl rfl 2 (Nat.le_of_ble_eq_true rfl) mX4_aloneMinutes_1 rfl rfl dX4_aloneMinutes_40 rfl ?_
    refine zV_getN (n := 46) (ref := RX2) C0 hinX4_aloneMinutes_X2 3 rfl rfl 1 (Nat.le_of_ble_eq_true rfl) (fun hN => va_Nw.use rfl (hN _ (List.mem_of_getElem? (i := 4) rfl))) rfl rfl dX4_aloneMinutes_43 rfl ?_
    obtain ⟨r_8, hc_7, h⟩ := ob_of h
    refine zV_callVI (n := 49) (st := [.int x3_1]) (As := [.int a1, .int r_6, .int x5_3, .int (S.1 16)]) C0 (k_X4_stepMinutes a1 r_6 x5_3 (S.1 16) S _ hc_7) gX4_aloneMinutes_X4_stepMinutes rfl (hd_X4_stepMinutes) rfl ⟨rfl, rfl⟩ ⟨Nat.le_of_ble_eq_true rfl, Nat.le_of_ble_eq_true rfl⟩ 0 rfl rfl rfl (Nat.le_of_ble_eq_true rfl) dX4_aloneMinutes_46 rfl ?_
    refine zV_iadd (n := 50) C0 dX4_aloneMinutes_49  rfl ?_
    refine zV_topi (fun x3_9 ex3_9 => ?_)
    replace h := zlet_of ex3_9 h
    clear ex3_9
    refine zV_istore_n (n := 51) C0 [(3, .int x3_9), (6, .int r_6), (0, .ref q), (1, .int a1), (4, .int x4_2), (5, .int x5_3)] dX4_aloneMinutes_50 rfl rfl (Nat.le_of_ble_eq_true rfl) rfl ?_
    refine zV_iload (n := 53) C0 4 dX4_aloneMinutes_51 rfl rfl ?_
    refine zV_iload (n := 55) C0 1 dX4_aloneMinutes_53 rfl rfl ?_
    obtain ⟨r_11, hc_10, h⟩ := ob_of h
    refine zV_callS0 (n := 58) (st := []) (As := [.int x4_2, .int r_6]) C0 (k_X4_placeBehind x4_2 r_6 _ hc_10) gX4_aloneMinutes_X4_placeBehind rfl (hd_X4_placeBehind) rfl ⟨rfl, rfl⟩ ⟨Nat.le_of_ble_eq_true rfl, Nat.le_of_ble_eq_true rfl⟩ rfl (Nat.le_of_ble_eq_true rfl) dX4_aloneMinutes_55 rfl ?_
    refine zV_istore (n := 60) C0 [(4, .int r_11), (3, .int x3_9), (6, .int r_6), (0, .ref q), (1, .int a1), (5, .int x5_3)] dX4_aloneMinutes_58 rfl (Nat.le_of_ble_eq_true rfl) rfl ?_
    refine zV_iinc (n := 63) C0 5 (v := (x5_3 + (1 : Int32))) [(5, .int (x5_3 + (1 : Int32))), (4, .int r_11), (3, .int x3_9), (6, .int r_6), (0, .ref q), (1, .int a1)] dX4_aloneMinutes_60 rfl rfl rfl (Nat.le_of_ble_eq_true rfl) rfl ?_
    refine zV_goto (tgt := 8) C0 dX4_aloneMinutes_63 rfl ?_
    refine zV_sub [4, 5, 2, 1, 0] rfl ?_
    exact Jrec_4 x3_9 r_11 (x5_3 + (1 : Int32)) h
set_option maxRecDepth 20000 in
set_option maxHeartbeats 4000000 in
theorem k_X4_alone {l : Launch} {D : va_G} {cI cZ : ClassId} {q : Nat} {ad : Nat → Nat} (a1 : Int32) (a2 : Int32)  (S : zS) (r : Int32) (h : f_X4_alone a1 a2 S = some r) : zI l yX4_alone wsX4_alone (zRm 3 75) D (zty cI cZ) zNw (wC cI q ad) [.ref q, .int a1, .int a2] S (r, S) := by
  refine zI_of (cc := cX4_alone) (maxL := 4) (ty := .int) (by decide +kernel) rfl (Nat.le_of_ble_eq_true rfl) zNw_ok (fun E hE1 hE2 C0 hR => ?_)
  subst hE1; subst hE2
  replace C0 : zCx E (zRm 3 75) cX4_alone 4 RX4 wsX4_alone (zty cI cZ) zNw := C0
  show zV E (wC cI q ad) 4 S 0 [(0, .ref q), (1, .int a1), (2, .int a2)] []
  delta f_X4_alone at h
  refine zV_aload_n (n := 1) C0 0 dX4_alone_0 rfl rfl ?_
  refine zV_iload_n (n := 2) C0 1 dX4_alone_1 rfl rfl ?_
  refine zV_iload_n (n := 3) C0 2 dX4_alone_2 rfl rfl ?_
  obtain ⟨r_2, hc_1, h⟩ := ob_of h
  refine zV_callVI (n := 6) (st := []) (As := [.int a1, .int a2]) C0 (k_X4_placeRefusal a1 a2 S _ hc_1) gX4_alone_X4_placeRefusal rfl (hd_X4_placeRefusal) rfl ⟨rfl, rfl⟩ ⟨Nat.le_of_ble_eq_true rfl, Nat.le_of_ble_eq_true rfl⟩ 0 rfl rfl rfl (Nat.le_of_ble_eq_true rfl) dX4_alone_3 rfl ?_
  refine zV_istore_n (n := 7) C0 [(3, .int r_2), (0, .ref q), (1, .int a1), (2, .int a2)] dX4_alone_6 rfl rfl (Nat.le_of_ble_eq_true rfl) rfl ?_
  refine zV_iload_n (n := 8) C0 0 dX4_alone_7 rfl rfl ?_
  refine zjoin_of h (fun k_4 hk_4 h => ?_)
  have Jk_4 : ∀ (s_3 : Int32), k_4 (s_3) = some r → zV E (wC cI q ad) 4 S 21 [] [.int s_3] := by
    intro s_3 h
    replace h := hk_4 _ h
    exact zretI1 hR h rfl dX4_alone_21
  clear hk_4
  refine zV_if_eq (tgt := 15) (n := 11) C0 dX4_alone_8 rfl rfl (fun hb_7 => ?_) (fun hb_7 => ?_)
  · replace h := if_t hb_7 h
    refine zV_aload_n (n := 16) C0 1 dX4_alone_15 rfl rfl ?_
    refine zV_iload_n (n := 17) C0 2 dX4_alone_16 rfl rfl ?_
    refine zV_iload_n (n := 18) C0 3 dX4_alone_17 rfl rfl ?_
    obtain ⟨r_6, hc_5, h⟩ := ob_of h
    refine zV_callVI (n := 21) (st := []) (As := [.int a1, .int a2]) C0 (k_X4_aloneMinutes a1 a2 S _ hc_5) gX4_alone_X4_aloneMinutes rfl (hd_X4_aloneMinutes) rfl ⟨rfl, rfl⟩ ⟨Nat.le_of_ble_eq_true rfl, Nat.le_of_ble_eq_true rfl⟩ 0 rfl rfl rfl (Nat.le_of_ble_eq_true rfl) dX4_alone_18 rfl ?_
    refine zV_sub [] rfl ?_
    exact Jk_4 r_6 h
  · replace h := if_f hb_7 h
    refine zV_iload_n (n := 12) C0 0 dX4_alone_11 rfl rfl ?_
    refine zV_goto (tgt := 21) C0 dX4_alone_12 rfl ?_
    refine zV_sub [] rfl ?_
    exact Jk_4 r_2 h
set_option maxRecDepth 20000 in
theorem mX4_time_0 : Cond.fieldLink RX4 26 "LeggedThrough" "state" "LLeggedThrough$State;" ∈ wsX4_time := by decide +kernel
set_option maxRecDepth 20000 in
theorem mX4_time_1 : Cond.fieldLink RX4 19 "LeggedThrough" "plan" "LLeggedThrough$Plan;" ∈ wsX4_time := by decide +kernel
set_option maxRecDepth 20000 in
theorem hinX4_time_X2 : ∀ w ∈ u_ws RX2 TX2 4, w ∈ wsX4_time := fun w h => List.mem_cons_of_mem _ (List.mem_append_left _ (List.mem_append_right _ h))
set_option maxRecDepth 20000 in
theorem hinX4_time_X4 : ∀ w ∈ u_ws RX4 TX4 10, w ∈ wsX4_time := fun w h => List.mem_cons_of_mem _ (List.mem_append_left _ (List.mem_append_left _ (List.mem_append_right _ h)))
set_option maxRecDepth 20000 in
set_option maxHeartbeats 4000000 in
theorem k_X4_time {l : Launch} {D : va_G} {cI cZ : ClassId} {q : Nat} {ad : Nat → Nat} (a1 : Int32) (a2 : Int32) (a3 : Int32) (a4 : Int32) (a5 : Int32)  (S : zS) (r : Int32) (h : f_X4_time a1 a2 a3 a4 a5 S = some r) : zI l yX4_time wsX4_time (zRm 3 80) D (zty cI cZ) zNw (wC cI q ad) [.ref q, .int a1, .int a2, .int a3, .int a4, .int a5] S (r, S) := by
  refine zI_of (cc := cX4_time) (maxL := 7) (ty := .int) (by decide +kernel) rfl (Nat.le_of_ble_eq_true rfl) zNw_ok (fun E hE1 hE2 C0 hR => ?_)
  subst hE1; subst hE2
  replace C0 : zCx E (zRm 3 80) cX4_time 7 RX4 wsX4_time (zty cI cZ) zNw := C0
  show zV E (wC cI q ad) 7 S 0 [(0, .ref q), (1, .int a1), (2, .int a2), (3, .int a3), (4, .int a4), (5, .int a5)] []
  delta f_X4_time at h
  refine zV_aload_n (n := 1) C0 0 dX4_time_0 rfl rfl ?_
  refine zV_iload_n (n := 2) C0 1 dX4_time_1 rfl rfl ?_
  refine zV_iload_n (n := 3) C0 2 dX4_time_2 rfl rfl ?_
  refine zV_iload_n (n := 4) C0 3 dX4_time_3 rfl rfl ?_
  obtain ⟨r_2, hc_1, h⟩ := ob_of h
  refine zV_callVI (n := 7) (st := []) (As := [.int a1, .int a2, .int a3]) C0 (k_X4_pairRefusal a1 a2 a3 S _ hc_1) gX4_time_X4_pairRefusal rfl (hd_X4_pairRefusal) rfl ⟨rfl, rfl⟩ ⟨Nat.le_of_ble_eq_true rfl, Nat.le_of_ble_eq_true rfl⟩ 0 rfl rfl rfl (Nat.le_of_ble_eq_true rfl) dX4_time_4 rfl ?_
  refine zV_istore (n := 9) C0 [(6, .int r_2), (0, .ref q), (1, .int a1), (2, .int a2), (3, .int a3), (4, .int a4), (5, .int a5)] dX4_time_7 rfl (Nat.le_of_ble_eq_true rfl) rfl ?_
  refine zV_iload (n := 11) C0 0 dX4_time_9 rfl rfl ?_
  refine zV_if_eq (tgt := 17) (n := 14) C0 dX4_time_11 rfl rfl (fun hb_14 => ?_) (fun hb_14 => ?_)
  · replace h := if_t hb_14 h
    refine zV_iload (n := 19) C0 5 dX4_time_17 rfl rfl ?_
    obtain ⟨r_4, hc_3, h⟩ := ob_of h
    refine zV_callS0 (n := 22) (st := []) (As := [.int a4]) C0 (k_X4_isPlace a4 _ hc_3) gX4_time_X4_isPlace rfl (hd_X4_isPlace) rfl ⟨rfl, rfl⟩ ⟨Nat.le_of_ble_eq_true rfl, Nat.le_of_ble_eq_true rfl⟩ rfl (Nat.le_of_ble_eq_true rfl) dX4_time_19 rfl ?_
    refine zjoin_of h (fun k_5 hk_5 h => ?_)
    have Jk_5 : k_5 () = some r → zV E (wC cI q ad) 7 S 33 [] [] := by
      intro  h
      replace h := hk_5 _ h
      refine zV_bipush (n := 35) (v := (-2 : Int32)) C0 dX4_time_33 rfl rfl ?_
      exact zretI1 hR h rfl dX4_time_35
    clear hk_5
    refine zV_if_eq (tgt := 33) (n := 25) C0 dX4_time_22 rfl rfl (fun hb_13 => ?_) (fun hb_13 => ?_)
    · replace h := if_t hb_13 h
      refine zV_sub [] rfl ?_
      exact Jk_5  h
    · replace h := if_f hb_13 h
      refine zV_iload (n := 27) C0 6 dX4_time_25 rfl rfl ?_
      obtain ⟨r_7, hc_6, h⟩ := ob_of h
      refine zV_callS0 (n := 30) (st := []) (As := [.int a5]) C0 (k_X4_isPlace a5 _ hc_6) gX4_time_X4_isPlace rfl (hd_X4_isPlace) rfl ⟨rfl, rfl⟩ ⟨Nat.le_of_ble_eq_true rfl, Nat.le_of_ble_eq_true rfl⟩ rfl (Nat.le_of_ble_eq_true rfl) dX4_time_27 rfl ?_
      refine zV_if_ne (tgt := 36) (n := 33) C0 dX4_time_30 rfl rfl (fun hb_12 => ?_) (fun hb_12 => ?_)
      · replace h := if_f hb_12 h
        refine zV_aload_n (n := 37) C0 1 dX4_time_36 rfl rfl ?_
        refine zV_iload_n (n := 38) C0 3 dX4_time_37 rfl rfl ?_
        refine zV_iload_n (n := 39) C0 4 dX4_time_38 rfl rfl ?_
        refine zV_iload (n := 41) C0 5 dX4_time_39 rfl rfl ?_
        refine zV_iload (n := 43) C0 6 dX4_time_41 rfl rfl ?_
        refine zV_aload_n (n := 44) C0 1 dX4_time_43 rfl rfl ?_
        refine zV_get (n := 47) (ref := RX4) C0 hinX4_time_X4 0 rfl rfl 2 (Nat.le_of_ble_eq_true rfl) mX4_time_0 rfl rfl dX4_time_44 rfl ?_
        refine zV_getN (n := 50) (ref := RX2) C0 hinX4_time_X2 3 rfl rfl 1 (Nat.le_of_ble_eq_true rfl) (fun hN => va_Nw.use rfl (hN _ (List.mem_of_getElem? (i := 4) rfl))) rfl rfl dX4_time_47 rfl ?_
        obtain ⟨r_9, hc_8, h⟩ := ob_of h
        refine zV_callVI (n := 53) (st := []) (As := [.int a2, .int a3, .int a4, .int a5, .int (S.1 16)]) C0 (k_X4_pairMinutes a2 a3 a4 a5 (S.1 16) S _ hc_8) gX4_time_X4_pairMinutes rfl (hd_X4_pairMinutes) rfl ⟨rfl, rfl⟩ ⟨Nat.le_of_ble_eq_true rfl, Nat.le_of_ble_eq_true rfl⟩ 0 rfl rfl rfl (Nat.le_of_ble_eq_true rfl) dX4_time_50 rfl ?_
        refine zV_aload_n (n := 54) C0 1 dX4_time_53 rfl rfl ?_
        refine zV_get (n := 57) (ref := RX4) C0 hinX4_time_X4 0 rfl rfl 1 (Nat.le_of_ble_eq_true rfl) mX4_time_1 rfl rfl dX4_time_54 rfl ?_
        refine zV_iload_n (n := 58) C0 2 dX4_time_57 rfl rfl ?_
        obtain ⟨r_11, hc_10, h⟩ := ob_of h
        refine zV_callVI (n := 61) (st := [.int r_9]) (As := [.int a1]) C0 (k_X1_loadOf a1 S _ hc_10) gX4_time_X1_loadOf rfl (hd_X1_loadOf) rfl ⟨rfl, rfl⟩ ⟨Nat.le_of_ble_eq_true rfl, Nat.le_of_ble_eq_true rfl⟩ 2 rfl rfl rfl (Nat.le_of_ble_eq_true rfl) dX4_time_58 rfl ?_
        refine zV_iadd (n := 62) C0 dX4_time_61  rfl ?_
        exact zretI1 hR h rfl dX4_time_62
      · replace h := if_t hb_12 h
        refine zV_sub [] rfl ?_
        exact Jk_5  h
  · replace h := if_f hb_14 h
    refine zV_iload (n := 16) C0 0 dX4_time_14 rfl rfl ?_
    exact zretI1 hR h rfl dX4_time_16
