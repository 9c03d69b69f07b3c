/-! ===== the walks, printed by gen/walk.py ===== -/
set_option maxRecDepth 20000 in
theorem mX5_noLegger_0 : Cond.fieldLink RX5 66 "LeggedThroughModel" "leggers" "I" ∈ wsX5_noLegger := by decide +kernel
set_option maxRecDepth 20000 in
theorem hinX5_noLegger_X5 : ∀ w ∈ u_ws RX5 TX5 37, w ∈ wsX5_noLegger := fun w h => List.mem_cons_of_mem _ (List.mem_append_right _ h)
set_option maxRecDepth 20000 in
set_option maxHeartbeats 4000000 in
theorem k_X5_noLegger {l : Launch} {D : va_G} {cI cZ : ClassId} {q : Nat} {ad : Nat → Nat} (a1 : Int32)  (S : zS) (r : Int32) (h : f_X5_noLegger a1 S = some r) : zI l yX5_noLegger wsX5_noLegger (zRm 1 25) D (zty cI cZ) zNw (wM cI cZ q ad) [.ref q, .int a1] S (r, S) := by
  refine zI_of (cc := cX5_noLegger) (maxL := 2) (ty := .boolean) (by decide +kernel) rfl (Nat.le_of_ble_eq_true rfl) zNw_ok (fun E hE1 hE2 C0 hR => ?_)
  subst hE1; subst hE2
  replace C0 : zCx E (zRm 1 25) cX5_noLegger 2 RX5 wsX5_noLegger (zty cI cZ) zNw := C0
  show zV E (wM cI cZ q ad) 2 S 0 [(0, .ref q), (1, .int a1)] []
  delta f_X5_noLegger at h
  refine zV_iload_n (n := 1) C0 1 dX5_noLegger_0 rfl rfl ?_
  refine zV_i2l (n := 2) C0 dX5_noLegger_1  rfl ?_
  refine zV_lconst (n := 3) (v := (0 : Int64)) C0 dX5_noLegger_2 rfl rfl ?_
  refine zV_aload_n (n := 4) C0 0 dX5_noLegger_3 rfl rfl ?_
  refine zV_get (n := 7) (ref := RX5) C0 hinX5_noLegger_X5 0 rfl rfl 5 (Nat.le_of_ble_eq_true rfl) mX5_noLegger_0 rfl rfl dX5_noLegger_4 rfl ?_
  refine zV_iconst (n := 8) (v := (1 : Int32)) C0 dX5_noLegger_7 rfl rfl ?_
  refine zV_isub (n := 9) C0 dX5_noLegger_8  rfl ?_
  refine zV_i2l (n := 10) C0 dX5_noLegger_9  rfl ?_
  obtain ⟨r_2, hc_1, h⟩ := ob_of h
  refine zV_callS0 (n := 13) (st := []) (As := [.long a1.toInt64, .long (0 : Int64), .long (((S.1 5) - (1 : Int32))).toInt64]) C0 (k_X5_in a1.toInt64 (0 : Int64) (((S.1 5) - (1 : Int32))).toInt64 _ hc_1) gX5_noLegger_X5_in rfl (hd_X5_in) rfl ⟨rfl, rfl⟩ ⟨Nat.le_of_ble_eq_true rfl, Nat.le_of_ble_eq_true rfl⟩ rfl (Nat.le_of_ble_eq_true rfl) dX5_noLegger_10 rfl ?_
  refine zjoin_of h (fun k_4 hk_4 h => ?_)
  have Jk_4 : ∀ (s_3 : Int32), k_4 (s_3) = some r → zV E (wM cI cZ q ad) 2 S 21 [] [.int s_3] := by
    intro s_3 h
    replace h := hk_4 _ h
    obtain ⟨hz, h⟩ := gd_of h
    exact zretI1 hR h (znz hz) dX5_noLegger_21
  clear hk_4
  refine zV_if_ne (tgt := 20) (n := 16) C0 dX5_noLegger_13 rfl rfl (fun hb_5 => ?_) (fun hb_5 => ?_)
  · replace h := if_f hb_5 h
    refine zV_iconst (n := 21) (v := (0 : Int32)) C0 dX5_noLegger_20 rfl rfl ?_
    refine zV_sub [] rfl ?_
    exact Jk_4 (0 : Int32) h
  · replace h := if_t hb_5 h
    refine zV_iconst (n := 17) (v := (1 : Int32)) C0 dX5_noLegger_16 rfl rfl ?_
    refine zV_goto (tgt := 21) C0 dX5_noLegger_17 rfl ?_
    refine zV_sub [] rfl ?_
    exact Jk_4 (1 : Int32) h
set_option maxRecDepth 20000 in
theorem mX5_noBoat_0 : Cond.fieldLink RX5 73 "LeggedThroughModel" "boats" "I" ∈ wsX5_noBoat := by decide +kernel
set_option maxRecDepth 20000 in
theorem hinX5_noBoat_X5 : ∀ w ∈ u_ws RX5 TX5 37, w ∈ wsX5_noBoat := fun w h => List.mem_cons_of_mem _ (List.mem_append_right _ h)
set_option maxRecDepth 20000 in
set_option maxHeartbeats 4000000 in
theorem k_X5_noBoat {l : Launch} {D : va_G} {cI cZ : ClassId} {q : Nat} {ad : Nat → Nat} (a1 : Int32)  (S : zS) (r : Int32) (h : f_X5_noBoat a1 S = some r) : zI l yX5_noBoat wsX5_noBoat (zRm 1 25) D (zty cI cZ) zNw (wM cI cZ q ad) [.ref q, .int a1] S (r, S) := by
  refine zI_of (cc := cX5_noBoat) (maxL := 2) (ty := .boolean) (by decide +kernel) rfl (Nat.le_of_ble_eq_true rfl) zNw_ok (fun E hE1 hE2 C0 hR => ?_)
  subst hE1; subst hE2
  replace C0 : zCx E (zRm 1 25) cX5_noBoat 2 RX5 wsX5_noBoat (zty cI cZ) zNw := C0
  show zV E (wM cI cZ q ad) 2 S 0 [(0, .ref q), (1, .int a1)] []
  delta f_X5_noBoat at h
  refine zV_iload_n (n := 1) C0 1 dX5_noBoat_0 rfl rfl ?_
  refine zV_i2l (n := 2) C0 dX5_noBoat_1  rfl ?_
  refine zV_lconst (n := 3) (v := (0 : Int64)) C0 dX5_noBoat_2 rfl rfl ?_
  refine zV_aload_n (n := 4) C0 0 dX5_noBoat_3 rfl rfl ?_
  refine zV_get (n := 7) (ref := RX5) C0 hinX5_noBoat_X5 0 rfl rfl 7 (Nat.le_of_ble_eq_true rfl) mX5_noBoat_0 rfl rfl dX5_noBoat_4 rfl ?_
  refine zV_iconst (n := 8) (v := (1 : Int32)) C0 dX5_noBoat_7 rfl rfl ?_
  refine zV_isub (n := 9) C0 dX5_noBoat_8  rfl ?_
  refine zV_i2l (n := 10) C0 dX5_noBoat_9  rfl ?_
  obtain ⟨r_2, hc_1, h⟩ := ob_of h
  refine zV_callS0 (n := 13) (st := []) (As := [.long a1.toInt64, .long (0 : Int64), .long (((S.1 7) - (1 : Int32))).toInt64]) C0 (k_X5_in a1.toInt64 (0 : Int64) (((S.1 7) - (1 : Int32))).toInt64 _ hc_1) gX5_noBoat_X5_in rfl (hd_X5_in) rfl ⟨rfl, rfl⟩ ⟨Nat.le_of_ble_eq_true rfl, Nat.le_of_ble_eq_true rfl⟩ rfl (Nat.le_of_ble_eq_true rfl) dX5_noBoat_10 rfl ?_
  refine zjoin_of h (fun k_4 hk_4 h => ?_)
  have Jk_4 : ∀ (s_3 : Int32), k_4 (s_3) = some r → zV E (wM cI cZ q ad) 2 S 21 [] [.int s_3] := by
    intro s_3 h
    replace h := hk_4 _ h
    obtain ⟨hz, h⟩ := gd_of h
    exact zretI1 hR h (znz hz) dX5_noBoat_21
  clear hk_4
  refine zV_if_ne (tgt := 20) (n := 16) C0 dX5_noBoat_13 rfl rfl (fun hb_5 => ?_) (fun hb_5 => ?_)
  · replace h := if_f hb_5 h
    refine zV_iconst (n := 21) (v := (0 : Int32)) C0 dX5_noBoat_20 rfl rfl ?_
    refine zV_sub [] rfl ?_
    exact Jk_4 (0 : Int32) h
  · replace h := if_t hb_5 h
    refine zV_iconst (n := 17) (v := (1 : Int32)) C0 dX5_noBoat_16 rfl rfl ?_
    refine zV_goto (tgt := 21) C0 dX5_noBoat_17 rfl ?_
    refine zV_sub [] rfl ?_
    exact Jk_4 (1 : Int32) h
set_option maxRecDepth 20000 in
theorem mX5_write_0 : Cond.fieldLink RX5 63 "LeggedThroughModel" "thrown" "I" ∈ wsX5_write := by decide +kernel
set_option maxRecDepth 20000 in
theorem mX5_write_1 : Cond.constantLong RX5 76 (255 : Int64) ∈ wsX5_write := by decide +kernel
set_option maxRecDepth 20000 in
theorem mX5_write_2 : Cond.fieldLink RX5 78 "LeggedThroughModel" "textSize" "I" ∈ wsX5_write := by decide +kernel
set_option maxRecDepth 20000 in
theorem mX5_write_3 : Cond.fieldLink RX5 7 "LeggedThroughModel" "text" "[I" ∈ wsX5_write := by decide +kernel
set_option maxRecDepth 20000 in
theorem hinX5_write_X5 : ∀ w ∈ u_ws RX5 TX5 37, w ∈ wsX5_write := fun w h => List.mem_cons_of_mem _ (List.mem_append_right _ h)
set_option maxRecDepth 20000 in
set_option maxHeartbeats 4000000 in
theorem k_X5_write {l : Launch} {D : va_G} {cI cZ : ClassId} {q : Nat} {ad : Nat → Nat} (a1 : Int32)  (S : zS) (r : Int32 × zS) (h : f_X5_write a1 S = some r) : zI l yX5_write wsX5_write (zRm 1 25) D (zty cI cZ) zNw (wM cI cZ q ad) [.ref q, .int a1] S r := by
  refine zI_of (cc := cX5_write) (maxL := 2) (ty := .int) (by decide +kernel) rfl (Nat.le_of_ble_eq_true rfl) zNw_ok (fun E hE1 hE2 C0 hR => ?_)
  subst hE1; subst hE2
  replace C0 : zCx E (zRm 1 25) cX5_write 2 RX5 wsX5_write (zty cI cZ) zNw := C0
  show zV E (wM cI cZ q ad) 2 S 0 [(0, .ref q), (1, .int a1)] []
  delta f_X5_write at h
  refine zV_aload_n (n := 1) C0 0 dX5_write_0 rfl rfl ?_
  refine zV_iconst (n := 2) (v := (0 : Int32)) C0 dX5_write_1 rfl rfl ?_
  refine zV_put (n := 5) (ref := RX5) C0 hinX5_write_X5 0 rfl rfl 0 (Nat.le_of_ble_eq_true rfl) mX5_write_0 rfl tyX5 tyX5_ok nmX5 rfl (tyX5_ok 0 (Nat.le_of_ble_eq_true rfl)) rfl rfl (Nat.le_of_ble_eq_true rfl) (upd S.1 0 (0 : Int32), S.2) (wM_f0 cI cZ q ad S (0 : Int32)) dX5_write_2 rfl ?_
  refine zV_topS (fun S_1 eS_1 => ?_)
  replace h := zlet_of eS_1 h
  clear eS_1
  refine zV_iload_n (n := 6) C0 1 dX5_write_5 rfl rfl ?_
  refine zV_i2l (n := 7) C0 dX5_write_6  rfl ?_
  refine zV_lconst (n := 8) (v := (0 : Int64)) C0 dX5_write_7 rfl rfl ?_
  refine zV_ldc2 (n := 11) (v := (255 : Int64)) C0 dX5_write_8 mX5_write_1 rfl ?_
  obtain ⟨r_3, hc_2, h⟩ := ob_of h
  refine zV_callS0 (n := 14) (st := []) (As := [.long a1.toInt64, .long (0 : Int64), .long (255 : Int64)]) C0 (k_X5_in a1.toInt64 (0 : Int64) (255 : Int64) _ hc_2) gX5_write_X5_in rfl (hd_X5_in) rfl ⟨rfl, rfl⟩ ⟨Nat.le_of_ble_eq_true rfl, Nat.le_of_ble_eq_true rfl⟩ rfl (Nat.le_of_ble_eq_true rfl) dX5_write_11 rfl ?_
  refine zV_if_ne (tgt := 20) (n := 17) C0 dX5_write_14 rfl rfl (fun hb_8 => ?_) (fun hb_8 => ?_)
  · replace h := if_f hb_8 h
    refine zV_aload_n (n := 21) C0 0 dX5_write_20 rfl rfl ?_
    refine zV_get (n := 24) (ref := RX5) C0 hinX5_write_X5 0 rfl rfl 2 (Nat.le_of_ble_eq_true rfl) mX5_write_2 rfl rfl dX5_write_21 rfl ?_
    refine zV_bipush (n := 26) (v := (40 : Int32)) C0 dX5_write_24 rfl rfl ?_
    refine zV_icmp_ne (tgt := 32) (n := 29) C0 dX5_write_26 rfl rfl (fun hb_7 => ?_) (fun hb_7 => ?_)
    · replace h := if_f hb_7 h
      refine zV_aload_n (n := 33) C0 0 dX5_write_32 rfl rfl ?_
      refine zV_get (n := 36) (ref := RX5) C0 hinX5_write_X5 0 rfl rfl 1 (Nat.le_of_ble_eq_true rfl) mX5_write_3 rfl rfl dX5_write_33 rfl ?_
      refine zV_aload_n (n := 37) C0 0 dX5_write_36 rfl rfl ?_
      refine zV_get (n := 40) (ref := RX5) C0 hinX5_write_X5 0 rfl rfl 2 (Nat.le_of_ble_eq_true rfl) mX5_write_2 rfl rfl dX5_write_37 rfl ?_
      refine zV_iload_n (n := 41) C0 1 dX5_write_40 rfl rfl ?_
      obtain ⟨hg_4, h⟩ := gd_of h
      refine zV_iast (n := 42) C0 1 0 rfl rfl hg_4 (S_1.1, S_1.2.1, zur S_1.2.2 1 (upd (S_1.2.2 1) ((S_1.1 2)).toNatClampNeg a1)) (wM_a1 cI cZ q ad S_1 (upd (S_1.2.2 1) ((S_1.1 2)).toNatClampNeg a1)) dX5_write_41 rfl ?_
      refine zV_topS (fun S_5 eS_5 => ?_)
      replace h := zlet_of eS_5 h
      clear eS_5
      refine zV_aload_n (n := 43) C0 0 dX5_write_42 rfl rfl ?_
      refine zV_dup (n := 44) C0 dX5_write_43 rfl rfl ?_
      refine zV_get (n := 47) (ref := RX5) C0 hinX5_write_X5 0 rfl rfl 2 (Nat.le_of_ble_eq_true rfl) mX5_write_2 rfl rfl dX5_write_44 rfl ?_
      refine zV_iconst (n := 48) (v := (1 : Int32)) C0 dX5_write_47 rfl rfl ?_
      refine zV_iadd (n := 49) C0 dX5_write_48  rfl ?_
      refine zV_put (n := 52) (ref := RX5) C0 hinX5_write_X5 0 rfl rfl 2 (Nat.le_of_ble_eq_true rfl) mX5_write_2 rfl tyX5 tyX5_ok nmX5 rfl (tyX5_ok 2 (Nat.le_of_ble_eq_true rfl)) rfl rfl (Nat.le_of_ble_eq_true rfl) (upd S_5.1 2 ((S_5.1 2) + (1 : Int32)), S_5.2) (wM_f2 cI cZ q ad S_5 ((S_5.1 2) + (1 : Int32))) dX5_write_49 rfl ?_
      refine zV_topS (fun S_6 eS_6 => ?_)
      replace h := zlet_of eS_6 h
      clear eS_6
      refine zV_aload_n (n := 53) C0 0 dX5_write_52 rfl rfl ?_
      refine zV_get (n := 56) (ref := RX5) C0 hinX5_write_X5 0 rfl rfl 2 (Nat.le_of_ble_eq_true rfl) mX5_write_2 rfl rfl dX5_write_53 rfl ?_
      exact zretI hR h rfl dX5_write_56
    · replace h := if_t hb_7 h
      refine zV_bipush (n := 31) (v := (-4 : Int32)) C0 dX5_write_29 rfl rfl ?_
      exact zretI hR h rfl dX5_write_31
  · replace h := if_t hb_8 h
    refine zV_bipush (n := 19) (v := (-2 : Int32)) C0 dX5_write_17 rfl rfl ?_
    exact zretI hR h rfl dX5_write_19
set_option maxRecDepth 20000 in
theorem mX5_wipe_0 : Cond.fieldLink RX5 63 "LeggedThroughModel" "thrown" "I" ∈ wsX5_wipe := by decide +kernel
set_option maxRecDepth 20000 in
theorem mX5_wipe_1 : Cond.fieldLink RX5 78 "LeggedThroughModel" "textSize" "I" ∈ wsX5_wipe := by decide +kernel
set_option maxRecDepth 20000 in
theorem hinX5_wipe_X5 : ∀ w ∈ u_ws RX5 TX5 37, w ∈ wsX5_wipe := fun w h => List.mem_cons_of_mem _ (List.mem_append_right _ h)
set_option maxRecDepth 20000 in
set_option maxHeartbeats 4000000 in
theorem k_X5_wipe {l : Launch} {D : va_G} {cI cZ : ClassId} {q : Nat} {ad : Nat → Nat}   (S : zS) (r : Int32 × zS) (h : f_X5_wipe  S = some r) : zI l yX5_wipe wsX5_wipe (zRm 0 0) D (zty cI cZ) zNw (wM cI cZ q ad) [.ref q] S r := by
  refine zI_of (cc := cX5_wipe) (maxL := 2) (ty := .int) (by decide +kernel) rfl (Nat.le_of_ble_eq_true rfl) zNw_ok (fun E hE1 hE2 C0 hR => ?_)
  subst hE1; subst hE2
  replace C0 : zCx E (zRm 0 0) cX5_wipe 2 RX5 wsX5_wipe (zty cI cZ) zNw := C0
  show zV E (wM cI cZ q ad) 2 S 0 [(0, .ref q)] []
  delta f_X5_wipe at h
  refine zV_aload_n (n := 1) C0 0 dX5_wipe_0 rfl rfl ?_
  refine zV_iconst (n := 2) (v := (0 : Int32)) C0 dX5_wipe_1 rfl rfl ?_
  refine zV_put (n := 5) (ref := RX5) C0 hinX5_wipe_X5 0 rfl rfl 0 (Nat.le_of_ble_eq_true rfl) mX5_wipe_0 rfl tyX5 tyX5_ok nmX5 rfl (tyX5_ok 0 (Nat.le_of_ble_eq_true rfl)) rfl rfl (Nat.le_of_ble_eq_true rfl) (upd S.1 0 (0 : Int32), S.2) (wM_f0 cI cZ q ad S (0 : Int32)) dX5_wipe_2 rfl ?_
  refine zV_topS (fun S_1 eS_1 => ?_)
  replace h := zlet_of eS_1 h
  clear eS_1
  refine zV_aload_n (n := 6) C0 0 dX5_wipe_5 rfl rfl ?_
  refine zV_get (n := 9) (ref := RX5) C0 hinX5_wipe_X5 0 rfl rfl 2 (Nat.le_of_ble_eq_true rfl) mX5_wipe_1 rfl rfl dX5_wipe_6 rfl ?_
  refine zV_topi (fun x1_2 ex1_2 => ?_)
  replace h := zlet_of ex1_2 h
  clear ex1_2
  refine zV_istore_n (n := 10) C0 [(1, .int x1_2), (0, .ref q)] dX5_wipe_9 rfl rfl (Nat.le_of_ble_eq_true rfl) rfl ?_
  refine zV_aload_n (n := 11) C0 1 dX5_wipe_10 rfl rfl ?_
  refine zV_iconst (n := 12) (v := (0 : Int32)) C0 dX5_wipe_11 rfl rfl ?_
  refine zV_put (n := 15) (ref := RX5) C0 hinX5_wipe_X5 0 rfl rfl 2 (Nat.le_of_ble_eq_true rfl) mX5_wipe_1 rfl tyX5 tyX5_ok nmX5 rfl (tyX5_ok 2 (Nat.le_of_ble_eq_true rfl)) rfl rfl (Nat.le_of_ble_eq_true rfl) (upd S_1.1 2 (0 : Int32), S_1.2) (wM_f2 cI cZ q ad S_1 (0 : Int32)) dX5_wipe_12 rfl ?_
  refine zV_topS (fun S_3 eS_3 => ?_)
  replace h := zlet_of eS_3 h
  clear eS_3
  refine zV_iload_n (n := 16) C0 0 dX5_wipe_15 rfl rfl ?_
  exact zretI hR h rfl dX5_wipe_16
set_option maxRecDepth 20000 in
theorem mX5_figure_0 : Cond.fieldLink RX5 81 "LeggedThroughModel" "place" "I" ∈ wsX5_figure := by decide +kernel
set_option maxRecDepth 20000 in
theorem mX5_figure_1 : Cond.fieldLink RX5 78 "LeggedThroughModel" "textSize" "I" ∈ wsX5_figure := by decide +kernel
set_option maxRecDepth 20000 in
theorem mX5_figure_2 : Cond.fieldLink RX5 7 "LeggedThroughModel" "text" "[I" ∈ wsX5_figure := by decide +kernel
set_option maxRecDepth 20000 in
theorem hinX5_figure_X5 : ∀ w ∈ u_ws RX5 TX5 37, w ∈ wsX5_figure := fun w h => List.mem_cons_of_mem _ (List.mem_append_right _ h)
set_option maxRecDepth 20000 in
set_option maxHeartbeats 4000000 in
theorem k_X5_figure {l : Launch} {D : va_G} {cI cZ : ClassId} {q : Nat} {ad : Nat → Nat} (a1 : Int32) (a2 : Int32)  (S : zS) (r : Int32 × zS) (h : f_X5_figure a1 a2 S = some r) : zI l yX5_figure wsX5_figure (zRm 1 25) D (zty cI cZ) zNw (wM cI cZ q ad) [.ref q, .int a1, .int a2] S r := by
  refine zI_of (cc := cX5_figure) (maxL := 3) (ty := .int) (by decide +kernel) rfl (Nat.le_of_ble_eq_true rfl) zNw_ok (fun E hE1 hE2 C0 hR => ?_)
  subst hE1; subst hE2
  replace C0 : zCx E (zRm 1 25) cX5_figure 3 RX5 wsX5_figure (zty cI cZ) zNw := C0
  show zV E (wM cI cZ q ad) 3 S 0 [(0, .ref q), (1, .int a1), (2, .int a2)] []
  delta f_X5_figure at h
  refine zV_aload_n (n := 1) C0 0 dX5_figure_0 rfl rfl ?_
  refine zV_get (n := 4) (ref := RX5) C0 hinX5_figure_X5 0 rfl rfl 3 (Nat.le_of_ble_eq_true rfl) mX5_figure_0 rfl rfl dX5_figure_1 rfl ?_
  refine zV_aload_n (n := 5) C0 0 dX5_figure_4 rfl rfl ?_
  refine zV_get (n := 8) (ref := RX5) C0 hinX5_figure_X5 0 rfl rfl 2 (Nat.le_of_ble_eq_true rfl) mX5_figure_1 rfl rfl dX5_figure_5 rfl ?_
  refine zjoin_of h (fun k_1 hk_1 h => ?_)
  have Jk_1 : k_1 () = some r → zV E (wM cI cZ q ad) 3 S 34 [] [] := by
    intro  h
    replace h := hk_1 _ h
    refine zV_bipush (n := 36) (v := (-9 : Int32)) C0 dX5_figure_34 rfl rfl ?_
    exact zretI hR h rfl dX5_figure_36
  clear hk_1
  refine zV_icmp_eq (tgt := 34) (n := 11) C0 dX5_figure_8 rfl rfl (fun hb_8 => ?_) (fun hb_8 => ?_)
  · replace h := if_t hb_8 h
    refine zV_sub [] rfl ?_
    exact Jk_1  h
  · replace h := if_f hb_8 h
    refine zV_aload_n (n := 12) C0 0 dX5_figure_11 rfl rfl ?_
    refine zV_get (n := 15) (ref := RX5) C0 hinX5_figure_X5 0 rfl rfl 1 (Nat.le_of_ble_eq_true rfl) mX5_figure_2 rfl rfl dX5_figure_12 rfl ?_
    refine zV_aload_n (n := 16) C0 0 dX5_figure_15 rfl rfl ?_
    refine zV_get (n := 19) (ref := RX5) C0 hinX5_figure_X5 0 rfl rfl 3 (Nat.le_of_ble_eq_true rfl) mX5_figure_0 rfl rfl dX5_figure_16 rfl ?_
    obtain ⟨hg_2, h⟩ := gd_of h
    refine zV_iald (n := 20) C0 1 0 rfl rfl hg_2 dX5_figure_19 rfl ?_
    refine zV_bipush (n := 22) (v := (48 : Int32)) C0 dX5_figure_20 rfl rfl ?_
    refine zV_isub (n := 23) C0 dX5_figure_22  rfl ?_
    refine zV_i2l (n := 24) C0 dX5_figure_23  rfl ?_
    refine zV_iload_n (n := 25) C0 1 dX5_figure_24 rfl rfl ?_
    refine zV_i2l (n := 26) C0 dX5_figure_25  rfl ?_
    refine zV_iload_n (n := 27) C0 2 dX5_figure_26 rfl rfl ?_
    refine zV_i2l (n := 28) C0 dX5_figure_27  rfl ?_
    obtain ⟨r_4, hc_3, h⟩ := ob_of h
    refine zV_callS0 (n := 31) (st := []) (As := [.long (((S.2.2 1 ((S.1 3)).toNatClampNeg) - (48 : Int32))).toInt64, .long a1.toInt64, .long a2.toInt64]) C0 (k_X5_in (((S.2.2 1 ((S.1 3)).toNatClampNeg) - (48 : Int32))).toInt64 a1.toInt64 a2.toInt64 _ hc_3) gX5_figure_X5_in rfl (hd_X5_in) rfl ⟨rfl, rfl⟩ ⟨Nat.le_of_ble_eq_true rfl, Nat.le_of_ble_eq_true rfl⟩ rfl (Nat.le_of_ble_eq_true rfl) dX5_figure_28 rfl ?_
    refine zV_if_ne (tgt := 37) (n := 34) C0 dX5_figure_31 rfl rfl (fun hb_7 => ?_) (fun hb_7 => ?_)
    · replace h := if_f hb_7 h
      refine zV_aload_n (n := 38) C0 0 dX5_figure_37 rfl rfl ?_
      refine zV_dup (n := 39) C0 dX5_figure_38 rfl rfl ?_
      refine zV_get (n := 42) (ref := RX5) C0 hinX5_figure_X5 0 rfl rfl 3 (Nat.le_of_ble_eq_true rfl) mX5_figure_0 rfl rfl dX5_figure_39 rfl ?_
      refine zV_iconst (n := 43) (v := (1 : Int32)) C0 dX5_figure_42 rfl rfl ?_
      refine zV_iadd (n := 44) C0 dX5_figure_43  rfl ?_
      refine zV_put (n := 47) (ref := RX5) C0 hinX5_figure_X5 0 rfl rfl 3 (Nat.le_of_ble_eq_true rfl) mX5_figure_0 rfl tyX5 tyX5_ok nmX5 rfl (tyX5_ok 3 (Nat.le_of_ble_eq_true rfl)) rfl rfl (Nat.le_of_ble_eq_true rfl) (upd S.1 3 ((S.1 3) + (1 : Int32)), S.2) (wM_f3 cI cZ q ad S ((S.1 3) + (1 : Int32))) dX5_figure_44 rfl ?_
      refine zV_topS (fun S_5 eS_5 => ?_)
      replace h := zlet_of eS_5 h
      clear eS_5
      refine zV_aload_n (n := 48) C0 0 dX5_figure_47 rfl rfl ?_
      refine zV_get (n := 51) (ref := RX5) C0 hinX5_figure_X5 0 rfl rfl 1 (Nat.le_of_ble_eq_true rfl) mX5_figure_2 rfl rfl dX5_figure_48 rfl ?_
      refine zV_aload_n (n := 52) C0 0 dX5_figure_51 rfl rfl ?_
      refine zV_get (n := 55) (ref := RX5) C0 hinX5_figure_X5 0 rfl rfl 3 (Nat.le_of_ble_eq_true rfl) mX5_figure_0 rfl rfl dX5_figure_52 rfl ?_
      refine zV_iconst (n := 56) (v := (1 : Int32)) C0 dX5_figure_55 rfl rfl ?_
      refine zV_isub (n := 57) C0 dX5_figure_56  rfl ?_
      obtain ⟨hg_6, h⟩ := gd_of h
      refine zV_iald (n := 58) C0 1 0 rfl rfl hg_6 dX5_figure_57 rfl ?_
      refine zV_bipush (n := 60) (v := (48 : Int32)) C0 dX5_figure_58 rfl rfl ?_
      refine zV_isub (n := 61) C0 dX5_figure_60  rfl ?_
      exact zretI hR h rfl dX5_figure_61
    · replace h := if_t hb_7 h
      refine zV_sub [] rfl ?_
      exact Jk_1  h
set_option maxRecDepth 20000 in
theorem mX5_readLegger_0 : Cond.fieldLink RX5 88 "LeggedThroughModel" "readLeggers" "I" ∈ wsX5_readLegger := by decide +kernel
set_option maxRecDepth 20000 in
theorem mX5_readLegger_1 : Cond.fieldLink RX5 23 "LeggedThroughModel" "readLegger" "[I" ∈ wsX5_readLegger := by decide +kernel
set_option maxRecDepth 20000 in
theorem hinX5_readLegger_X5 : ∀ w ∈ u_ws RX5 TX5 37, w ∈ wsX5_readLegger := fun w h => List.mem_cons_of_mem _ (List.mem_append_right _ h)
set_option maxRecDepth 20000 in
set_option maxHeartbeats 4000000 in
theorem k_X5_readLegger {l : Launch} {D : va_G} {cI cZ : ClassId} {q : Nat} {ad : Nat → Nat}   (S : zS) (r : Int32 × zS) (h : f_X5_readLegger  S = some r) : zI l yX5_readLegger wsX5_readLegger (zRm 2 47) D (zty cI cZ) zNw (wM cI cZ q ad) [.ref q] S r := by
  refine zI_of (cc := cX5_readLegger) (maxL := 3) (ty := .boolean) (by decide +kernel) rfl (Nat.le_of_ble_eq_true rfl) zNw_ok (fun E hE1 hE2 C0 hR => ?_)
  subst hE1; subst hE2
  replace C0 : zCx E (zRm 2 47) cX5_readLegger 3 RX5 wsX5_readLegger (zty cI cZ) zNw := C0
  show zV E (wM cI cZ q ad) 3 S 0 [(0, .ref q)] []
  delta f_X5_readLegger at h
  refine zV_iconst (n := 1) (v := (0 : Int32)) C0 dX5_readLegger_0 rfl rfl ?_
  refine zV_istore_n (n := 2) C0 [(1, .int (0 : Int32)), (0, .ref q)] dX5_readLegger_1 rfl rfl (Nat.le_of_ble_eq_true rfl) rfl ?_
  refine zV_sub [1, 0] rfl ?_
  refine zfix_ind (fun e => zV E (wM cI cZ q ad) 3 e.2 2 [(0, .ref q), (1, .int e.1)] []) (fun rec_3 hrec_3 e h => ?_) zN ((0 : Int32), S) h
  obtain ⟨x1_1, S_2⟩ := e
  have Jrec_3 : ∀ (x1_1 : Int32) (S_2 : zS), rec_3 (x1_1, S_2) = some r → zV E (wM cI cZ q ad) 3 S_2 2 [(0, .ref q), (1, .int x1_1)] [] := fun x1_1 S_2 h => hrec_3 _ h
  clear hrec_3
  dsimp only [F_X5_readLegger_2] at h
  show zV E (wM cI cZ q ad) 3 S_2 2 [(0, .ref q), (1, .int x1_1)] []
  refine zV_iload_n (n := 3) C0 1 dX5_readLegger_2 rfl rfl ?_
  refine zV_iconst (n := 4) (v := (5 : Int32)) C0 dX5_readLegger_3 rfl rfl ?_
  refine zV_icmp_ge (tgt := 42) (n := 7) C0 dX5_readLegger_4 rfl rfl (fun hb_11 => ?_) (fun hb_11 => ?_)
  · replace h := if_t hb_11 h
    refine zV_aload_n (n := 43) C0 0 dX5_readLegger_42 rfl rfl ?_
    refine zV_dup (n := 44) C0 dX5_readLegger_43 rfl rfl ?_
    refine zV_get (n := 47) (ref := RX5) C0 hinX5_readLegger_X5 0 rfl rfl 10 (Nat.le_of_ble_eq_true rfl) mX5_readLegger_0 rfl rfl dX5_readLegger_44 rfl ?_
    refine zV_iconst (n := 48) (v := (1 : Int32)) C0 dX5_readLegger_47 rfl rfl ?_
    refine zV_iadd (n := 49) C0 dX5_readLegger_48  rfl ?_
    refine zV_put (n := 52) (ref := RX5) C0 hinX5_readLegger_X5 0 rfl rfl 10 (Nat.le_of_ble_eq_true rfl) mX5_readLegger_0 rfl tyX5 tyX5_ok nmX5 rfl (tyX5_ok 10 (Nat.le_of_ble_eq_true rfl)) rfl rfl (Nat.le_of_ble_eq_true rfl) (upd S_2.1 10 ((S_2.1 10) + (1 : Int32)), S_2.2) (wM_f10 cI cZ q ad S_2 ((S_2.1 10) + (1 : Int32))) dX5_readLegger_49 rfl ?_
    refine zV_topS (fun S_4 eS_4 => ?_)
    replace h := zlet_of eS_4 h
    clear eS_4
    refine zV_iconst (n := 53) (v := (1 : Int32)) C0 dX5_readLegger_52 rfl rfl ?_
    exact zretI hR h rfl dX5_readLegger_53
  · replace h := if_f hb_11 h
    refine zV_aload_n (n := 8) C0 0 dX5_readLegger_7 rfl rfl ?_
    refine zV_iconst (n := 9) (v := (0 : Int32)) C0 dX5_readLegger_8 rfl rfl ?_
    refine zV_iconst (n := 10) (v := (3 : Int32)) C0 dX5_readLegger_9 rfl rfl ?_
    obtain ⟨⟨r_6, S_7⟩, hc_5, h⟩ := ob_of h
    refine zV_callVI (n := 13) (st := []) (As := [.int (0 : Int32), .int (3 : Int32)]) C0 (k_X5_figure (0 : Int32) (3 : Int32) S_2 _ hc_5) gX5_readLegger_X5_figure rfl (hd_X5_figure) rfl ⟨rfl, rfl⟩ ⟨Nat.le_of_ble_eq_true rfl, Nat.le_of_ble_eq_true rfl⟩ 0 rfl rfl rfl (Nat.le_of_ble_eq_true rfl) dX5_readLegger_10 rfl ?_
    refine zV_istore_n (n := 14) C0 [(2, .int r_6), (0, .ref q), (1, .int x1_1)] dX5_readLegger_13 rfl rfl (Nat.le_of_ble_eq_true rfl) rfl ?_
    refine zV_iload_n (n := 15) C0 0 dX5_readLegger_14 rfl rfl ?_
    refine zV_bipush (n := 17) (v := (-9 : Int32)) C0 dX5_readLegger_15 rfl rfl ?_
    refine zV_icmp_ne (tgt := 22) (n := 20) C0 dX5_readLegger_17 rfl rfl (fun hb_10 => ?_) (fun hb_10 => ?_)
    · replace h := if_f hb_10 h
      refine zV_aload_n (n := 23) C0 1 dX5_readLegger_22 rfl rfl ?_
      refine zV_get (n := 26) (ref := RX5) C0 hinX5_readLegger_X5 0 rfl rfl 11 (Nat.le_of_ble_eq_true rfl) mX5_readLegger_1 rfl rfl dX5_readLegger_23 rfl ?_
      refine zV_iconst (n := 27) (v := (5 : Int32)) C0 dX5_readLegger_26 rfl rfl ?_
      refine zV_aload_n (n := 28) C0 1 dX5_readLegger_27 rfl rfl ?_
      refine zV_get (n := 31) (ref := RX5) C0 hinX5_readLegger_X5 0 rfl rfl 10 (Nat.le_of_ble_eq_true rfl) mX5_readLegger_0 rfl rfl dX5_readLegger_28 rfl ?_
      refine zV_imul (n := 32) C0 dX5_readLegger_31  rfl ?_
      refine zV_iload_n (n := 33) C0 2 dX5_readLegger_32 rfl rfl ?_
      refine zV_iadd (n := 34) C0 dX5_readLegger_33  rfl ?_
      refine zV_iload_n (n := 35) C0 0 dX5_readLegger_34 rfl rfl ?_
      obtain ⟨hg_8, h⟩ := gd_of h
      refine zV_iast (n := 36) C0 4 0 rfl rfl hg_8 (S_7.1, S_7.2.1, zur S_7.2.2 11 (upd (S_7.2.2 11) ((((5 : Int32) * (S_7.1 10)) + x1_1)).toNatClampNeg r_6)) (wM_a11 cI cZ q ad S_7 (upd (S_7.2.2 11) ((((5 : Int32) * (S_7.1 10)) + x1_1)).toNatClampNeg r_6)) dX5_readLegger_35 rfl ?_
      refine zV_topS (fun S_9 eS_9 => ?_)
      replace h := zlet_of eS_9 h
      clear eS_9
      refine zV_iinc (n := 39) C0 2 (v := (x1_1 + (1 : Int32))) [(1, .int (x1_1 + (1 : Int32))), (2, .int r_6), (0, .ref q)] dX5_readLegger_36 rfl rfl rfl (Nat.le_of_ble_eq_true rfl) rfl ?_
      refine zV_goto (tgt := 2) C0 dX5_readLegger_39 rfl ?_
      refine zV_sub [2, 0] rfl ?_
      exact Jrec_3 (x1_1 + (1 : Int32)) S_9 h
    · replace h := if_t hb_10 h
      refine zV_iconst (n := 21) (v := (0 : Int32)) C0 dX5_readLegger_20 rfl rfl ?_
      exact zretI hR h rfl dX5_readLegger_21
set_option maxRecDepth 20000 in
theorem mX5_readPart_0 : Cond.fieldLink RX5 7 "LeggedThroughModel" "text" "[I" ∈ wsX5_readPart := by decide +kernel
set_option maxRecDepth 20000 in
theorem mX5_readPart_1 : Cond.fieldLink RX5 81 "LeggedThroughModel" "place" "I" ∈ wsX5_readPart := by decide +kernel
set_option maxRecDepth 20000 in
theorem mX5_readPart_2 : Cond.fieldLink RX5 94 "LeggedThroughModel" "readBoats" "I" ∈ wsX5_readPart := by decide +kernel
set_option maxRecDepth 20000 in
theorem mX5_readPart_3 : Cond.fieldLink RX5 26 "LeggedThroughModel" "readBoat" "[I" ∈ wsX5_readPart := by decide +kernel
set_option maxRecDepth 20000 in
theorem mX5_readPart_4 : Cond.fieldLink RX5 88 "LeggedThroughModel" "readLeggers" "I" ∈ wsX5_readPart := by decide +kernel
set_option maxRecDepth 20000 in
theorem hinX5_readPart_X5 : ∀ w ∈ u_ws RX5 TX5 37, w ∈ wsX5_readPart := fun w h => List.mem_cons_of_mem _ (List.mem_append_right _ h)
set_option maxRecDepth 20000 in
set_option maxHeartbeats 4000000 in
theorem k_X5_readPart {l : Launch} {D : va_G} {cI cZ : ClassId} {q : Nat} {ad : Nat → Nat}   (S : zS) (r : Int32 × zS) (h : f_X5_readPart  S = some r) : zI l yX5_readPart wsX5_readPart (zRm 3 69) D (zty cI cZ) zNw (wM cI cZ q ad) [.ref q] S r := by
  refine zI_of (cc := cX5_readPart) (maxL := 3) (ty := .boolean) (by decide +kernel) rfl (Nat.le_of_ble_eq_true rfl) zNw_ok (fun E hE1 hE2 C0 hR => ?_)
  subst hE1; subst hE2
  replace C0 : zCx E (zRm 3 69) cX5_readPart 3 RX5 wsX5_readPart (zty cI cZ) zNw := C0
  show zV E (wM cI cZ q ad) 3 S 0 [(0, .ref q)] []
  delta f_X5_readPart at h
  refine zV_aload_n (n := 1) C0 0 dX5_readPart_0 rfl rfl ?_
  refine zV_get (n := 4) (ref := RX5) C0 hinX5_readPart_X5 0 rfl rfl 1 (Nat.le_of_ble_eq_true rfl) mX5_readPart_0 rfl rfl dX5_readPart_1 rfl ?_
  refine zV_aload_n (n := 5) C0 0 dX5_readPart_4 rfl rfl ?_
  refine zV_get (n := 8) (ref := RX5) C0 hinX5_readPart_X5 0 rfl rfl 3 (Nat.le_of_ble_eq_true rfl) mX5_readPart_1 rfl rfl dX5_readPart_5 rfl ?_
  obtain ⟨hg_1, h⟩ := gd_of h
  refine zV_iald (n := 9) C0 1 0 rfl rfl hg_1 dX5_readPart_8 rfl ?_
  refine zV_topi (fun x1_2 ex1_2 => ?_)
  replace h := zlet_of ex1_2 h
  clear ex1_2
  refine zV_istore_n (n := 10) C0 [(1, .int x1_2), (0, .ref q)] dX5_readPart_9 rfl rfl (Nat.le_of_ble_eq_true rfl) rfl ?_
  refine zV_aload_n (n := 11) C0 1 dX5_readPart_10 rfl rfl ?_
  refine zV_dup (n := 12) C0 dX5_readPart_11 rfl rfl ?_
  refine zV_get (n := 15) (ref := RX5) C0 hinX5_readPart_X5 0 rfl rfl 3 (Nat.le_of_ble_eq_true rfl) mX5_readPart_1 rfl rfl dX5_readPart_12 rfl ?_
  refine zV_iconst (n := 16) (v := (1 : Int32)) C0 dX5_readPart_15 rfl rfl ?_
  refine zV_iadd (n := 17) C0 dX5_readPart_16  rfl ?_
  refine zV_put (n := 20) (ref := RX5) C0 hinX5_readPart_X5 0 rfl rfl 3 (Nat.le_of_ble_eq_true rfl) mX5_readPart_1 rfl tyX5 tyX5_ok nmX5 rfl (tyX5_ok 3 (Nat.le_of_ble_eq_true rfl)) rfl rfl (Nat.le_of_ble_eq_true rfl) (upd S.1 3 ((S.1 3) + (1 : Int32)), S.2) (wM_f3 cI cZ q ad S ((S.1 3) + (1 : Int32))) dX5_readPart_17 rfl ?_
  refine zV_topS (fun S_3 eS_3 => ?_)
  replace h := zlet_of eS_3 h
  clear eS_3
  refine zV_iload_n (n := 21) C0 0 dX5_readPart_20 rfl rfl ?_
  refine zV_bipush (n := 23) (v := (71 : Int32)) C0 dX5_readPart_21 rfl rfl ?_
  refine zjoin_of h (fun k_4 hk_4 h => ?_)
  have Jk_4 : k_4 () = some r → zV E (wM cI cZ q ad) 3 S_3 39 [(0, .ref q), (1, .int x1_2)] [] := by
    intro  h
    replace h := hk_4 _ h
    refine zV_iload_n (n := 40) C0 1 dX5_readPart_39 rfl rfl ?_
    refine zV_bipush (n := 42) (v := (66 : Int32)) C0 dX5_readPart_40 rfl rfl ?_
    refine zjoin_of h (fun k_5 hk_5 h => ?_)
    have Jk_5 : k_5 () = some r → zV E (wM cI cZ q ad) 3 S_3 91 [(0, .ref q)] [] := by
      intro  h
      replace h := hk_5 _ h
      refine zV_aload_n (n := 92) C0 0 dX5_readPart_91 rfl rfl ?_
      refine zV_dup (n := 93) C0 dX5_readPart_92 rfl rfl ?_
      refine zV_get (n := 96) (ref := RX5) C0 hinX5_readPart_X5 0 rfl rfl 3 (Nat.le_of_ble_eq_true rfl) mX5_readPart_1 rfl rfl dX5_readPart_93 rfl ?_
      refine zV_iconst (n := 97) (v := (1 : Int32)) C0 dX5_readPart_96 rfl rfl ?_
      refine zV_isub (n := 98) C0 dX5_readPart_97  rfl ?_
      refine zV_put (n := 101) (ref := RX5) C0 hinX5_readPart_X5 0 rfl rfl 3 (Nat.le_of_ble_eq_true rfl) mX5_readPart_1 rfl tyX5 tyX5_ok nmX5 rfl (tyX5_ok 3 (Nat.le_of_ble_eq_true rfl)) rfl rfl (Nat.le_of_ble_eq_true rfl) (upd S_3.1 3 ((S_3.1 3) - (1 : Int32)), S_3.2) (wM_f3 cI cZ q ad S_3 ((S_3.1 3) - (1 : Int32))) dX5_readPart_98 rfl ?_
      refine zV_topS (fun S_6 eS_6 => ?_)
      replace h := zlet_of eS_6 h
      clear eS_6
      refine zV_iconst (n := 102) (v := (0 : Int32)) C0 dX5_readPart_101 rfl rfl ?_
      exact zretI hR h rfl dX5_readPart_102
    clear hk_5
    refine zV_icmp_ne (tgt := 91) (n := 45) C0 dX5_readPart_42 rfl rfl (fun hb_15 => ?_) (fun hb_15 => ?_)
    · replace h := if_f hb_15 h
      refine zV_sub [0] rfl ?_
      exact Jk_5  h
    · replace h := if_t hb_15 h
      refine zV_aload_n (n := 46) C0 0 dX5_readPart_45 rfl rfl ?_
      refine zV_get (n := 49) (ref := RX5) C0 hinX5_readPart_X5 0 rfl rfl 12 (Nat.le_of_ble_eq_true rfl) mX5_readPart_2 rfl rfl dX5_readPart_46 rfl ?_
      refine zV_iconst (n := 50) (v := (3 : Int32)) C0 dX5_readPart_49 rfl rfl ?_
      refine zV_icmp_ge (tgt := 91) (n := 53) C0 dX5_readPart_50 rfl rfl (fun hb_14 => ?_) (fun hb_14 => ?_)
      · replace h := if_t hb_14 h
        refine zV_sub [0] rfl ?_
        exact Jk_5  h
      · replace h := if_f hb_14 h
        refine zV_aload_n (n := 54) C0 0 dX5_readPart_53 rfl rfl ?_
        refine zV_iconst (n := 55) (v := (0 : Int32)) C0 dX5_readPart_54 rfl rfl ?_
        refine zV_bipush (n := 57) (v := (9 : Int32)) C0 dX5_readPart_55 rfl rfl ?_
        obtain ⟨⟨r_8, S_9⟩, hc_7, h⟩ := ob_of h
        refine zV_callVI (n := 60) (st := []) (As := [.int (0 : Int32), .int (9 : Int32)]) C0 (k_X5_figure (0 : Int32) (9 : Int32) S_3 _ hc_7) gX5_readPart_X5_figure rfl (hd_X5_figure) rfl ⟨rfl, rfl⟩ ⟨Nat.le_of_ble_eq_true rfl, Nat.le_of_ble_eq_true rfl⟩ 0 rfl rfl rfl (Nat.le_of_ble_eq_true rfl) dX5_readPart_57 rfl ?_
        refine zV_istore_n (n := 61) C0 [(2, .int r_8), (0, .ref q), (1, .int x1_2)] dX5_readPart_60 rfl rfl (Nat.le_of_ble_eq_true rfl) rfl ?_
        refine zV_iload_n (n := 62) C0 0 dX5_readPart_61 rfl rfl ?_
        refine zV_bipush (n := 64) (v := (-9 : Int32)) C0 dX5_readPart_62 rfl rfl ?_
        refine zV_icmp_ne (tgt := 69) (n := 67) C0 dX5_readPart_64 rfl rfl (fun hb_13 => ?_) (fun hb_13 => ?_)
        · replace h := if_f hb_13 h
          refine zV_aload_n (n := 70) C0 1 dX5_readPart_69 rfl rfl ?_
          refine zV_get (n := 73) (ref := RX5) C0 hinX5_readPart_X5 0 rfl rfl 13 (Nat.le_of_ble_eq_true rfl) mX5_readPart_3 rfl rfl dX5_readPart_70 rfl ?_
          refine zV_aload_n (n := 74) C0 1 dX5_readPart_73 rfl rfl ?_
          refine zV_get (n := 77) (ref := RX5) C0 hinX5_readPart_X5 0 rfl rfl 12 (Nat.le_of_ble_eq_true rfl) mX5_readPart_2 rfl rfl dX5_readPart_74 rfl ?_
          refine zV_iload_n (n := 78) C0 0 dX5_readPart_77 rfl rfl ?_
          obtain ⟨hg_10, h⟩ := gd_of h
          refine zV_iast (n := 79) C0 5 0 rfl rfl hg_10 (S_9.1, S_9.2.1, zur S_9.2.2 13 (upd (S_9.2.2 13) ((S_9.1 12)).toNatClampNeg r_8)) (wM_a13 cI cZ q ad S_9 (upd (S_9.2.2 13) ((S_9.1 12)).toNatClampNeg r_8)) dX5_readPart_78 rfl ?_
          refine zV_topS (fun S_11 eS_11 => ?_)
          replace h := zlet_of eS_11 h
          clear eS_11
          refine zV_aload_n (n := 80) C0 1 dX5_readPart_79 rfl rfl ?_
          refine zV_dup (n := 81) C0 dX5_readPart_80 rfl rfl ?_
          refine zV_get (n := 84) (ref := RX5) C0 hinX5_readPart_X5 0 rfl rfl 12 (Nat.le_of_ble_eq_true rfl) mX5_readPart_2 rfl rfl dX5_readPart_81 rfl ?_
          refine zV_iconst (n := 85) (v := (1 : Int32)) C0 dX5_readPart_84 rfl rfl ?_
          refine zV_iadd (n := 86) C0 dX5_readPart_85  rfl ?_
          refine zV_put (n := 89) (ref := RX5) C0 hinX5_readPart_X5 0 rfl rfl 12 (Nat.le_of_ble_eq_true rfl) mX5_readPart_2 rfl tyX5 tyX5_ok nmX5 rfl (tyX5_ok 12 (Nat.le_of_ble_eq_true rfl)) rfl rfl (Nat.le_of_ble_eq_true rfl) (upd S_11.1 12 ((S_11.1 12) + (1 : Int32)), S_11.2) (wM_f12 cI cZ q ad S_11 ((S_11.1 12) + (1 : Int32))) dX5_readPart_86 rfl ?_
          refine zV_topS (fun S_12 eS_12 => ?_)
          replace h := zlet_of eS_12 h
          clear eS_12
          refine zV_iconst (n := 90) (v := (1 : Int32)) C0 dX5_readPart_89 rfl rfl ?_
          exact zretI hR h rfl dX5_readPart_90
        · replace h := if_t hb_13 h
          refine zV_iconst (n := 68) (v := (0 : Int32)) C0 dX5_readPart_67 rfl rfl ?_
          exact zretI hR h rfl dX5_readPart_68
  clear hk_4
  refine zV_icmp_ne (tgt := 39) (n := 26) C0 dX5_readPart_23 rfl rfl (fun hb_20 => ?_) (fun hb_20 => ?_)
  · replace h := if_f hb_20 h
    refine zV_sub [1, 0] rfl ?_
    exact Jk_4  h
  · replace h := if_t hb_20 h
    refine zV_aload_n (n := 27) C0 1 dX5_readPart_26 rfl rfl ?_
    refine zV_get (n := 30) (ref := RX5) C0 hinX5_readPart_X5 0 rfl rfl 10 (Nat.le_of_ble_eq_true rfl) mX5_readPart_4 rfl rfl dX5_readPart_27 rfl ?_
    refine zV_iconst (n := 31) (v := (4 : Int32)) C0 dX5_readPart_30 rfl rfl ?_
    refine zV_icmp_ge (tgt := 39) (n := 34) C0 dX5_readPart_31 rfl rfl (fun hb_19 => ?_) (fun hb_19 => ?_)
    · replace h := if_t hb_19 h
      refine zV_sub [1, 0] rfl ?_
      exact Jk_4  h
    · replace h := if_f hb_19 h
      refine zV_aload_n (n := 35) C0 1 dX5_readPart_34 rfl rfl ?_
      obtain ⟨⟨r_17, S_18⟩, hc_16, h⟩ := ob_of h
      refine zV_callVI (n := 38) (st := []) (As := []) C0 (k_X5_readLegger  S_3 _ hc_16) gX5_readPart_X5_readLegger rfl (hd_X5_readLegger) rfl ⟨rfl, rfl⟩ ⟨Nat.le_of_ble_eq_true rfl, Nat.le_of_ble_eq_true rfl⟩ 0 rfl rfl rfl (Nat.le_of_ble_eq_true rfl) dX5_readPart_35 rfl ?_
      obtain ⟨hz, h⟩ := gd_of h
      exact zretI hR h (znz hz) dX5_readPart_38
set_option maxRecDepth 20000 in
theorem mX5_readTunnel_0 : Cond.fieldLink RX5 81 "LeggedThroughModel" "place" "I" ∈ wsX5_readTunnel := by decide +kernel
set_option maxRecDepth 20000 in
theorem mX5_readTunnel_1 : Cond.fieldLink RX5 88 "LeggedThroughModel" "readLeggers" "I" ∈ wsX5_readTunnel := by decide +kernel
set_option maxRecDepth 20000 in
theorem mX5_readTunnel_2 : Cond.fieldLink RX5 94 "LeggedThroughModel" "readBoats" "I" ∈ wsX5_readTunnel := by decide +kernel
set_option maxRecDepth 20000 in
theorem mX5_readTunnel_3 : Cond.fieldLink RX5 78 "LeggedThroughModel" "textSize" "I" ∈ wsX5_readTunnel := by decide +kernel
set_option maxRecDepth 20000 in
theorem mX5_readTunnel_4 : Cond.fieldLink RX5 7 "LeggedThroughModel" "text" "[I" ∈ wsX5_readTunnel := by decide +kernel
set_option maxRecDepth 20000 in
theorem mX5_readTunnel_5 : Cond.fieldLink RX5 97 "LeggedThroughModel" "readSteps" "I" ∈ wsX5_readTunnel := by decide +kernel
set_option maxRecDepth 20000 in
theorem hinX5_readTunnel_X5 : ∀ w ∈ u_ws RX5 TX5 37, w ∈ wsX5_readTunnel := fun w h => List.mem_cons_of_mem _ (List.mem_append_right _ h)
set_option maxRecDepth 20000 in
set_option maxHeartbeats 4000000 in
theorem k_X5_readTunnel {l : Launch} {D : va_G} {cI cZ : ClassId} {q : Nat} {ad : Nat → Nat}   (S : zS) (r : Int32 × zS) (h : f_X5_readTunnel  S = some r) : zI l yX5_readTunnel wsX5_readTunnel (zRm 4 91) D (zty cI cZ) zNw (wM cI cZ q ad) [.ref q] S r := by
  refine zI_of (cc := cX5_readTunnel) (maxL := 1) (ty := .int) (by decide +kernel) rfl (Nat.le_of_ble_eq_true rfl) zNw_ok (fun E hE1 hE2 C0 hR => ?_)
  subst hE1; subst hE2
  replace C0 : zCx E (zRm 4 91) cX5_readTunnel 1 RX5 wsX5_readTunnel (zty cI cZ) zNw := C0
  show zV E (wM cI cZ q ad) 1 S 0 [(0, .ref q)] []
  delta f_X5_readTunnel at h
  refine zV_aload_n (n := 1) C0 0 dX5_readTunnel_0 rfl rfl ?_
  refine zV_iconst (n := 2) (v := (0 : Int32)) C0 dX5_readTunnel_1 rfl rfl ?_
  refine zV_put (n := 5) (ref := RX5) C0 hinX5_readTunnel_X5 0 rfl rfl 3 (Nat.le_of_ble_eq_true rfl) mX5_readTunnel_0 rfl tyX5 tyX5_ok nmX5 rfl (tyX5_ok 3 (Nat.le_of_ble_eq_true rfl)) rfl rfl (Nat.le_of_ble_eq_true rfl) (upd S.1 3 (0 : Int32), S.2) (wM_f3 cI cZ q ad S (0 : Int32)) dX5_readTunnel_2 rfl ?_
  refine zV_topS (fun S_1 eS_1 => ?_)
  replace h := zlet_of eS_1 h
  clear eS_1
  refine zV_aload_n (n := 6) C0 0 dX5_readTunnel_5 rfl rfl ?_
  refine zV_iconst (n := 7) (v := (0 : Int32)) C0 dX5_readTunnel_6 rfl rfl ?_
  refine zV_put (n := 10) (ref := RX5) C0 hinX5_readTunnel_X5 0 rfl rfl 10 (Nat.le_of_ble_eq_true rfl) mX5_readTunnel_1 rfl tyX5 tyX5_ok nmX5 rfl (tyX5_ok 10 (Nat.le_of_ble_eq_true rfl)) rfl rfl (Nat.le_of_ble_eq_true rfl) (upd S_1.1 10 (0 : Int32), S_1.2) (wM_f10 cI cZ q ad S_1 (0 : Int32)) dX5_readTunnel_7 rfl ?_
  refine zV_topS (fun S_2 eS_2 => ?_)
  replace h := zlet_of eS_2 h
  clear eS_2
  refine zV_aload_n (n := 11) C0 0 dX5_readTunnel_10 rfl rfl ?_
  refine zV_iconst (n := 12) (v := (0 : Int32)) C0 dX5_readTunnel_11 rfl rfl ?_
  refine zV_put (n := 15) (ref := RX5) C0 hinX5_readTunnel_X5 0 rfl rfl 12 (Nat.le_of_ble_eq_true rfl) mX5_readTunnel_2 rfl tyX5 tyX5_ok nmX5 rfl (tyX5_ok 12 (Nat.le_of_ble_eq_true rfl)) rfl rfl (Nat.le_of_ble_eq_true rfl) (upd S_2.1 12 (0 : Int32), S_2.2) (wM_f12 cI cZ q ad S_2 (0 : Int32)) dX5_readTunnel_12 rfl ?_
  refine zV_topS (fun S_3 eS_3 => ?_)
  replace h := zlet_of eS_3 h
  clear eS_3
  refine zV_aload_n (n := 16) C0 0 dX5_readTunnel_15 rfl rfl ?_
  refine zV_get (n := 19) (ref := RX5) C0 hinX5_readTunnel_X5 0 rfl rfl 2 (Nat.le_of_ble_eq_true rfl) mX5_readTunnel_3 rfl rfl dX5_readTunnel_16 rfl ?_
  refine zjoin_of h (fun k_4 hk_4 h => ?_)
  have Jk_4 : k_4 () = some r → zV E (wM cI cZ q ad) 1 S_3 33 [] [] := by
    intro  h
    replace h := hk_4 _ h
    refine zV_iconst (n := 34) (v := (0 : Int32)) C0 dX5_readTunnel_33 rfl rfl ?_
    exact zretI hR h rfl dX5_readTunnel_34
  clear hk_4
  refine zV_if_eq (tgt := 33) (n := 22) C0 dX5_readTunnel_19 rfl rfl (fun hb_20 => ?_) (fun hb_20 => ?_)
  · replace h := if_t hb_20 h
    refine zV_sub [] rfl ?_
    exact Jk_4  h
  · replace h := if_f hb_20 h
    refine zV_aload_n (n := 23) C0 0 dX5_readTunnel_22 rfl rfl ?_
    refine zV_get (n := 26) (ref := RX5) C0 hinX5_readTunnel_X5 0 rfl rfl 1 (Nat.le_of_ble_eq_true rfl) mX5_readTunnel_4 rfl rfl dX5_readTunnel_23 rfl ?_
    refine zV_iconst (n := 27) (v := (0 : Int32)) C0 dX5_readTunnel_26 rfl rfl ?_
    obtain ⟨hg_5, h⟩ := gd_of h
    refine zV_iald (n := 28) C0 1 0 rfl rfl hg_5 dX5_readTunnel_27 rfl ?_
    refine zV_bipush (n := 30) (v := (76 : Int32)) C0 dX5_readTunnel_28 rfl rfl ?_
    refine zV_icmp_eq (tgt := 35) (n := 33) C0 dX5_readTunnel_30 rfl rfl (fun hb_19 => ?_) (fun hb_19 => ?_)
    · replace h := if_t hb_19 h
      refine zV_aload_n (n := 36) C0 0 dX5_readTunnel_35 rfl rfl ?_
      refine zV_iconst (n := 37) (v := (1 : Int32)) C0 dX5_readTunnel_36 rfl rfl ?_
      refine zV_put (n := 40) (ref := RX5) C0 hinX5_readTunnel_X5 0 rfl rfl 3 (Nat.le_of_ble_eq_true rfl) mX5_readTunnel_0 rfl tyX5 tyX5_ok nmX5 rfl (tyX5_ok 3 (Nat.le_of_ble_eq_true rfl)) rfl rfl (Nat.le_of_ble_eq_true rfl) (upd S_3.1 3 (1 : Int32), S_3.2) (wM_f3 cI cZ q ad S_3 (1 : Int32)) dX5_readTunnel_37 rfl ?_
      refine zV_topS (fun S_6 eS_6 => ?_)
      replace h := zlet_of eS_6 h
      clear eS_6
      refine zV_aload_n (n := 41) C0 0 dX5_readTunnel_40 rfl rfl ?_
      refine zV_aload_n (n := 42) C0 0 dX5_readTunnel_41 rfl rfl ?_
      refine zV_iconst (n := 43) (v := (1 : Int32)) C0 dX5_readTunnel_42 rfl rfl ?_
      refine zV_bipush (n := 45) (v := (6 : Int32)) C0 dX5_readTunnel_43 rfl rfl ?_
      obtain ⟨⟨r_8, S_9⟩, hc_7, h⟩ := ob_of h
      refine zV_callVI (n := 48) (st := [.ref q]) (As := [.int (1 : Int32), .int (6 : Int32)]) C0 (k_X5_figure (1 : Int32) (6 : Int32) S_6 _ hc_7) gX5_readTunnel_X5_figure rfl (hd_X5_figure) rfl ⟨rfl, rfl⟩ ⟨Nat.le_of_ble_eq_true rfl, Nat.le_of_ble_eq_true rfl⟩ 0 rfl rfl rfl (Nat.le_of_ble_eq_true rfl) dX5_readTunnel_45 rfl ?_
      refine zV_put (n := 51) (ref := RX5) C0 hinX5_readTunnel_X5 0 rfl rfl 9 (Nat.le_of_ble_eq_true rfl) mX5_readTunnel_5 rfl tyX5 tyX5_ok nmX5 rfl (tyX5_ok 9 (Nat.le_of_ble_eq_true rfl)) rfl rfl (Nat.le_of_ble_eq_true rfl) (upd S_9.1 9 r_8, S_9.2) (wM_f9 cI cZ q ad S_9 r_8) dX5_readTunnel_48 rfl ?_
      refine zV_topS (fun S_10 eS_10 => ?_)
      replace h := zlet_of eS_10 h
      clear eS_10
      refine zV_aload_n (n := 52) C0 0 dX5_readTunnel_51 rfl rfl ?_
      refine zV_get (n := 55) (ref := RX5) C0 hinX5_readTunnel_X5 0 rfl rfl 9 (Nat.le_of_ble_eq_true rfl) mX5_readTunnel_5 rfl rfl dX5_readTunnel_52 rfl ?_
      refine zV_bipush (n := 57) (v := (-9 : Int32)) C0 dX5_readTunnel_55 rfl rfl ?_
      refine zV_icmp_ne (tgt := 65) (n := 60) C0 dX5_readTunnel_57 rfl rfl (fun hb_18 => ?_) (fun hb_18 => ?_)
      · replace h := if_f hb_18 h
        refine zfix_ind (fun e => zV E (wM cI cZ q ad) 1 e 65 [(0, .ref q)] []) (fun rec_12 hrec_12 S_11 h => ?_) zN S_10 h
        have Jrec_12 : ∀ (S_11 : zS), rec_12 S_11 = some r → zV E (wM cI cZ q ad) 1 S_11 65 [(0, .ref q)] [] := fun S_11 h => hrec_12 _ h
        clear hrec_12
        dsimp only [F_X5_readTunnel_65] at h
        show zV E (wM cI cZ q ad) 1 S_11 65 [(0, .ref q)] []
        refine zV_aload_n (n := 66) C0 0 dX5_readTunnel_65 rfl rfl ?_
        refine zV_get (n := 69) (ref := RX5) C0 hinX5_readTunnel_X5 0 rfl rfl 3 (Nat.le_of_ble_eq_true rfl) mX5_readTunnel_0 rfl rfl dX5_readTunnel_66 rfl ?_
        refine zV_aload_n (n := 70) C0 0 dX5_readTunnel_69 rfl rfl ?_
        refine zV_get (n := 73) (ref := RX5) C0 hinX5_readTunnel_X5 0 rfl rfl 2 (Nat.le_of_ble_eq_true rfl) mX5_readTunnel_3 rfl rfl dX5_readTunnel_70 rfl ?_
        refine zV_icmp_ge (tgt := 88) (n := 76) C0 dX5_readTunnel_73 rfl rfl (fun hb_17 => ?_) (fun hb_17 => ?_)
        · replace h := if_t hb_17 h
          refine zV_bipush (n := 90) (v := (-9 : Int32)) C0 dX5_readTunnel_88 rfl rfl ?_
          exact zretI hR h rfl dX5_readTunnel_90
        · replace h := if_f hb_17 h
          refine zV_aload_n (n := 77) C0 0 dX5_readTunnel_76 rfl rfl ?_
          obtain ⟨⟨r_14, S_15⟩, hc_13, h⟩ := ob_of h
          refine zV_callVI (n := 80) (st := []) (As := []) C0 (k_X5_readPart  S_11 _ hc_13) gX5_readTunnel_X5_readPart rfl (hd_X5_readPart) rfl ⟨rfl, rfl⟩ ⟨Nat.le_of_ble_eq_true rfl, Nat.le_of_ble_eq_true rfl⟩ 0 rfl rfl rfl (Nat.le_of_ble_eq_true rfl) dX5_readTunnel_77 rfl ?_
          refine zV_if_ne (tgt := 65) (n := 83) C0 dX5_readTunnel_80 rfl rfl (fun hb_16 => ?_) (fun hb_16 => ?_)
          · replace h := if_f hb_16 h
            exact Jrec_12 S_15 h
          · replace h := if_t hb_16 h
            refine zV_aload_n (n := 84) C0 0 dX5_readTunnel_83 rfl rfl ?_
            refine zV_get (n := 87) (ref := RX5) C0 hinX5_readTunnel_X5 0 rfl rfl 3 (Nat.le_of_ble_eq_true rfl) mX5_readTunnel_0 rfl rfl dX5_readTunnel_84 rfl ?_
            exact zretI hR h rfl dX5_readTunnel_87
      · replace h := if_t hb_18 h
        refine zV_aload_n (n := 61) C0 0 dX5_readTunnel_60 rfl rfl ?_
        refine zV_get (n := 64) (ref := RX5) C0 hinX5_readTunnel_X5 0 rfl rfl 3 (Nat.le_of_ble_eq_true rfl) mX5_readTunnel_0 rfl rfl dX5_readTunnel_61 rfl ?_
        exact zretI hR h rfl dX5_readTunnel_64
    · replace h := if_f hb_19 h
      refine zV_sub [] rfl ?_
      exact Jk_4  h
set_option maxRecDepth 20000 in
theorem mX5_fault_0 : Cond.fieldLink RX5 63 "LeggedThroughModel" "thrown" "I" ∈ wsX5_fault := by decide +kernel
set_option maxRecDepth 20000 in
theorem hinX5_fault_X5 : ∀ w ∈ u_ws RX5 TX5 37, w ∈ wsX5_fault := fun w h => List.mem_cons_of_mem _ (List.mem_append_right _ h)
set_option maxRecDepth 20000 in
set_option maxHeartbeats 4000000 in
theorem k_X5_fault {l : Launch} {D : va_G} {cI cZ : ClassId} {q : Nat} {ad : Nat → Nat}   (S : zS) (r : Int32 × zS) (h : f_X5_fault  S = some r) : zI l yX5_fault wsX5_fault (zRm 5 111) D (zty cI cZ) zNw (wM cI cZ q ad) [.ref q] S r := by
  refine zI_of (cc := cX5_fault) (maxL := 1) (ty := .int) (by decide +kernel) rfl (Nat.le_of_ble_eq_true rfl) zNw_ok (fun E hE1 hE2 C0 hR => ?_)
  subst hE1; subst hE2
  replace C0 : zCx E (zRm 5 111) cX5_fault 1 RX5 wsX5_fault (zty cI cZ) zNw := C0
  show zV E (wM cI cZ q ad) 1 S 0 [(0, .ref q)] []
  delta f_X5_fault at h
  refine zV_aload_n (n := 1) C0 0 dX5_fault_0 rfl rfl ?_
  refine zV_iconst (n := 2) (v := (0 : Int32)) C0 dX5_fault_1 rfl rfl ?_
  refine zV_put (n := 5) (ref := RX5) C0 hinX5_fault_X5 0 rfl rfl 0 (Nat.le_of_ble_eq_true rfl) mX5_fault_0 rfl tyX5 tyX5_ok nmX5 rfl (tyX5_ok 0 (Nat.le_of_ble_eq_true rfl)) rfl rfl (Nat.le_of_ble_eq_true rfl) (upd S.1 0 (0 : Int32), S.2) (wM_f0 cI cZ q ad S (0 : Int32)) dX5_fault_2 rfl ?_
  refine zV_topS (fun S_1 eS_1 => ?_)
  replace h := zlet_of eS_1 h
  clear eS_1
  refine zV_aload_n (n := 6) C0 0 dX5_fault_5 rfl rfl ?_
  obtain ⟨⟨r_3, S_4⟩, hc_2, h⟩ := ob_of h
  refine zV_callVI (n := 9) (st := []) (As := []) C0 (k_X5_readTunnel  S_1 _ hc_2) gX5_fault_X5_readTunnel rfl (hd_X5_readTunnel) rfl ⟨rfl, rfl⟩ ⟨Nat.le_of_ble_eq_true rfl, Nat.le_of_ble_eq_true rfl⟩ 0 rfl rfl rfl (Nat.le_of_ble_eq_true rfl) dX5_fault_6 rfl ?_
  exact zretI hR h rfl dX5_fault_9
set_option maxRecDepth 20000 in
theorem mX5_tunnel_0 : Cond.fieldLink RX5 63 "LeggedThroughModel" "thrown" "I" ∈ wsX5_tunnel := by decide +kernel
set_option maxRecDepth 20000 in
theorem mX5_tunnel_1 : Cond.fieldLink RX5 97 "LeggedThroughModel" "readSteps" "I" ∈ wsX5_tunnel := by decide +kernel
set_option maxRecDepth 20000 in
theorem mX5_tunnel_2 : Cond.fieldLink RX5 13 "LeggedThroughModel" "steps" "I" ∈ wsX5_tunnel := by decide +kernel
set_option maxRecDepth 20000 in
theorem mX5_tunnel_3 : Cond.fieldLink RX5 88 "LeggedThroughModel" "readLeggers" "I" ∈ wsX5_tunnel := by decide +kernel
set_option maxRecDepth 20000 in
theorem mX5_tunnel_4 : Cond.fieldLink RX5 66 "LeggedThroughModel" "leggers" "I" ∈ wsX5_tunnel := by decide +kernel
set_option maxRecDepth 20000 in
theorem mX5_tunnel_5 : Cond.fieldLink RX5 94 "LeggedThroughModel" "readBoats" "I" ∈ wsX5_tunnel := by decide +kernel
set_option maxRecDepth 20000 in
theorem mX5_tunnel_6 : Cond.fieldLink RX5 73 "LeggedThroughModel" "boats" "I" ∈ wsX5_tunnel := by decide +kernel
set_option maxRecDepth 20000 in
theorem mX5_tunnel_7 : Cond.fieldLink RX5 107 "LeggedThroughModel" "acts" "I" ∈ wsX5_tunnel := by decide +kernel
set_option maxRecDepth 20000 in
theorem mX5_tunnel_8 : Cond.fieldLink RX5 44 "LeggedThroughModel" "isKept" "[Z" ∈ wsX5_tunnel := by decide +kernel
set_option maxRecDepth 20000 in
theorem mX5_tunnel_9 : Cond.fieldLink RX5 20 "LeggedThroughModel" "load" "[I" ∈ wsX5_tunnel := by decide +kernel
set_option maxRecDepth 20000 in
theorem mX5_tunnel_10 : Cond.fieldLink RX5 26 "LeggedThroughModel" "readBoat" "[I" ∈ wsX5_tunnel := by decide +kernel
set_option maxRecDepth 20000 in
theorem mX5_tunnel_11 : Cond.fieldLink RX5 17 "LeggedThroughModel" "kind" "[I" ∈ wsX5_tunnel := by decide +kernel
set_option maxRecDepth 20000 in
theorem mX5_tunnel_12 : Cond.fieldLink RX5 23 "LeggedThroughModel" "readLegger" "[I" ∈ wsX5_tunnel := by decide +kernel
set_option maxRecDepth 20000 in
theorem mX5_tunnel_13 : Cond.fieldLink RX5 29 "LeggedThroughModel" "page" "[I" ∈ wsX5_tunnel := by decide +kernel
set_option maxRecDepth 20000 in
theorem hinX5_tunnel_X5 : ∀ w ∈ u_ws RX5 TX5 37, w ∈ wsX5_tunnel := fun w h => List.mem_cons_of_mem _ (List.mem_append_right _ h)
set_option maxRecDepth 20000 in
set_option maxHeartbeats 4000000 in
theorem k_X5_tunnel {l : Launch} {D : va_G} {cI cZ : ClassId} {q : Nat} {ad : Nat → Nat}   (S : zS) (r : Int32 × zS) (h : f_X5_tunnel  S = some r) : zI l yX5_tunnel wsX5_tunnel (zRm 5 111) D (zty cI cZ) zNw (wM cI cZ q ad) [.ref q] S r := by
  refine zI_of (cc := cX5_tunnel) (maxL := 3) (ty := .int) (by decide +kernel) rfl (Nat.le_of_ble_eq_true rfl) zNw_ok (fun E hE1 hE2 C0 hR => ?_)
  subst hE1; subst hE2
  replace C0 : zCx E (zRm 5 111) cX5_tunnel 3 RX5 wsX5_tunnel (zty cI cZ) zNw := C0
  show zV E (wM cI cZ q ad) 3 S 0 [(0, .ref q)] []
  delta f_X5_tunnel at h
  refine zV_aload_n (n := 1) C0 0 dX5_tunnel_0 rfl rfl ?_
  refine zV_iconst (n := 2) (v := (0 : Int32)) C0 dX5_tunnel_1 rfl rfl ?_
  refine zV_put (n := 5) (ref := RX5) C0 hinX5_tunnel_X5 0 rfl rfl 0 (Nat.le_of_ble_eq_true rfl) mX5_tunnel_0 rfl tyX5 tyX5_ok nmX5 rfl (tyX5_ok 0 (Nat.le_of_ble_eq_true rfl)) rfl rfl (Nat.le_of_ble_eq_true rfl) (upd S.1 0 (0 : Int32), S.2) (wM_f0 cI cZ q ad S (0 : Int32)) dX5_tunnel_2 rfl ?_
  refine zV_topS (fun S_1 eS_1 => ?_)
  replace h := zlet_of eS_1 h
  clear eS_1
  refine zV_aload_n (n := 6) C0 0 dX5_tunnel_5 rfl rfl ?_
  obtain ⟨⟨r_3, S_4⟩, hc_2, h⟩ := ob_of h
  refine zV_callVI (n := 9) (st := []) (As := []) C0 (k_X5_readTunnel  S_1 _ hc_2) gX5_tunnel_X5_readTunnel rfl (hd_X5_readTunnel) rfl ⟨rfl, rfl⟩ ⟨Nat.le_of_ble_eq_true rfl, Nat.le_of_ble_eq_true rfl⟩ 0 rfl rfl rfl (Nat.le_of_ble_eq_true rfl) dX5_tunnel_6 rfl ?_
  refine zV_bipush (n := 11) (v := (-9 : Int32)) C0 dX5_tunnel_9 rfl rfl ?_
  refine zV_icmp_eq (tgt := 17) (n := 14) C0 dX5_tunnel_11 rfl rfl (fun hb_40 => ?_) (fun hb_40 => ?_)
  · replace h := if_t hb_40 h
    refine zV_aload_n (n := 18) C0 0 dX5_tunnel_17 rfl rfl ?_
    refine zV_aload_n (n := 19) C0 0 dX5_tunnel_18 rfl rfl ?_
    refine zV_get (n := 22) (ref := RX5) C0 hinX5_tunnel_X5 0 rfl rfl 9 (Nat.le_of_ble_eq_true rfl) mX5_tunnel_1 rfl rfl dX5_tunnel_19 rfl ?_
    refine zV_put (n := 25) (ref := RX5) C0 hinX5_tunnel_X5 0 rfl rfl 4 (Nat.le_of_ble_eq_true rfl) mX5_tunnel_2 rfl tyX5 tyX5_ok nmX5 rfl (tyX5_ok 4 (Nat.le_of_ble_eq_true rfl)) rfl rfl (Nat.le_of_ble_eq_true rfl) (upd S_4.1 4 (S_4.1 9), S_4.2) (wM_f4 cI cZ q ad S_4 (S_4.1 9)) dX5_tunnel_22 rfl ?_
    refine zV_topS (fun S_5 eS_5 => ?_)
    replace h := zlet_of eS_5 h
    clear eS_5
    refine zV_aload_n (n := 26) C0 0 dX5_tunnel_25 rfl rfl ?_
    refine zV_aload_n (n := 27) C0 0 dX5_tunnel_26 rfl rfl ?_
    refine zV_get (n := 30) (ref := RX5) C0 hinX5_tunnel_X5 0 rfl rfl 10 (Nat.le_of_ble_eq_true rfl) mX5_tunnel_3 rfl rfl dX5_tunnel_27 rfl ?_
    refine zV_put (n := 33) (ref := RX5) C0 hinX5_tunnel_X5 0 rfl rfl 5 (Nat.le_of_ble_eq_true rfl) mX5_tunnel_4 rfl tyX5 tyX5_ok nmX5 rfl (tyX5_ok 5 (Nat.le_of_ble_eq_true rfl)) rfl rfl (Nat.le_of_ble_eq_true rfl) (upd S_5.1 5 (S_5.1 10), S_5.2) (wM_f5 cI cZ q ad S_5 (S_5.1 10)) dX5_tunnel_30 rfl ?_
    refine zV_topS (fun S_6 eS_6 => ?_)
    replace h := zlet_of eS_6 h
    clear eS_6
    refine zV_aload_n (n := 34) C0 0 dX5_tunnel_33 rfl rfl ?_
    refine zV_aload_n (n := 35) C0 0 dX5_tunnel_34 rfl rfl ?_
    refine zV_get (n := 38) (ref := RX5) C0 hinX5_tunnel_X5 0 rfl rfl 12 (Nat.le_of_ble_eq_true rfl) mX5_tunnel_5 rfl rfl dX5_tunnel_35 rfl ?_
    refine zV_put (n := 41) (ref := RX5) C0 hinX5_tunnel_X5 0 rfl rfl 7 (Nat.le_of_ble_eq_true rfl) mX5_tunnel_6 rfl tyX5 tyX5_ok nmX5 rfl (tyX5_ok 7 (Nat.le_of_ble_eq_true rfl)) rfl rfl (Nat.le_of_ble_eq_true rfl) (upd S_6.1 7 (S_6.1 12), S_6.2) (wM_f7 cI cZ q ad S_6 (S_6.1 12)) dX5_tunnel_38 rfl ?_
    refine zV_topS (fun S_7 eS_7 => ?_)
    replace h := zlet_of eS_7 h
    clear eS_7
    refine zV_iconst (n := 42) (v := (0 : Int32)) C0 dX5_tunnel_41 rfl rfl ?_
    refine zV_istore_n (n := 43) C0 [(1, .int (0 : Int32)), (0, .ref q)] dX5_tunnel_42 rfl rfl (Nat.le_of_ble_eq_true rfl) rfl ?_
    refine zV_sub [1, 0] rfl ?_
    refine zfix_ind (fun e => zV E (wM cI cZ q ad) 3 e.2 43 [(0, .ref q), (1, .int e.1)] []) (fun rec_10 hrec_10 e h => ?_) zN ((0 : Int32), S_7) h
    obtain ⟨x1_8, S_9⟩ := e
    have Jrec_10 : ∀ (x1_8 : Int32) (S_9 : zS), rec_10 (x1_8, S_9) = some r → zV E (wM cI cZ q ad) 3 S_9 43 [(0, .ref q), (1, .int x1_8)] [] := fun x1_8 S_9 h => hrec_10 _ h
    clear hrec_10
    dsimp only [F_X5_tunnel_43] at h
    show zV E (wM cI cZ q ad) 3 S_9 43 [(0, .ref q), (1, .int x1_8)] []
    refine zV_iload_n (n := 44) C0 1 dX5_tunnel_43 rfl rfl ?_
    refine zV_bipush (n := 46) (v := (22 : Int32)) C0 dX5_tunnel_44 rfl rfl ?_
    refine zV_icmp_ge (tgt := 62) (n := 49) C0 dX5_tunnel_46 rfl rfl (fun hb_39 => ?_) (fun hb_39 => ?_)
    · replace h := if_t hb_39 h
      refine zV_iconst (n := 63) (v := (0 : Int32)) C0 dX5_tunnel_62 rfl rfl ?_
      refine zV_istore_n (n := 64) C0 [(1, .int (0 : Int32)), (0, .ref q)] dX5_tunnel_63 rfl rfl (Nat.le_of_ble_eq_true rfl) rfl ?_
      refine zV_sub [1, 0] rfl ?_
      refine zfix_ind (fun e => zV E (wM cI cZ q ad) 3 e.2 64 [(0, .ref q), (1, .int e.1)] []) (fun rec_13 hrec_13 e h => ?_) zN ((0 : Int32), S_9) h
      obtain ⟨x1_11, S_12⟩ := e
      have Jrec_13 : ∀ (x1_11 : Int32) (S_12 : zS), rec_13 (x1_11, S_12) = some r → zV E (wM cI cZ q ad) 3 S_12 64 [(0, .ref q), (1, .int x1_11)] [] := fun x1_11 S_12 h => hrec_13 _ h
      clear hrec_13
      dsimp only [F_X5_tunnel_64] at h
      show zV E (wM cI cZ q ad) 3 S_12 64 [(0, .ref q), (1, .int x1_11)] []
      refine zV_iload_n (n := 65) C0 1 dX5_tunnel_64 rfl rfl ?_
      refine zV_aload_n (n := 66) C0 0 dX5_tunnel_65 rfl rfl ?_
      refine zV_get (n := 69) (ref := RX5) C0 hinX5_tunnel_X5 0 rfl rfl 5 (Nat.le_of_ble_eq_true rfl) mX5_tunnel_4 rfl rfl dX5_tunnel_66 rfl ?_
      refine zV_icmp_ge (tgt := 129) (n := 72) C0 dX5_tunnel_69 rfl rfl (fun hb_36 => ?_) (fun hb_36 => ?_)
      · replace h := if_t hb_36 h
        refine zV_iconst (n := 130) (v := (0 : Int32)) C0 dX5_tunnel_129 rfl rfl ?_
        refine zV_istore_n (n := 131) C0 [(1, .int (0 : Int32)), (0, .ref q)] dX5_tunnel_130 rfl rfl (Nat.le_of_ble_eq_true rfl) rfl ?_
        refine zV_sub [1, 0] rfl ?_
        refine zfix_ind (fun e => zV E (wM cI cZ q ad) 3 e.2 131 [(0, .ref q), (1, .int e.1)] []) (fun rec_16 hrec_16 e h => ?_) zN ((0 : Int32), S_12) h
        obtain ⟨x1_14, S_15⟩ := e
        have Jrec_16 : ∀ (x1_14 : Int32) (S_15 : zS), rec_16 (x1_14, S_15) = some r → zV E (wM cI cZ q ad) 3 S_15 131 [(0, .ref q), (1, .int x1_14)] [] := fun x1_14 S_15 h => hrec_16 _ h
        clear hrec_16
        dsimp only [F_X5_tunnel_131] at h
        show zV E (wM cI cZ q ad) 3 S_15 131 [(0, .ref q), (1, .int x1_14)] []
        refine zV_iload_n (n := 132) C0 1 dX5_tunnel_131 rfl rfl ?_
        refine zV_aload_n (n := 133) C0 0 dX5_tunnel_132 rfl rfl ?_
        refine zV_get (n := 136) (ref := RX5) C0 hinX5_tunnel_X5 0 rfl rfl 7 (Nat.le_of_ble_eq_true rfl) mX5_tunnel_6 rfl rfl dX5_tunnel_133 rfl ?_
        refine zV_icmp_ge (tgt := 157) (n := 139) C0 dX5_tunnel_136 rfl rfl (fun hb_25 => ?_) (fun hb_25 => ?_)
        · replace h := if_t hb_25 h
          refine zV_aload_n (n := 158) C0 0 dX5_tunnel_157 rfl rfl ?_
          refine zV_iconst (n := 159) (v := (0 : Int32)) C0 dX5_tunnel_158 rfl rfl ?_
          refine zV_put (n := 162) (ref := RX5) C0 hinX5_tunnel_X5 0 rfl rfl 18 (Nat.le_of_ble_eq_true rfl) mX5_tunnel_7 rfl tyX5 tyX5_ok nmX5 rfl (tyX5_ok 18 (Nat.le_of_ble_eq_true rfl)) rfl rfl (Nat.le_of_ble_eq_true rfl) (upd S_15.1 18 (0 : Int32), S_15.2) (wM_f18 cI cZ q ad S_15 (0 : Int32)) dX5_tunnel_159 rfl ?_
          refine zV_topS (fun S_17 eS_17 => ?_)
          replace h := zlet_of eS_17 h
          clear eS_17
          refine zV_aload_n (n := 163) C0 0 dX5_tunnel_162 rfl rfl ?_
          refine zV_get (n := 166) (ref := RX5) C0 hinX5_tunnel_X5 0 rfl rfl 20 (Nat.le_of_ble_eq_true rfl) mX5_tunnel_8 rfl rfl dX5_tunnel_163 rfl ?_
          refine zV_iconst (n := 167) (v := (0 : Int32)) C0 dX5_tunnel_166 rfl rfl ?_
          refine zV_iconst (n := 168) (v := (0 : Int32)) C0 dX5_tunnel_167 rfl rfl ?_
          obtain ⟨hg_18, h⟩ := gd_of h
          refine zV_zast (n := 169) C0 11 1 rfl rfl hg_18 (S_17.1, S_17.2.1, zur S_17.2.2 20 (upd (S_17.2.2 20) ((0 : Int32)).toNatClampNeg (vp_nar .boolean (0 : Int32)))) (wM_a20 cI cZ q ad S_17 (upd (S_17.2.2 20) ((0 : Int32)).toNatClampNeg (vp_nar .boolean (0 : Int32)))) dX5_tunnel_168 rfl ?_
          refine zV_topS (fun S_19 eS_19 => ?_)
          replace h := zlet_of eS_19 h
          clear eS_19
          refine zV_aload_n (n := 170) C0 0 dX5_tunnel_169 rfl rfl ?_
          refine zV_get (n := 173) (ref := RX5) C0 hinX5_tunnel_X5 0 rfl rfl 20 (Nat.le_of_ble_eq_true rfl) mX5_tunnel_8 rfl rfl dX5_tunnel_170 rfl ?_
          refine zV_iconst (n := 174) (v := (1 : Int32)) C0 dX5_tunnel_173 rfl rfl ?_
          refine zV_iconst (n := 175) (v := (0 : Int32)) C0 dX5_tunnel_174 rfl rfl ?_
          obtain ⟨hg_20, h⟩ := gd_of h
          refine zV_zast (n := 176) C0 11 1 rfl rfl hg_20 (S_19.1, S_19.2.1, zur S_19.2.2 20 (upd (S_19.2.2 20) ((1 : Int32)).toNatClampNeg (vp_nar .boolean (0 : Int32)))) (wM_a20 cI cZ q ad S_19 (upd (S_19.2.2 20) ((1 : Int32)).toNatClampNeg (vp_nar .boolean (0 : Int32)))) dX5_tunnel_175 rfl ?_
          refine zV_topS (fun S_21 eS_21 => ?_)
          replace h := zlet_of eS_21 h
          clear eS_21
          refine zV_bipush (n := 178) (v := (10 : Int32)) C0 dX5_tunnel_176 rfl rfl ?_
          refine zV_aload_n (n := 179) C0 0 dX5_tunnel_178 rfl rfl ?_
          refine zV_get (n := 182) (ref := RX5) C0 hinX5_tunnel_X5 0 rfl rfl 5 (Nat.le_of_ble_eq_true rfl) mX5_tunnel_4 rfl rfl dX5_tunnel_179 rfl ?_
          refine zV_imul (n := 183) C0 dX5_tunnel_182  rfl ?_
          refine zV_aload_n (n := 184) C0 0 dX5_tunnel_183 rfl rfl ?_
          refine zV_get (n := 187) (ref := RX5) C0 hinX5_tunnel_X5 0 rfl rfl 7 (Nat.le_of_ble_eq_true rfl) mX5_tunnel_6 rfl rfl dX5_tunnel_184 rfl ?_
          refine zV_iadd (n := 188) C0 dX5_tunnel_187  rfl ?_
          exact zretI hR h rfl dX5_tunnel_188
        · replace h := if_f hb_25 h
          refine zV_aload_n (n := 140) C0 0 dX5_tunnel_139 rfl rfl ?_
          refine zV_get (n := 143) (ref := RX5) C0 hinX5_tunnel_X5 0 rfl rfl 8 (Nat.le_of_ble_eq_true rfl) mX5_tunnel_9 rfl rfl dX5_tunnel_140 rfl ?_
          refine zV_iload_n (n := 144) C0 1 dX5_tunnel_143 rfl rfl ?_
          refine zV_aload_n (n := 145) C0 0 dX5_tunnel_144 rfl rfl ?_
          refine zV_get (n := 148) (ref := RX5) C0 hinX5_tunnel_X5 0 rfl rfl 13 (Nat.le_of_ble_eq_true rfl) mX5_tunnel_10 rfl rfl dX5_tunnel_145 rfl ?_
          refine zV_iload_n (n := 149) C0 1 dX5_tunnel_148 rfl rfl ?_
          obtain ⟨hg_22, h⟩ := gd_of h
          refine zV_iald (n := 150) C0 5 0 rfl rfl hg_22 dX5_tunnel_149 rfl ?_
          obtain ⟨hg_23, h⟩ := gd_of h
          refine zV_iast (n := 151) C0 3 0 rfl rfl hg_23 (S_15.1, S_15.2.1, zur S_15.2.2 8 (upd (S_15.2.2 8) (x1_14).toNatClampNeg (S_15.2.2 13 (x1_14).toNatClampNeg))) (wM_a8 cI cZ q ad S_15 (upd (S_15.2.2 8) (x1_14).toNatClampNeg (S_15.2.2 13 (x1_14).toNatClampNeg))) dX5_tunnel_150 rfl ?_
          refine zV_topS (fun S_24 eS_24 => ?_)
          replace h := zlet_of eS_24 h
          clear eS_24
          refine zV_iinc (n := 154) C0 1 (v := (x1_14 + (1 : Int32))) [(1, .int (x1_14 + (1 : Int32))), (0, .ref q)] dX5_tunnel_151 rfl rfl rfl (Nat.le_of_ble_eq_true rfl) rfl ?_
          refine zV_goto (tgt := 131) C0 dX5_tunnel_154 rfl ?_
          refine zV_sub [1, 0] rfl ?_
          exact Jrec_16 (x1_14 + (1 : Int32)) S_24 h
      · replace h := if_f hb_36 h
        refine zV_aload_n (n := 73) C0 0 dX5_tunnel_72 rfl rfl ?_
        refine zV_get (n := 76) (ref := RX5) C0 hinX5_tunnel_X5 0 rfl rfl 6 (Nat.le_of_ble_eq_true rfl) mX5_tunnel_11 rfl rfl dX5_tunnel_73 rfl ?_
        refine zV_iload_n (n := 77) C0 1 dX5_tunnel_76 rfl rfl ?_
        refine zV_aload_n (n := 78) C0 0 dX5_tunnel_77 rfl rfl ?_
        refine zV_get (n := 81) (ref := RX5) C0 hinX5_tunnel_X5 0 rfl rfl 11 (Nat.le_of_ble_eq_true rfl) mX5_tunnel_12 rfl rfl dX5_tunnel_78 rfl ?_
        refine zV_iconst (n := 82) (v := (5 : Int32)) C0 dX5_tunnel_81 rfl rfl ?_
        refine zV_iload_n (n := 83) C0 1 dX5_tunnel_82 rfl rfl ?_
        refine zV_imul (n := 84) C0 dX5_tunnel_83  rfl ?_
        obtain ⟨hg_26, h⟩ := gd_of h
        refine zV_iald (n := 85) C0 4 0 rfl rfl hg_26 dX5_tunnel_84 rfl ?_
        obtain ⟨hg_27, h⟩ := gd_of h
        refine zV_iast (n := 86) C0 2 0 rfl rfl hg_27 (S_12.1, S_12.2.1, zur S_12.2.2 6 (upd (S_12.2.2 6) (x1_11).toNatClampNeg (S_12.2.2 11 (((5 : Int32) * x1_11)).toNatClampNeg))) (wM_a6 cI cZ q ad S_12 (upd (S_12.2.2 6) (x1_11).toNatClampNeg (S_12.2.2 11 (((5 : Int32) * x1_11)).toNatClampNeg))) dX5_tunnel_85 rfl ?_
        refine zV_topS (fun S_28 eS_28 => ?_)
        replace h := zlet_of eS_28 h
        clear eS_28
        refine zV_iconst (n := 87) (v := (0 : Int32)) C0 dX5_tunnel_86 rfl rfl ?_
        refine zV_istore_n (n := 88) C0 [(2, .int (0 : Int32)), (0, .ref q), (1, .int x1_11)] dX5_tunnel_87 rfl rfl (Nat.le_of_ble_eq_true rfl) rfl ?_
        refine zV_sub [1, 2, 0] rfl ?_
        refine zfix_ind (fun e => zV E (wM cI cZ q ad) 3 e.2 88 [(0, .ref q), (1, .int x1_11), (2, .int e.1)] []) (fun rec_31 hrec_31 e h => ?_) zN ((0 : Int32), S_28) h
        obtain ⟨x2_29, S_30⟩ := e
        have Jrec_31 : ∀ (x2_29 : Int32) (S_30 : zS), rec_31 (x2_29, S_30) = some r → zV E (wM cI cZ q ad) 3 S_30 88 [(0, .ref q), (1, .int x1_11), (2, .int x2_29)] [] := fun x2_29 S_30 h => hrec_31 _ h
        clear hrec_31
        dsimp only [F_X5_tunnel_88] at h
        show zV E (wM cI cZ q ad) 3 S_30 88 [(0, .ref q), (1, .int x1_11), (2, .int x2_29)] []
        refine zV_iload_n (n := 89) C0 2 dX5_tunnel_88 rfl rfl ?_
        refine zV_iconst (n := 90) (v := (4 : Int32)) C0 dX5_tunnel_89 rfl rfl ?_
        refine zV_icmp_ge (tgt := 123) (n := 93) C0 dX5_tunnel_90 rfl rfl (fun hb_35 => ?_) (fun hb_35 => ?_)
        · replace h := if_t hb_35 h
          refine zV_iinc (n := 126) C0 1 (v := (x1_11 + (1 : Int32))) [(1, .int (x1_11 + (1 : Int32))), (0, .ref q), (2, .int x2_29)] dX5_tunnel_123 rfl rfl rfl (Nat.le_of_ble_eq_true rfl) rfl ?_
          refine zV_goto (tgt := 64) C0 dX5_tunnel_126 rfl ?_
          refine zV_sub [1, 0] rfl ?_
          exact Jrec_13 (x1_11 + (1 : Int32)) S_30 h
        · replace h := if_f hb_35 h
          refine zV_aload_n (n := 94) C0 0 dX5_tunnel_93 rfl rfl ?_
          refine zV_get (n := 97) (ref := RX5) C0 hinX5_tunnel_X5 0 rfl rfl 14 (Nat.le_of_ble_eq_true rfl) mX5_tunnel_13 rfl rfl dX5_tunnel_94 rfl ?_
          refine zV_iconst (n := 98) (v := (0 : Int32)) C0 dX5_tunnel_97 rfl rfl ?_
          refine zV_iconst (n := 99) (v := (4 : Int32)) C0 dX5_tunnel_98 rfl rfl ?_
          refine zV_iload_n (n := 100) C0 1 dX5_tunnel_99 rfl rfl ?_
          refine zV_imul (n := 101) C0 dX5_tunnel_100  rfl ?_
          refine zV_iadd (n := 102) C0 dX5_tunnel_101  rfl ?_
          refine zV_iload_n (n := 103) C0 2 dX5_tunnel_102 rfl rfl ?_
          refine zV_iadd (n := 104) C0 dX5_tunnel_103  rfl ?_
          refine zV_aload_n (n := 105) C0 0 dX5_tunnel_104 rfl rfl ?_
          refine zV_get (n := 108) (ref := RX5) C0 hinX5_tunnel_X5 0 rfl rfl 11 (Nat.le_of_ble_eq_true rfl) mX5_tunnel_12 rfl rfl dX5_tunnel_105 rfl ?_
          refine zV_iconst (n := 109) (v := (5 : Int32)) C0 dX5_tunnel_108 rfl rfl ?_
          refine zV_iload_n (n := 110) C0 1 dX5_tunnel_109 rfl rfl ?_
          refine zV_imul (n := 111) C0 dX5_tunnel_110  rfl ?_
          refine zV_iconst (n := 112) (v := (1 : Int32)) C0 dX5_tunnel_111 rfl rfl ?_
          refine zV_iadd (n := 113) C0 dX5_tunnel_112  rfl ?_
          refine zV_iload_n (n := 114) C0 2 dX5_tunnel_113 rfl rfl ?_
          refine zV_iadd (n := 115) C0 dX5_tunnel_114  rfl ?_
          obtain ⟨hg_32, h⟩ := gd_of h
          refine zV_iald (n := 116) C0 4 0 rfl rfl hg_32 dX5_tunnel_115 rfl ?_
          obtain ⟨hg_33, h⟩ := gd_of h
          refine zV_iast (n := 117) C0 6 0 rfl rfl hg_33 (S_30.1, S_30.2.1, zur S_30.2.2 14 (upd (S_30.2.2 14) ((((0 : Int32) + ((4 : Int32) * x1_11)) + x2_29)).toNatClampNeg (S_30.2.2 11 (((((5 : Int32) * x1_11) + (1 : Int32)) + x2_29)).toNatClampNeg))) (wM_a14 cI cZ q ad S_30 (upd (S_30.2.2 14) ((((0 : Int32) + ((4 : Int32) * x1_11)) + x2_29)).toNatClampNeg (S_30.2.2 11 (((((5 : Int32) * x1_11) + (1 : Int32)) + x2_29)).toNatClampNeg))) dX5_tunnel_116 rfl ?_
          refine zV_topS (fun S_34 eS_34 => ?_)
          replace h := zlet_of eS_34 h
          clear eS_34
          refine zV_iinc (n := 120) C0 2 (v := (x2_29 + (1 : Int32))) [(2, .int (x2_29 + (1 : Int32))), (0, .ref q), (1, .int x1_11)] dX5_tunnel_117 rfl rfl rfl (Nat.le_of_ble_eq_true rfl) rfl ?_
          refine zV_goto (tgt := 88) C0 dX5_tunnel_120 rfl ?_
          refine zV_sub [1, 2, 0] rfl ?_
          exact Jrec_31 (x2_29 + (1 : Int32)) S_34 h
    · replace h := if_f hb_39 h
      refine zV_aload_n (n := 50) C0 0 dX5_tunnel_49 rfl rfl ?_
      refine zV_get (n := 53) (ref := RX5) C0 hinX5_tunnel_X5 0 rfl rfl 14 (Nat.le_of_ble_eq_true rfl) mX5_tunnel_13 rfl rfl dX5_tunnel_50 rfl ?_
      refine zV_iload_n (n := 54) C0 1 dX5_tunnel_53 rfl rfl ?_
      refine zV_iconst (n := 55) (v := (0 : Int32)) C0 dX5_tunnel_54 rfl rfl ?_
      obtain ⟨hg_37, h⟩ := gd_of h
      refine zV_iast (n := 56) C0 6 0 rfl rfl hg_37 (S_9.1, S_9.2.1, zur S_9.2.2 14 (upd (S_9.2.2 14) (x1_8).toNatClampNeg (0 : Int32))) (wM_a14 cI cZ q ad S_9 (upd (S_9.2.2 14) (x1_8).toNatClampNeg (0 : Int32))) dX5_tunnel_55 rfl ?_
      refine zV_topS (fun S_38 eS_38 => ?_)
      replace h := zlet_of eS_38 h
      clear eS_38
      refine zV_iinc (n := 59) C0 1 (v := (x1_8 + (1 : Int32))) [(1, .int (x1_8 + (1 : Int32))), (0, .ref q)] dX5_tunnel_56 rfl rfl rfl (Nat.le_of_ble_eq_true rfl) rfl ?_
      refine zV_goto (tgt := 43) C0 dX5_tunnel_59 rfl ?_
      refine zV_sub [1, 0] rfl ?_
      exact Jrec_10 (x1_8 + (1 : Int32)) S_38 h
  · replace h := if_f hb_40 h
    refine zV_bipush (n := 16) (v := (-3 : Int32)) C0 dX5_tunnel_14 rfl rfl ?_
    exact zretI hR h rfl dX5_tunnel_16
set_option maxRecDepth 20000 in
theorem mX5_takes_0 : Cond.fieldLink RX5 17 "LeggedThroughModel" "kind" "[I" ∈ wsX5_takes := by decide +kernel
set_option maxRecDepth 20000 in
theorem mX5_takes_1 : Cond.fieldLink RX5 13 "LeggedThroughModel" "steps" "I" ∈ wsX5_takes := by decide +kernel
set_option maxRecDepth 20000 in
theorem hinX5_takes_X5 : ∀ w ∈ u_ws RX5 TX5 37, w ∈ wsX5_takes := fun w h => List.mem_cons_of_mem _ (List.mem_append_right _ h)
set_option maxRecDepth 20000 in
set_option maxHeartbeats 4000000 in
theorem k_X5_takes {l : Launch} {D : va_G} {cI cZ : ClassId} {q : Nat} {ad : Nat → Nat} (k1 : Nat) (a2 : Int32) (a3 : Int32) (a4 : Int32) (hk1 : mok k1) (S : zS) (r : Int32) (h : f_X5_takes k1 a2 a3 a4 S = some r) : zI l yX5_takes wsX5_takes (zRm 1 20) D (zty cI cZ) zNw (wM cI cZ q ad) [.ref q, .ref (ad k1), .int a2, .int a3, .int a4] S (r, S) := by
  refine zI_of (cc := cX5_takes) (maxL := 6) (ty := .int) (by decide +kernel) rfl (Nat.le_of_ble_eq_true rfl) zNw_ok (fun E hE1 hE2 C0 hR => ?_)
  subst hE1; subst hE2
  replace C0 : zCx E (zRm 1 20) cX5_takes 6 RX5 wsX5_takes (zty cI cZ) zNw := C0
  show zV E (wM cI cZ q ad) 6 S 0 [(0, .ref q), (1, .ref (ad k1)), (2, .int a2), (3, .int a3), (4, .int a4)] []
  delta f_X5_takes at h
  refine zV_aload_n (n := 1) C0 1 dX5_takes_0 rfl rfl ?_
  refine zV_iconst (n := 2) (v := (0 : Int32)) C0 dX5_takes_1 rfl rfl ?_
  refine zV_iconst (n := 3) (v := (4 : Int32)) C0 dX5_takes_2 rfl rfl ?_
  refine zV_iload_n (n := 4) C0 2 dX5_takes_3 rfl rfl ?_
  refine zV_imul (n := 5) C0 dX5_takes_4  rfl ?_
  refine zV_iadd (n := 6) C0 dX5_takes_5  rfl ?_
  refine zV_iload (n := 8) C0 4 dX5_takes_6 rfl rfl ?_
  refine zV_iadd (n := 9) C0 dX5_takes_8  rfl ?_
  obtain ⟨hg_1, h⟩ := gd_of h
  refine zV_iald (n := 10) C0 (k1 - 8) 0 (wM_at cI cZ q ad S hk1) rfl hg_1 dX5_takes_9 rfl ?_
  obtain ⟨r_3, hc_2, h⟩ := ob_of h
  refine zV_callS0 (n := 13) (st := []) (As := [.int (S.2.2 k1 ((((0 : Int32) + ((4 : Int32) * a2)) + a4)).toNatClampNeg)]) C0 (k_X5_minutes (S.2.2 k1 ((((0 : Int32) + ((4 : Int32) * a2)) + a4)).toNatClampNeg) _ hc_2) gX5_takes_X5_minutes rfl (hd_X5_minutes) rfl ⟨rfl, rfl⟩ ⟨Nat.le_of_ble_eq_true rfl, Nat.le_of_ble_eq_true rfl⟩ rfl (Nat.le_of_ble_eq_true rfl) dX5_takes_10 rfl ?_
  refine zV_istore (n := 15) C0 [(5, .int r_3), (0, .ref q), (1, .ref (ad k1)), (2, .int a2), (3, .int a3), (4, .int a4)] dX5_takes_13 rfl (Nat.le_of_ble_eq_true rfl) rfl ?_
  refine zV_iload (n := 17) C0 0 dX5_takes_15 rfl rfl ?_
  refine zV_aload_n (n := 18) C0 1 dX5_takes_17 rfl rfl ?_
  refine zV_get (n := 21) (ref := RX5) C0 hinX5_takes_X5 0 rfl rfl 6 (Nat.le_of_ble_eq_true rfl) mX5_takes_0 rfl rfl dX5_takes_18 rfl ?_
  refine zV_iload_n (n := 22) C0 3 dX5_takes_21 rfl rfl ?_
  obtain ⟨hg_4, h⟩ := gd_of h
  refine zV_iald (n := 23) C0 2 0 rfl rfl hg_4 dX5_takes_22 rfl ?_
  refine zV_iconst (n := 24) (v := (1 : Int32)) C0 dX5_takes_23 rfl rfl ?_
  refine zjoin_of h (fun k_6 hk_6 h => ?_)
  have Jk_6 : ∀ (s_5 : Int32), k_6 (s_5) = some r → zV E (wM cI cZ q ad) 6 S 32 [(0, .ref q), (1, .ref (ad k1)), (2, .int a2), (3, .int a3)] [.int s_5, .int r_3] := by
    intro s_5 h
    replace h := hk_6 _ h
    refine zV_iadd (n := 33) C0 dX5_takes_32  rfl ?_
    refine zV_topi (fun x5_7 ex5_7 => ?_)
    replace h := zlet_of ex5_7 h
    clear ex5_7
    refine zV_istore (n := 35) C0 [(5, .int x5_7), (0, .ref q), (1, .ref (ad k1)), (2, .int a2), (3, .int a3)] dX5_takes_33 rfl (Nat.le_of_ble_eq_true rfl) rfl ?_
    refine zV_iload (n := 37) C0 0 dX5_takes_35 rfl rfl ?_
    refine zV_aload_n (n := 38) C0 1 dX5_takes_37 rfl rfl ?_
    refine zV_get (n := 41) (ref := RX5) C0 hinX5_takes_X5 0 rfl rfl 6 (Nat.le_of_ble_eq_true rfl) mX5_takes_0 rfl rfl dX5_takes_38 rfl ?_
    refine zV_iload_n (n := 42) C0 3 dX5_takes_41 rfl rfl ?_
    obtain ⟨hg_8, h⟩ := gd_of h
    refine zV_iald (n := 43) C0 2 0 rfl rfl hg_8 dX5_takes_42 rfl ?_
    refine zV_iconst (n := 44) (v := (2 : Int32)) C0 dX5_takes_43 rfl rfl ?_
    refine zjoin_of h (fun k_10 hk_10 h => ?_)
    have Jk_10 : ∀ (s_9 : Int32), k_10 (s_9) = some r → zV E (wM cI cZ q ad) 6 S 58 [(0, .ref q), (1, .ref (ad k1)), (2, .int a2), (3, .int a3)] [.int s_9, .int x5_7] := by
      intro s_9 h
      replace h := hk_10 _ h
      refine zV_isub (n := 59) C0 dX5_takes_58  rfl ?_
      refine zV_topi (fun x5_11 ex5_11 => ?_)
      replace h := zlet_of ex5_11 h
      clear ex5_11
      refine zV_istore (n := 61) C0 [(5, .int x5_11), (0, .ref q), (1, .ref (ad k1)), (2, .int a2), (3, .int a3)] dX5_takes_59 rfl (Nat.le_of_ble_eq_true rfl) rfl ?_
      refine zV_iload (n := 63) C0 0 dX5_takes_61 rfl rfl ?_
      refine zV_aload_n (n := 64) C0 1 dX5_takes_63 rfl rfl ?_
      refine zV_get (n := 67) (ref := RX5) C0 hinX5_takes_X5 0 rfl rfl 6 (Nat.le_of_ble_eq_true rfl) mX5_takes_0 rfl rfl dX5_takes_64 rfl ?_
      refine zV_iload_n (n := 68) C0 3 dX5_takes_67 rfl rfl ?_
      obtain ⟨hg_12, h⟩ := gd_of h
      refine zV_iald (n := 69) C0 2 0 rfl rfl hg_12 dX5_takes_68 rfl ?_
      refine zV_iconst (n := 70) (v := (3 : Int32)) C0 dX5_takes_69 rfl rfl ?_
      refine zjoin_of h (fun k_14 hk_14 h => ?_)
      have Jk_14 : ∀ (s_13 : Int32), k_14 (s_13) = some r → zV E (wM cI cZ q ad) 6 S 88 [(1, .ref (ad k1)), (2, .int a2)] [.int s_13, .int x5_11] := by
        intro s_13 h
        replace h := hk_14 _ h
        refine zV_iadd (n := 89) C0 dX5_takes_88  rfl ?_
        refine zV_topi (fun x5_15 ex5_15 => ?_)
        replace h := zlet_of ex5_15 h
        clear ex5_15
        refine zV_istore (n := 91) C0 [(5, .int x5_15), (1, .ref (ad k1)), (2, .int a2)] dX5_takes_89 rfl (Nat.le_of_ble_eq_true rfl) rfl ?_
        refine zV_iload (n := 93) C0 0 dX5_takes_91 rfl rfl ?_
        refine zV_aload_n (n := 94) C0 1 dX5_takes_93 rfl rfl ?_
        refine zV_bipush (n := 96) (v := (16 : Int32)) C0 dX5_takes_94 rfl rfl ?_
        refine zV_iload_n (n := 97) C0 2 dX5_takes_96 rfl rfl ?_
        refine zV_iadd (n := 98) C0 dX5_takes_97  rfl ?_
        obtain ⟨hg_16, h⟩ := gd_of h
        refine zV_iald (n := 99) C0 (k1 - 8) 0 (wM_at cI cZ q ad S hk1) rfl hg_16 dX5_takes_98 rfl ?_
        refine zV_iadd (n := 100) C0 dX5_takes_99  rfl ?_
        exact zretI1 hR h rfl dX5_takes_100
      clear hk_14
      refine zjoin_of h (fun k_17 hk_17 h => ?_)
      have Jk_17 : k_17 () = some r → zV E (wM cI cZ q ad) 6 S 87 [(1, .ref (ad k1)), (2, .int a2)] [.int x5_11] := by
        intro  h
        replace h := hk_17 _ h
        refine zV_iconst (n := 88) (v := (0 : Int32)) C0 dX5_takes_87 rfl rfl ?_
        exact Jk_14 (0 : Int32) h
      clear hk_17
      refine zV_icmp_ne (tgt := 87) (n := 73) C0 dX5_takes_70 rfl rfl (fun hb_19 => ?_) (fun hb_19 => ?_)
      · replace h := if_f hb_19 h
        refine zV_sub [2, 3] rfl ?_
        exact Jk_17  h
      · replace h := if_t hb_19 h
        refine zV_iload_n (n := 74) C0 4 dX5_takes_73 rfl rfl ?_
        refine zV_aload_n (n := 75) C0 1 dX5_takes_74 rfl rfl ?_
        refine zV_get (n := 78) (ref := RX5) C0 hinX5_takes_X5 0 rfl rfl 4 (Nat.le_of_ble_eq_true rfl) mX5_takes_1 rfl rfl dX5_takes_75 rfl ?_
        refine zV_iconst (n := 79) (v := (2 : Int32)) C0 dX5_takes_78 rfl rfl ?_
        refine zV_idiv (n := 80) C0 dX5_takes_79 (by decide) rfl ?_
        refine zV_icmp_ne (tgt := 87) (n := 83) C0 dX5_takes_80 rfl rfl (fun hb_18 => ?_) (fun hb_18 => ?_)
        · replace h := if_f hb_18 h
          refine zV_sub [2, 3] rfl ?_
          exact Jk_17  h
        · replace h := if_t hb_18 h
          refine zV_iconst (n := 84) (v := (2 : Int32)) C0 dX5_takes_83 rfl rfl ?_
          refine zV_goto (tgt := 88) C0 dX5_takes_84 rfl ?_
          refine zV_sub [2, 3] rfl ?_
          exact Jk_14 (2 : Int32) h
    clear hk_10
    refine zjoin_of h (fun k_20 hk_20 h => ?_)
    have Jk_20 : k_20 () = some r → zV E (wM cI cZ q ad) 6 S 57 [(0, .ref q), (1, .ref (ad k1)), (2, .int a2), (3, .int a3)] [.int x5_7] := by
      intro  h
      replace h := hk_20 _ h
      refine zV_iconst (n := 58) (v := (0 : Int32)) C0 dX5_takes_57 rfl rfl ?_
      exact Jk_10 (0 : Int32) h
    clear hk_20
    refine zV_icmp_ne (tgt := 57) (n := 47) C0 dX5_takes_44 rfl rfl (fun hb_22 => ?_) (fun hb_22 => ?_)
    · replace h := if_f hb_22 h
      refine zV_sub [1, 2, 3, 4] rfl ?_
      exact Jk_20  h
    · replace h := if_t hb_22 h
      refine zV_iload (n := 49) C0 0 dX5_takes_47 rfl rfl ?_
      refine zV_iconst (n := 50) (v := (1 : Int32)) C0 dX5_takes_49 rfl rfl ?_
      refine zV_icmp_le (tgt := 57) (n := 53) C0 dX5_takes_50 rfl rfl (fun hb_21 => ?_) (fun hb_21 => ?_)
      · replace h := if_t hb_21 h
        refine zV_sub [1, 2, 3, 4] rfl ?_
        exact Jk_20  h
      · replace h := if_f hb_21 h
        refine zV_iconst (n := 54) (v := (1 : Int32)) C0 dX5_takes_53 rfl rfl ?_
        refine zV_goto (tgt := 58) C0 dX5_takes_54 rfl ?_
        refine zV_sub [1, 2, 3, 4] rfl ?_
        exact Jk_10 (1 : Int32) h
  clear hk_6
  refine zV_icmp_ne (tgt := 31) (n := 27) C0 dX5_takes_24 rfl rfl (fun hb_23 => ?_) (fun hb_23 => ?_)
  · replace h := if_f hb_23 h
    refine zV_iconst (n := 32) (v := (0 : Int32)) C0 dX5_takes_31 rfl rfl ?_
    refine zV_sub [1, 2, 3, 4] rfl ?_
    exact Jk_6 (0 : Int32) h
  · replace h := if_t hb_23 h
    refine zV_iconst (n := 28) (v := (1 : Int32)) C0 dX5_takes_27 rfl rfl ?_
    refine zV_goto (tgt := 32) C0 dX5_takes_28 rfl ?_
    refine zV_sub [1, 2, 3, 4] rfl ?_
    exact Jk_6 (1 : Int32) h
set_option maxRecDepth 20000 in
theorem mX5_timeOf_0 : Cond.fieldLink RX5 13 "LeggedThroughModel" "steps" "I" ∈ wsX5_timeOf := by decide +kernel
set_option maxRecDepth 20000 in
theorem hinX5_timeOf_X5 : ∀ w ∈ u_ws RX5 TX5 37, w ∈ wsX5_timeOf := fun w h => List.mem_cons_of_mem _ (List.mem_append_right _ h)
set_option maxRecDepth 20000 in
set_option maxHeartbeats 4000000 in
theorem k_X5_timeOf {l : Launch} {D : va_G} {cI cZ : ClassId} {q : Nat} {ad : Nat → Nat} (k1 : Nat) (a2 : Int32) (a3 : Int32) (a4 : Int32) (a5 : Int32) (hk1 : mok k1) (S : zS) (r : Int32) (h : f_X5_timeOf k1 a2 a3 a4 a5 S = some r) : zI l yX5_timeOf wsX5_timeOf (zRm 2 45) D (zty cI cZ) zNw (wM cI cZ q ad) [.ref q, .ref (ad k1), .int a2, .int a3, .int a4, .int a5] S (r, S) := by
  refine zI_of (cc := cX5_timeOf) (maxL := 14) (ty := .int) (by decide +kernel) rfl (Nat.le_of_ble_eq_true rfl) zNw_ok (fun E hE1 hE2 C0 hR => ?_)
  subst hE1; subst hE2
  replace C0 : zCx E (zRm 2 45) cX5_timeOf 14 RX5 wsX5_timeOf (zty cI cZ) zNw := C0
  show zV E (wM cI cZ q ad) 14 S 0 [(0, .ref q), (1, .ref (ad k1)), (2, .int a2), (3, .int a3), (4, .int a4), (5, .int a5)] []
  delta f_X5_timeOf at h
  refine zV_iload (n := 2) C0 4 dX5_timeOf_0 rfl rfl ?_
  refine zV_istore (n := 4) C0 [(6, .int a4), (0, .ref q), (1, .ref (ad k1)), (2, .int a2), (3, .int a3), (4, .int a4), (5, .int a5)] dX5_timeOf_2 rfl (Nat.le_of_ble_eq_true rfl) rfl ?_
  refine zV_iload (n := 6) C0 6 dX5_timeOf_4 rfl rfl ?_
  refine zV_istore (n := 8) C0 [(7, .int a5), (6, .int a4), (0, .ref q), (1, .ref (ad k1)), (2, .int a2), (3, .int a3), (4, .int a4), (5, .int a5)] dX5_timeOf_6 rfl (Nat.le_of_ble_eq_true rfl) rfl ?_
  refine zV_iconst (n := 9) (v := (0 : Int32)) C0 dX5_timeOf_8 rfl rfl ?_
  refine zV_istore (n := 11) C0 [(8, .int (0 : Int32)), (7, .int a5), (6, .int a4), (0, .ref q), (1, .ref (ad k1)), (2, .int a2), (3, .int a3), (4, .int a4), (5, .int a5)] dX5_timeOf_9 rfl (Nat.le_of_ble_eq_true rfl) rfl ?_
  refine zV_iconst (n := 12) (v := (0 : Int32)) C0 dX5_timeOf_11 rfl rfl ?_
  refine zV_istore (n := 14) C0 [(9, .int (0 : Int32)), (8, .int (0 : Int32)), (7, .int a5), (6, .int a4), (0, .ref q), (1, .ref (ad k1)), (2, .int a2), (3, .int a3), (4, .int a4), (5, .int a5)] dX5_timeOf_12 rfl (Nat.le_of_ble_eq_true rfl) rfl ?_
  refine zV_sub [4, 5, 6, 7, 3, 2, 1, 0] rfl ?_
  refine zfix_ind (fun e => zV E (wM cI cZ q ad) 14 S 14 [(0, .ref q), (1, .ref (ad k1)), (2, .int a2), (3, .int a3), (6, .int e.1), (7, .int e.2.1), (8, .int e.2.2.1), (9, .int e.2.2.2)] []) (fun rec_5 hrec_5 e h => ?_) zN (a4, a5, (0 : Int32), (0 : Int32)) h
  obtain ⟨x6_1, x7_2, x8_3, x9_4⟩ := e
  have Jrec_5 : ∀ (x6_1 : Int32) (x7_2 : Int32) (x8_3 : Int32) (x9_4 : Int32), rec_5 (x6_1, x7_2, x8_3, x9_4) = some r → zV E (wM cI cZ q ad) 14 S 14 [(0, .ref q), (1, .ref (ad k1)), (2, .int a2), (3, .int a3), (6, .int x6_1), (7, .int x7_2), (8, .int x8_3), (9, .int x9_4)] [] := fun x6_1 x7_2 x8_3 x9_4 h => hrec_5 _ h
  clear hrec_5
  dsimp only [F_X5_timeOf_14] at h
  show zV E (wM cI cZ q ad) 14 S 14 [(0, .ref q), (1, .ref (ad k1)), (2, .int a2), (3, .int a3), (6, .int x6_1), (7, .int x7_2), (8, .int x8_3), (9, .int x9_4)] []
  refine zV_iload (n := 16) C0 7 dX5_timeOf_14 rfl rfl ?_
  refine zV_aload_n (n := 17) C0 0 dX5_timeOf_16 rfl rfl ?_
  refine zV_get (n := 20) (ref := RX5) C0 hinX5_timeOf_X5 0 rfl rfl 4 (Nat.le_of_ble_eq_true rfl) mX5_timeOf_0 rfl rfl dX5_timeOf_17 rfl ?_
  refine zV_icmp_ge (tgt := 127) (n := 23) C0 dX5_timeOf_20 rfl rfl (fun hb_25 => ?_) (fun hb_25 => ?_)
  · replace h := if_t hb_25 h
    refine zV_iload (n := 129) C0 6 dX5_timeOf_127 rfl rfl ?_
    exact zretI1 hR h rfl dX5_timeOf_129
  · replace h := if_f hb_25 h
    refine zV_aload_n (n := 24) C0 0 dX5_timeOf_23 rfl rfl ?_
    refine zV_aload_n (n := 25) C0 1 dX5_timeOf_24 rfl rfl ?_
    refine zV_iload_n (n := 26) C0 2 dX5_timeOf_25 rfl rfl ?_
    refine zV_iload (n := 28) C0 7 dX5_timeOf_26 rfl rfl ?_
    refine zV_iload (n := 30) C0 4 dX5_timeOf_28 rfl rfl ?_
    obtain ⟨r_7, hc_6, h⟩ := ob_of h
    refine zV_callVI (n := 33) (st := []) (As := [.ref (ad k1), .int a2, .int x9_4, .int x6_1]) C0 (k_X5_takes k1 a2 x9_4 x6_1 hk1 S _ hc_6) gX5_timeOf_X5_takes rfl (hd_X5_takes) rfl ⟨rfl, rfl⟩ ⟨Nat.le_of_ble_eq_true rfl, Nat.le_of_ble_eq_true rfl⟩ 0 rfl rfl rfl (Nat.le_of_ble_eq_true rfl) dX5_timeOf_30 rfl ?_
    refine zV_istore (n := 35) C0 [(10, .int r_7), (0, .ref q), (1, .ref (ad k1)), (2, .int a2), (3, .int a3), (6, .int x6_1), (7, .int x7_2), (8, .int x8_3), (9, .int x9_4)] dX5_timeOf_33 rfl (Nat.le_of_ble_eq_true rfl) rfl ?_
    refine zV_aload_n (n := 36) C0 1 dX5_timeOf_35 rfl rfl ?_
    refine zV_aload_n (n := 37) C0 2 dX5_timeOf_36 rfl rfl ?_
    refine zV_iload_n (n := 38) C0 4 dX5_timeOf_37 rfl rfl ?_
    refine zV_iload (n := 40) C0 8 dX5_timeOf_38 rfl rfl ?_
    refine zV_iload (n := 42) C0 6 dX5_timeOf_40 rfl rfl ?_
    obtain ⟨r_9, hc_8, h⟩ := ob_of h
    refine zV_callVI (n := 45) (st := []) (As := [.ref (ad k1), .int a3, .int x9_4, .int x7_2]) C0 (k_X5_takes k1 a3 x9_4 x7_2 hk1 S _ hc_8) gX5_timeOf_X5_takes rfl (hd_X5_takes) rfl ⟨rfl, rfl⟩ ⟨Nat.le_of_ble_eq_true rfl, Nat.le_of_ble_eq_true rfl⟩ 0 rfl rfl rfl (Nat.le_of_ble_eq_true rfl) dX5_timeOf_42 rfl ?_
    refine zV_istore (n := 47) C0 [(11, .int r_9), (10, .int r_7), (0, .ref q), (1, .ref (ad k1)), (2, .int a2), (3, .int a3), (6, .int x6_1), (7, .int x7_2), (8, .int x8_3), (9, .int x9_4)] dX5_timeOf_45 rfl (Nat.le_of_ble_eq_true rfl) rfl ?_
    refine zV_aload_n (n := 48) C0 3 dX5_timeOf_47 rfl rfl ?_
    refine zV_iconst (n := 49) (v := (0 : Int32)) C0 dX5_timeOf_48 rfl rfl ?_
    refine zV_iconst (n := 50) (v := (4 : Int32)) C0 dX5_timeOf_49 rfl rfl ?_
    refine zV_iload_n (n := 51) C0 4 dX5_timeOf_50 rfl rfl ?_
    refine zV_imul (n := 52) C0 dX5_timeOf_51  rfl ?_
    refine zV_iadd (n := 53) C0 dX5_timeOf_52  rfl ?_
    refine zV_iload (n := 55) C0 6 dX5_timeOf_53 rfl rfl ?_
    refine zV_iadd (n := 56) C0 dX5_timeOf_55  rfl ?_
    obtain ⟨hg_10, h⟩ := gd_of h
    refine zV_iald (n := 57) C0 (k1 - 8) 0 (wM_at cI cZ q ad S hk1) rfl hg_10 dX5_timeOf_56 rfl ?_
    refine zV_topi (fun x12_11 ex12_11 => ?_)
    replace h := zlet_of ex12_11 h
    clear ex12_11
    refine zV_istore (n := 59) C0 [(12, .int x12_11), (11, .int r_9), (10, .int r_7), (0, .ref q), (1, .ref (ad k1)), (2, .int a2), (3, .int a3), (6, .int x6_1), (7, .int x7_2), (8, .int x8_3), (9, .int x9_4)] dX5_timeOf_57 rfl (Nat.le_of_ble_eq_true rfl) rfl ?_
    refine zV_aload_n (n := 60) C0 4 dX5_timeOf_59 rfl rfl ?_
    refine zV_iconst (n := 61) (v := (0 : Int32)) C0 dX5_timeOf_60 rfl rfl ?_
    refine zV_iconst (n := 62) (v := (4 : Int32)) C0 dX5_timeOf_61 rfl rfl ?_
    refine zV_iload_n (n := 63) C0 6 dX5_timeOf_62 rfl rfl ?_
    refine zV_imul (n := 64) C0 dX5_timeOf_63  rfl ?_
    refine zV_iadd (n := 65) C0 dX5_timeOf_64  rfl ?_
    refine zV_iload (n := 67) C0 8 dX5_timeOf_65 rfl rfl ?_
    refine zV_iadd (n := 68) C0 dX5_timeOf_67  rfl ?_
    obtain ⟨hg_12, h⟩ := gd_of h
    refine zV_iald (n := 69) C0 (k1 - 8) 0 (wM_at cI cZ q ad S hk1) rfl hg_12 dX5_timeOf_68 rfl ?_
    refine zV_topi (fun x13_13 ex13_13 => ?_)
    replace h := zlet_of ex13_13 h
    clear ex13_13
    refine zV_istore (n := 71) C0 [(13, .int x13_13), (12, .int x12_11), (11, .int r_9), (10, .int r_7), (0, .ref q), (1, .ref (ad k1)), (2, .int a2), (3, .int a3), (6, .int x6_1), (7, .int x7_2), (8, .int x8_3), (9, .int x9_4)] dX5_timeOf_69 rfl (Nat.le_of_ble_eq_true rfl) rfl ?_
    refine zV_iload (n := 73) C0 10 dX5_timeOf_71 rfl rfl ?_
    refine zV_iload (n := 75) C0 3 dX5_timeOf_73 rfl rfl ?_
    refine zV_iload (n := 77) C0 2 dX5_timeOf_75 rfl rfl ?_
    refine zjoin_of h (fun k_15 hk_15 h => ?_)
    have Jk_15 : ∀ (s_14 : Int32), k_15 (s_14) = some r → zV E (wM cI cZ q ad) 14 S 87 [(0, .ref q), (1, .ref (ad k1)), (2, .int a2), (3, .int a3), (6, .int x6_1), (7, .int x7_2), (9, .int x9_4), (12, .int x12_11), (13, .int x13_13)] [.int s_14, .int x8_3] := by
      intro s_14 h
      replace h := hk_15 _ h
      refine zV_iload (n := 89) C0 7 dX5_timeOf_87 rfl rfl ?_
      refine zV_iload (n := 91) C0 8 dX5_timeOf_89 rfl rfl ?_
      refine zjoin_of h (fun k_17 hk_17 h => ?_)
      have Jk_17 : ∀ (s_16 : Int32), k_17 (s_16) = some r → zV E (wM cI cZ q ad) 14 S 99 [(0, .ref q), (1, .ref (ad k1)), (2, .int a2), (3, .int a3), (6, .int x6_1), (7, .int x7_2), (9, .int x9_4), (12, .int x12_11), (13, .int x13_13)] [.int s_16, .int s_14, .int x8_3] := by
        intro s_16 h
        replace h := hk_17 _ h
        refine zV_iadd (n := 100) C0 dX5_timeOf_99  rfl ?_
        refine zV_iadd (n := 101) C0 dX5_timeOf_100  rfl ?_
        refine zV_topi (fun x8_18 ex8_18 => ?_)
        replace h := zlet_of ex8_18 h
        clear ex8_18
        refine zV_istore (n := 103) C0 [(8, .int x8_18), (0, .ref q), (1, .ref (ad k1)), (2, .int a2), (3, .int a3), (6, .int x6_1), (7, .int x7_2), (9, .int x9_4), (12, .int x12_11), (13, .int x13_13)] dX5_timeOf_101 rfl (Nat.le_of_ble_eq_true rfl) rfl ?_
        refine zV_iload (n := 105) C0 5 dX5_timeOf_103 rfl rfl ?_
        refine zV_iload (n := 107) C0 8 dX5_timeOf_105 rfl rfl ?_
        obtain ⟨r_20, hc_19, h⟩ := ob_of h
        refine zV_callS0 (n := 110) (st := []) (As := [.int x6_1, .int x12_11]) C0 (k_X5_next x6_1 x12_11 _ hc_19) gX5_timeOf_X5_next rfl (hd_X5_next) rfl ⟨rfl, rfl⟩ ⟨Nat.le_of_ble_eq_true rfl, Nat.le_of_ble_eq_true rfl⟩ rfl (Nat.le_of_ble_eq_true rfl) dX5_timeOf_107 rfl ?_
        refine zV_istore (n := 112) C0 [(6, .int r_20), (8, .int x8_18), (0, .ref q), (1, .ref (ad k1)), (2, .int a2), (3, .int a3), (7, .int x7_2), (9, .int x9_4), (12, .int x12_11), (13, .int x13_13)] dX5_timeOf_110 rfl (Nat.le_of_ble_eq_true rfl) rfl ?_
        refine zV_iload (n := 114) C0 6 dX5_timeOf_112 rfl rfl ?_
        refine zV_iload (n := 116) C0 9 dX5_timeOf_114 rfl rfl ?_
        obtain ⟨r_22, hc_21, h⟩ := ob_of h
        refine zV_callS0 (n := 119) (st := []) (As := [.int x7_2, .int x13_13]) C0 (k_X5_next x7_2 x13_13 _ hc_21) gX5_timeOf_X5_next rfl (hd_X5_next) rfl ⟨rfl, rfl⟩ ⟨Nat.le_of_ble_eq_true rfl, Nat.le_of_ble_eq_true rfl⟩ rfl (Nat.le_of_ble_eq_true rfl) dX5_timeOf_116 rfl ?_
        refine zV_istore (n := 121) C0 [(7, .int r_22), (6, .int r_20), (8, .int x8_18), (0, .ref q), (1, .ref (ad k1)), (2, .int a2), (3, .int a3), (9, .int x9_4), (12, .int x12_11), (13, .int x13_13)] dX5_timeOf_119 rfl (Nat.le_of_ble_eq_true rfl) rfl ?_
        refine zV_iinc (n := 124) C0 7 (v := (x9_4 + (1 : Int32))) [(9, .int (x9_4 + (1 : Int32))), (7, .int r_22), (6, .int r_20), (8, .int x8_18), (0, .ref q), (1, .ref (ad k1)), (2, .int a2), (3, .int a3), (12, .int x12_11), (13, .int x13_13)] dX5_timeOf_121 rfl rfl rfl (Nat.le_of_ble_eq_true rfl) rfl ?_
        refine zV_goto (tgt := 14) C0 dX5_timeOf_124 rfl ?_
        refine zV_sub [4, 5, 6, 7, 2, 1, 3, 0] rfl ?_
        exact Jrec_5 r_20 r_22 x8_18 (x9_4 + (1 : Int32)) h
      clear hk_17
      refine zV_icmp_ne (tgt := 98) (n := 94) C0 dX5_timeOf_91 rfl rfl (fun hb_23 => ?_) (fun hb_23 => ?_)
      · replace h := if_f hb_23 h
        refine zV_iconst (n := 99) (v := (1 : Int32)) C0 dX5_timeOf_98 rfl rfl ?_
        exact Jk_17 (1 : Int32) h
      · replace h := if_t hb_23 h
        refine zV_iconst (n := 95) (v := (0 : Int32)) C0 dX5_timeOf_94 rfl rfl ?_
        refine zV_goto (tgt := 99) C0 dX5_timeOf_95 rfl ?_
        exact Jk_17 (0 : Int32) h
    clear hk_15
    refine zV_icmp_le (tgt := 85) (n := 80) C0 dX5_timeOf_77 rfl rfl (fun hb_24 => ?_) (fun hb_24 => ?_)
    · replace h := if_t hb_24 h
      refine zV_iload (n := 87) C0 2 dX5_timeOf_85 rfl rfl ?_
      refine zV_sub [4, 5, 6, 7, 8, 9, 11, 1, 0] rfl ?_
      exact Jk_15 r_9 h
    · replace h := if_f hb_24 h
      refine zV_iload (n := 82) C0 3 dX5_timeOf_80 rfl rfl ?_
      refine zV_goto (tgt := 87) C0 dX5_timeOf_82 rfl ?_
      refine zV_sub [4, 5, 6, 7, 8, 9, 11, 1, 0] rfl ?_
      exact Jk_15 r_7 h
set_option maxRecDepth 20000 in
theorem mX5_about_0 : Cond.fieldLink RX5 63 "LeggedThroughModel" "thrown" "I" ∈ wsX5_about := by decide +kernel
set_option maxRecDepth 20000 in
theorem mX5_about_1 : Cond.fieldLink RX5 13 "LeggedThroughModel" "steps" "I" ∈ wsX5_about := by decide +kernel
set_option maxRecDepth 20000 in
theorem mX5_about_2 : Cond.fieldLink RX5 66 "LeggedThroughModel" "leggers" "I" ∈ wsX5_about := by decide +kernel
set_option maxRecDepth 20000 in
theorem mX5_about_3 : Cond.fieldLink RX5 73 "LeggedThroughModel" "boats" "I" ∈ wsX5_about := by decide +kernel
set_option maxRecDepth 20000 in
theorem mX5_about_4 : Cond.fieldLink RX5 29 "LeggedThroughModel" "page" "[I" ∈ wsX5_about := by decide +kernel
set_option maxRecDepth 20000 in
theorem mX5_about_5 : Cond.fieldLink RX5 107 "LeggedThroughModel" "acts" "I" ∈ wsX5_about := by decide +kernel
set_option maxRecDepth 20000 in
theorem mX5_about_6 : Cond.fieldLink RX5 121 "LeggedThroughModel" "seen" "I" ∈ wsX5_about := by decide +kernel
set_option maxRecDepth 20000 in
theorem mX5_about_7 : Cond.fieldLink RX5 78 "LeggedThroughModel" "textSize" "I" ∈ wsX5_about := by decide +kernel
set_option maxRecDepth 20000 in
theorem hinX5_about_X5 : ∀ w ∈ u_ws RX5 TX5 37, w ∈ wsX5_about := fun w h => List.mem_cons_of_mem _ (List.mem_append_right _ h)
set_option maxRecDepth 20000 in
set_option maxHeartbeats 4000000 in
theorem k_X5_about {l : Launch} {D : va_G} {cI cZ : ClassId} {q : Nat} {ad : Nat → Nat} (a1 : Int32)  (S : zS) (r : Int32 × zS) (h : f_X5_about a1 S = some r) : zI l yX5_about wsX5_about (zRm 0 0) D (zty cI cZ) zNw (wM cI cZ q ad) [.ref q, .int a1] S r := by
  refine zI_of (cc := cX5_about) (maxL := 2) (ty := .int) (by decide +kernel) rfl (Nat.le_of_ble_eq_true rfl) zNw_ok (fun E hE1 hE2 C0 hR => ?_)
  subst hE1; subst hE2
  replace C0 : zCx E (zRm 0 0) cX5_about 2 RX5 wsX5_about (zty cI cZ) zNw := C0
  show zV E (wM cI cZ q ad) 2 S 0 [(0, .ref q), (1, .int a1)] []
  delta f_X5_about at h
  refine zV_aload_n (n := 1) C0 0 dX5_about_0 rfl rfl ?_
  refine zV_iconst (n := 2) (v := (0 : Int32)) C0 dX5_about_1 rfl rfl ?_
  refine zV_put (n := 5) (ref := RX5) C0 hinX5_about_X5 0 rfl rfl 0 (Nat.le_of_ble_eq_true rfl) mX5_about_0 rfl tyX5 tyX5_ok nmX5 rfl (tyX5_ok 0 (Nat.le_of_ble_eq_true rfl)) rfl rfl (Nat.le_of_ble_eq_true rfl) (upd S.1 0 (0 : Int32), S.2) (wM_f0 cI cZ q ad S (0 : Int32)) dX5_about_2 rfl ?_
  refine zV_topS (fun S_1 eS_1 => ?_)
  replace h := zlet_of eS_1 h
  clear eS_1
  refine zV_iload_n (n := 6) C0 1 dX5_about_5 rfl rfl ?_
  by_cases hs_2 : a1 = (0 : Int32)
  · replace h := if_t hs_2 h
    refine zV_tableIn (off := 46) (tgt := 52) C0 dX5_about_6 (by rw [hs_2]; decide) (by rw [hs_2]; decide) (by rw [hs_2]; rfl) rfl ?_
    refine zV_aload_n (n := 53) C0 0 dX5_about_52 rfl rfl ?_
    refine zV_get (n := 56) (ref := RX5) C0 hinX5_about_X5 0 rfl rfl 4 (Nat.le_of_ble_eq_true rfl) mX5_about_1 rfl rfl dX5_about_53 rfl ?_
    exact zretI hR h rfl dX5_about_56
  replace h := if_f hs_2 h
  by_cases hs_3 : a1 = (1 : Int32)
  · replace h := if_t hs_3 h
    refine zV_tableIn (off := 51) (tgt := 57) C0 dX5_about_6 (by rw [hs_3]; decide) (by rw [hs_3]; decide) (by rw [hs_3]; rfl) rfl ?_
    refine zV_aload_n (n := 58) C0 0 dX5_about_57 rfl rfl ?_
    refine zV_get (n := 61) (ref := RX5) C0 hinX5_about_X5 0 rfl rfl 5 (Nat.le_of_ble_eq_true rfl) mX5_about_2 rfl rfl dX5_about_58 rfl ?_
    exact zretI hR h rfl dX5_about_61
  replace h := if_f hs_3 h
  by_cases hs_4 : a1 = (2 : Int32)
  · replace h := if_t hs_4 h
    refine zV_tableIn (off := 56) (tgt := 62) C0 dX5_about_6 (by rw [hs_4]; decide) (by rw [hs_4]; decide) (by rw [hs_4]; rfl) rfl ?_
    refine zV_aload_n (n := 63) C0 0 dX5_about_62 rfl rfl ?_
    refine zV_get (n := 66) (ref := RX5) C0 hinX5_about_X5 0 rfl rfl 7 (Nat.le_of_ble_eq_true rfl) mX5_about_3 rfl rfl dX5_about_63 rfl ?_
    exact zretI hR h rfl dX5_about_66
  replace h := if_f hs_4 h
  by_cases hs_5 : a1 = (3 : Int32)
  · replace h := if_t hs_5 h
    refine zV_tableIn (off := 61) (tgt := 67) C0 dX5_about_6 (by rw [hs_5]; decide) (by rw [hs_5]; decide) (by rw [hs_5]; rfl) rfl ?_
    refine zV_aload_n (n := 68) C0 0 dX5_about_67 rfl rfl ?_
    refine zV_get (n := 71) (ref := RX5) C0 hinX5_about_X5 0 rfl rfl 14 (Nat.le_of_ble_eq_true rfl) mX5_about_4 rfl rfl dX5_about_68 rfl ?_
    refine zV_bipush (n := 73) (v := (20 : Int32)) C0 dX5_about_71 rfl rfl ?_
    obtain ⟨hg_6, h⟩ := gd_of h
    refine zV_iald (n := 74) C0 6 0 rfl rfl hg_6 dX5_about_73 rfl ?_
    exact zretI hR h rfl dX5_about_74
  replace h := if_f hs_5 h
  by_cases hs_7 : a1 = (4 : Int32)
  · replace h := if_t hs_7 h
    refine zV_tableIn (off := 69) (tgt := 75) C0 dX5_about_6 (by rw [hs_7]; decide) (by rw [hs_7]; decide) (by rw [hs_7]; rfl) rfl ?_
    refine zV_aload_n (n := 76) C0 0 dX5_about_75 rfl rfl ?_
    refine zV_get (n := 79) (ref := RX5) C0 hinX5_about_X5 0 rfl rfl 14 (Nat.le_of_ble_eq_true rfl) mX5_about_4 rfl rfl dX5_about_76 rfl ?_
    refine zV_bipush (n := 81) (v := (21 : Int32)) C0 dX5_about_79 rfl rfl ?_
    obtain ⟨hg_8, h⟩ := gd_of h
    refine zV_iald (n := 82) C0 6 0 rfl rfl hg_8 dX5_about_81 rfl ?_
    exact zretI hR h rfl dX5_about_82
  replace h := if_f hs_7 h
  by_cases hs_9 : a1 = (5 : Int32)
  · replace h := if_t hs_9 h
    refine zV_tableIn (off := 77) (tgt := 83) C0 dX5_about_6 (by rw [hs_9]; decide) (by rw [hs_9]; decide) (by rw [hs_9]; rfl) rfl ?_
    refine zV_aload_n (n := 84) C0 0 dX5_about_83 rfl rfl ?_
    refine zV_get (n := 87) (ref := RX5) C0 hinX5_about_X5 0 rfl rfl 18 (Nat.le_of_ble_eq_true rfl) mX5_about_5 rfl rfl dX5_about_84 rfl ?_
    exact zretI hR h rfl dX5_about_87
  replace h := if_f hs_9 h
  by_cases hs_10 : a1 = (6 : Int32)
  · replace h := if_t hs_10 h
    refine zV_tableIn (off := 82) (tgt := 88) C0 dX5_about_6 (by rw [hs_10]; decide) (by rw [hs_10]; decide) (by rw [hs_10]; rfl) rfl ?_
    refine zV_aload_n (n := 89) C0 0 dX5_about_88 rfl rfl ?_
    refine zV_get (n := 92) (ref := RX5) C0 hinX5_about_X5 0 rfl rfl 21 (Nat.le_of_ble_eq_true rfl) mX5_about_6 rfl rfl dX5_about_89 rfl ?_
    exact zretI hR h rfl dX5_about_92
  replace h := if_f hs_10 h
  by_cases hs_11 : a1 = (7 : Int32)
  · replace h := if_t hs_11 h
    refine zV_tableIn (off := 87) (tgt := 93) C0 dX5_about_6 (by rw [hs_11]; decide) (by rw [hs_11]; decide) (by rw [hs_11]; rfl) rfl ?_
    refine zV_aload_n (n := 94) C0 0 dX5_about_93 rfl rfl ?_
    refine zV_get (n := 97) (ref := RX5) C0 hinX5_about_X5 0 rfl rfl 2 (Nat.le_of_ble_eq_true rfl) mX5_about_7 rfl rfl dX5_about_94 rfl ?_
    exact zretI hR h rfl dX5_about_97
  replace h := if_f hs_11 h
  refine zV_tableOut (tgt := 98) C0 dX5_about_6 (by have qhs_2 := zne (0 : Int32) (n := 0) rfl hs_2; have qhs_3 := zne (1 : Int32) (n := 1) rfl hs_3; have qhs_4 := zne (2 : Int32) (n := 2) rfl hs_4; have qhs_5 := zne (3 : Int32) (n := 3) rfl hs_5; have qhs_7 := zne (4 : Int32) (n := 4) rfl hs_7; have qhs_9 := zne (5 : Int32) (n := 5) rfl hs_9; have qhs_10 := zne (6 : Int32) (n := 6) rfl hs_10; have qhs_11 := zne (7 : Int32) (n := 7) rfl hs_11; omega) rfl ?_
  refine zV_bipush (n := 100) (v := (-2 : Int32)) C0 dX5_about_98 rfl rfl ?_
  exact zretI hR h rfl dX5_about_100
set_option maxRecDepth 20000 in
theorem mX5_legger_0 : Cond.fieldLink RX5 63 "LeggedThroughModel" "thrown" "I" ∈ wsX5_legger := by decide +kernel
set_option maxRecDepth 20000 in
theorem mX5_legger_1 : Cond.constantLong RX5 128 (3 : Int64) ∈ wsX5_legger := by decide +kernel
set_option maxRecDepth 20000 in
theorem mX5_legger_2 : Cond.fieldLink RX5 29 "LeggedThroughModel" "page" "[I" ∈ wsX5_legger := by decide +kernel
set_option maxRecDepth 20000 in
theorem mX5_legger_3 : Cond.fieldLink RX5 17 "LeggedThroughModel" "kind" "[I" ∈ wsX5_legger := by decide +kernel
set_option maxRecDepth 20000 in
theorem hinX5_legger_X5 : ∀ w ∈ u_ws RX5 TX5 37, w ∈ wsX5_legger := fun w h => List.mem_cons_of_mem _ (List.mem_append_right _ h)
set_option maxRecDepth 20000 in
set_option maxHeartbeats 4000000 in
theorem k_X5_legger {l : Launch} {D : va_G} {cI cZ : ClassId} {q : Nat} {ad : Nat → Nat} (a1 : Int32) (a2 : Int32)  (S : zS) (r : Int32 × zS) (h : f_X5_legger a1 a2 S = some r) : zI l yX5_legger wsX5_legger (zRm 2 46) D (zty cI cZ) zNw (wM cI cZ q ad) [.ref q, .int a1, .int a2] S r := by
  refine zI_of (cc := cX5_legger) (maxL := 3) (ty := .int) (by decide +kernel) rfl (Nat.le_of_ble_eq_true rfl) zNw_ok (fun E hE1 hE2 C0 hR => ?_)
  subst hE1; subst hE2
  replace C0 : zCx E (zRm 2 46) cX5_legger 3 RX5 wsX5_legger (zty cI cZ) zNw := C0
  show zV E (wM cI cZ q ad) 3 S 0 [(0, .ref q), (1, .int a1), (2, .int a2)] []
  delta f_X5_legger at h
  refine zV_aload_n (n := 1) C0 0 dX5_legger_0 rfl rfl ?_
  refine zV_iconst (n := 2) (v := (0 : Int32)) C0 dX5_legger_1 rfl rfl ?_
  refine zV_put (n := 5) (ref := RX5) C0 hinX5_legger_X5 0 rfl rfl 0 (Nat.le_of_ble_eq_true rfl) mX5_legger_0 rfl tyX5 tyX5_ok nmX5 rfl (tyX5_ok 0 (Nat.le_of_ble_eq_true rfl)) rfl rfl (Nat.le_of_ble_eq_true rfl) (upd S.1 0 (0 : Int32), S.2) (wM_f0 cI cZ q ad S (0 : Int32)) dX5_legger_2 rfl ?_
  refine zV_topS (fun S_1 eS_1 => ?_)
  replace h := zlet_of eS_1 h
  clear eS_1
  refine zV_aload_n (n := 6) C0 0 dX5_legger_5 rfl rfl ?_
  refine zV_iload_n (n := 7) C0 1 dX5_legger_6 rfl rfl ?_
  obtain ⟨r_3, hc_2, h⟩ := ob_of h
  refine zV_callVI (n := 10) (st := []) (As := [.int a1]) C0 (k_X5_noLegger a1 S_1 _ hc_2) gX5_legger_X5_noLegger rfl (hd_X5_noLegger) rfl ⟨rfl, rfl⟩ ⟨Nat.le_of_ble_eq_true rfl, Nat.le_of_ble_eq_true rfl⟩ 0 rfl rfl rfl (Nat.le_of_ble_eq_true rfl) dX5_legger_7 rfl ?_
  refine zV_if_eq (tgt := 15) (n := 13) C0 dX5_legger_10 rfl rfl (fun hb_14 => ?_) (fun hb_14 => ?_)
  · replace h := if_t hb_14 h
    refine zV_iload_n (n := 16) C0 2 dX5_legger_15 rfl rfl ?_
    refine zV_i2l (n := 17) C0 dX5_legger_16  rfl ?_
    refine zV_lconst (n := 18) (v := (0 : Int64)) C0 dX5_legger_17 rfl rfl ?_
    refine zV_ldc2 (n := 21) (v := (3 : Int64)) C0 dX5_legger_18 mX5_legger_1 rfl ?_
    obtain ⟨r_5, hc_4, h⟩ := ob_of h
    refine zV_callS0 (n := 24) (st := []) (As := [.long a2.toInt64, .long (0 : Int64), .long (3 : Int64)]) C0 (k_X5_in a2.toInt64 (0 : Int64) (3 : Int64) _ hc_4) gX5_legger_X5_in rfl (hd_X5_in) rfl ⟨rfl, rfl⟩ ⟨Nat.le_of_ble_eq_true rfl, Nat.le_of_ble_eq_true rfl⟩ rfl (Nat.le_of_ble_eq_true rfl) dX5_legger_21 rfl ?_
    refine zV_if_eq (tgt := 40) (n := 27) C0 dX5_legger_24 rfl rfl (fun hb_13 => ?_) (fun hb_13 => ?_)
    · replace h := if_t hb_13 h
      refine zV_iload_n (n := 41) C0 2 dX5_legger_40 rfl rfl ?_
      refine zV_iconst (n := 42) (v := (4 : Int32)) C0 dX5_legger_41 rfl rfl ?_
      refine zjoin_of h (fun k_7 hk_7 h => ?_)
      have Jk_7 : ∀ (s_6 : Int32), k_7 (s_6) = some r → zV E (wM cI cZ q ad) 3 S_1 73 [] [.int s_6] := by
        intro s_6 h
        replace h := hk_7 _ h
        exact zretI hR h rfl dX5_legger_73
      clear hk_7
      refine zV_icmp_ne (tgt := 54) (n := 45) C0 dX5_legger_42 rfl rfl (fun hb_11 => ?_) (fun hb_11 => ?_)
      · replace h := if_f hb_11 h
        refine zV_iload_n (n := 55) C0 2 dX5_legger_54 rfl rfl ?_
        refine zV_iconst (n := 56) (v := (5 : Int32)) C0 dX5_legger_55 rfl rfl ?_
        refine zV_icmp_ne (tgt := 71) (n := 59) C0 dX5_legger_56 rfl rfl (fun hb_9 => ?_) (fun hb_9 => ?_)
        · replace h := if_f hb_9 h
          refine zV_bipush (n := 73) (v := (-2 : Int32)) C0 dX5_legger_71 rfl rfl ?_
          refine zV_sub [] rfl ?_
          exact Jk_7 (-2 : Int32) h
        · replace h := if_t hb_9 h
          refine zV_aload_n (n := 60) C0 0 dX5_legger_59 rfl rfl ?_
          refine zV_get (n := 63) (ref := RX5) C0 hinX5_legger_X5 0 rfl rfl 14 (Nat.le_of_ble_eq_true rfl) mX5_legger_2 rfl rfl dX5_legger_60 rfl ?_
          refine zV_bipush (n := 65) (v := (16 : Int32)) C0 dX5_legger_63 rfl rfl ?_
          refine zV_iload_n (n := 66) C0 1 dX5_legger_65 rfl rfl ?_
          refine zV_iadd (n := 67) C0 dX5_legger_66  rfl ?_
          obtain ⟨hg_8, h⟩ := gd_of h
          refine zV_iald (n := 68) C0 6 0 rfl rfl hg_8 dX5_legger_67 rfl ?_
          refine zV_goto (tgt := 73) C0 dX5_legger_68 rfl ?_
          refine zV_sub [] rfl ?_
          exact Jk_7 (S_1.2.2 14 (((16 : Int32) + a1)).toNatClampNeg) h
      · replace h := if_t hb_11 h
        refine zV_aload_n (n := 46) C0 0 dX5_legger_45 rfl rfl ?_
        refine zV_get (n := 49) (ref := RX5) C0 hinX5_legger_X5 0 rfl rfl 6 (Nat.le_of_ble_eq_true rfl) mX5_legger_3 rfl rfl dX5_legger_46 rfl ?_
        refine zV_iload_n (n := 50) C0 1 dX5_legger_49 rfl rfl ?_
        obtain ⟨hg_10, h⟩ := gd_of h
        refine zV_iald (n := 51) C0 2 0 rfl rfl hg_10 dX5_legger_50 rfl ?_
        refine zV_goto (tgt := 73) C0 dX5_legger_51 rfl ?_
        refine zV_sub [] rfl ?_
        exact Jk_7 (S_1.2.2 6 (a1).toNatClampNeg) h
    · replace h := if_f hb_13 h
      refine zV_aload_n (n := 28) C0 0 dX5_legger_27 rfl rfl ?_
      refine zV_get (n := 31) (ref := RX5) C0 hinX5_legger_X5 0 rfl rfl 14 (Nat.le_of_ble_eq_true rfl) mX5_legger_2 rfl rfl dX5_legger_28 rfl ?_
      refine zV_iconst (n := 32) (v := (0 : Int32)) C0 dX5_legger_31 rfl rfl ?_
      refine zV_iconst (n := 33) (v := (4 : Int32)) C0 dX5_legger_32 rfl rfl ?_
      refine zV_iload_n (n := 34) C0 1 dX5_legger_33 rfl rfl ?_
      refine zV_imul (n := 35) C0 dX5_legger_34  rfl ?_
      refine zV_iadd (n := 36) C0 dX5_legger_35  rfl ?_
      refine zV_iload_n (n := 37) C0 2 dX5_legger_36 rfl rfl ?_
      refine zV_iadd (n := 38) C0 dX5_legger_37  rfl ?_
      obtain ⟨hg_12, h⟩ := gd_of h
      refine zV_iald (n := 39) C0 6 0 rfl rfl hg_12 dX5_legger_38 rfl ?_
      exact zretI hR h rfl dX5_legger_39
  · replace h := if_f hb_14 h
    refine zV_iconst (n := 14) (v := (-1 : Int32)) C0 dX5_legger_13 rfl rfl ?_
    exact zretI hR h rfl dX5_legger_14
set_option maxRecDepth 20000 in
theorem mX5_load_0 : Cond.fieldLink RX5 63 "LeggedThroughModel" "thrown" "I" ∈ wsX5_load := by decide +kernel
set_option maxRecDepth 20000 in
theorem mX5_load_1 : Cond.fieldLink RX5 20 "LeggedThroughModel" "load" "[I" ∈ wsX5_load := by decide +kernel
set_option maxRecDepth 20000 in
theorem hinX5_load_X5 : ∀ w ∈ u_ws RX5 TX5 37, w ∈ wsX5_load := fun w h => List.mem_cons_of_mem _ (List.mem_append_right _ h)
set_option maxRecDepth 20000 in
set_option maxHeartbeats 4000000 in
theorem k_X5_load {l : Launch} {D : va_G} {cI cZ : ClassId} {q : Nat} {ad : Nat → Nat} (a1 : Int32)  (S : zS) (r : Int32 × zS) (h : f_X5_load a1 S = some r) : zI l yX5_load wsX5_load (zRm 2 46) D (zty cI cZ) zNw (wM cI cZ q ad) [.ref q, .int a1] S r := by
  refine zI_of (cc := cX5_load) (maxL := 2) (ty := .int) (by decide +kernel) rfl (Nat.le_of_ble_eq_true rfl) zNw_ok (fun E hE1 hE2 C0 hR => ?_)
  subst hE1; subst hE2
  replace C0 : zCx E (zRm 2 46) cX5_load 2 RX5 wsX5_load (zty cI cZ) zNw := C0
  show zV E (wM cI cZ q ad) 2 S 0 [(0, .ref q), (1, .int a1)] []
  delta f_X5_load at h
  refine zV_aload_n (n := 1) C0 0 dX5_load_0 rfl rfl ?_
  refine zV_iconst (n := 2) (v := (0 : Int32)) C0 dX5_load_1 rfl rfl ?_
  refine zV_put (n := 5) (ref := RX5) C0 hinX5_load_X5 0 rfl rfl 0 (Nat.le_of_ble_eq_true rfl) mX5_load_0 rfl tyX5 tyX5_ok nmX5 rfl (tyX5_ok 0 (Nat.le_of_ble_eq_true rfl)) rfl rfl (Nat.le_of_ble_eq_true rfl) (upd S.1 0 (0 : Int32), S.2) (wM_f0 cI cZ q ad S (0 : Int32)) dX5_load_2 rfl ?_
  refine zV_topS (fun S_1 eS_1 => ?_)
  replace h := zlet_of eS_1 h
  clear eS_1
  refine zV_aload_n (n := 6) C0 0 dX5_load_5 rfl rfl ?_
  refine zV_iload_n (n := 7) C0 1 dX5_load_6 rfl rfl ?_
  obtain ⟨r_3, hc_2, h⟩ := ob_of h
  refine zV_callVI (n := 10) (st := []) (As := [.int a1]) C0 (k_X5_noBoat a1 S_1 _ hc_2) gX5_load_X5_noBoat rfl (hd_X5_noBoat) rfl ⟨rfl, rfl⟩ ⟨Nat.le_of_ble_eq_true rfl, Nat.le_of_ble_eq_true rfl⟩ 0 rfl rfl rfl (Nat.le_of_ble_eq_true rfl) dX5_load_7 rfl ?_
  refine zjoin_of h (fun k_5 hk_5 h => ?_)
  have Jk_5 : ∀ (s_4 : Int32), k_5 (s_4) = some r → zV E (wM cI cZ q ad) 2 S_1 23 [] [.int s_4] := by
    intro s_4 h
    replace h := hk_5 _ h
    exact zretI hR h rfl dX5_load_23
  clear hk_5
  refine zV_if_eq (tgt := 17) (n := 13) C0 dX5_load_10 rfl rfl (fun hb_7 => ?_) (fun hb_7 => ?_)
  · replace h := if_t hb_7 h
    refine zV_aload_n (n := 18) C0 0 dX5_load_17 rfl rfl ?_
    refine zV_get (n := 21) (ref := RX5) C0 hinX5_load_X5 0 rfl rfl 8 (Nat.le_of_ble_eq_true rfl) mX5_load_1 rfl rfl dX5_load_18 rfl ?_
    refine zV_iload_n (n := 22) C0 1 dX5_load_21 rfl rfl ?_
    obtain ⟨hg_6, h⟩ := gd_of h
    refine zV_iald (n := 23) C0 3 0 rfl rfl hg_6 dX5_load_22 rfl ?_
    refine zV_sub [] rfl ?_
    exact Jk_5 (S_1.2.2 8 (a1).toNatClampNeg) h
  · replace h := if_f hb_7 h
    refine zV_iconst (n := 14) (v := (-1 : Int32)) C0 dX5_load_13 rfl rfl ?_
    refine zV_goto (tgt := 23) C0 dX5_load_14 rfl ?_
    refine zV_sub [] rfl ?_
    exact Jk_5 (-1 : Int32) h
set_option maxRecDepth 20000 in
theorem mX5_note_0 : Cond.fieldLink RX5 107 "LeggedThroughModel" "acts" "I" ∈ wsX5_note := by decide +kernel
set_option maxRecDepth 20000 in
theorem mX5_note_1 : Cond.fieldLink RX5 38 "LeggedThroughModel" "book" "[I" ∈ wsX5_note := by decide +kernel
set_option maxRecDepth 20000 in
theorem mX5_note_2 : Cond.fieldLink RX5 29 "LeggedThroughModel" "page" "[I" ∈ wsX5_note := by decide +kernel
set_option maxRecDepth 20000 in
theorem hinX5_note_X5 : ∀ w ∈ u_ws RX5 TX5 37, w ∈ wsX5_note := fun w h => List.mem_cons_of_mem _ (List.mem_append_right _ h)
set_option maxRecDepth 20000 in
set_option maxHeartbeats 4000000 in
theorem k_X5_note {l : Launch} {D : va_G} {cI cZ : ClassId} {q : Nat} {ad : Nat → Nat}   (S : zS) (r : zS) (h : f_X5_note  S = some r) : zU l yX5_note wsX5_note (zRm 0 0) D (zty cI cZ) zNw (wM cI cZ q ad) [.ref q] S r := by
  refine zU_of (cc := cX5_note) (maxL := 2)  (by decide +kernel) rfl (Nat.le_of_ble_eq_true rfl) zNw_ok (fun E hE1 hE2 C0 hR => ?_)
  subst hE1; subst hE2
  replace C0 : zCx E (zRm 0 0) cX5_note 2 RX5 wsX5_note (zty cI cZ) zNw := C0
  show zV E (wM cI cZ q ad) 2 S 0 [(0, .ref q)] []
  delta f_X5_note at h
  refine zV_aload_n (n := 1) C0 0 dX5_note_0 rfl rfl ?_
  refine zV_get (n := 4) (ref := RX5) C0 hinX5_note_X5 0 rfl rfl 18 (Nat.le_of_ble_eq_true rfl) mX5_note_0 rfl rfl dX5_note_1 rfl ?_
  refine zV_bipush (n := 6) (v := (14 : Int32)) C0 dX5_note_4 rfl rfl ?_
  refine zjoin_of h (fun k_2 hk_2 h => ?_)
  have Jk_2 : ∀ (S_1 : zS), k_2 (S_1) = some r → zV E (wM cI cZ q ad) 2 S_1 49 [(0, .ref q)] [] := by
    intro S_1 h
    replace h := hk_2 _ h
    refine zV_iconst (n := 50) (v := (0 : Int32)) C0 dX5_note_49 rfl rfl ?_
    refine zV_istore_n (n := 51) C0 [(1, .int (0 : Int32)), (0, .ref q)] dX5_note_50 rfl rfl (Nat.le_of_ble_eq_true rfl) rfl ?_
    refine zV_sub [1, 0] rfl ?_
    refine zfix_ind (fun e => zV E (wM cI cZ q ad) 2 e.2 51 [(0, .ref q), (1, .int e.1)] []) (fun rec_5 hrec_5 e h => ?_) zN ((0 : Int32), S_1) h
    obtain ⟨x1_3, S_4⟩ := e
    have Jrec_5 : ∀ (x1_3 : Int32) (S_4 : zS), rec_5 (x1_3, S_4) = some r → zV E (wM cI cZ q ad) 2 S_4 51 [(0, .ref q), (1, .int x1_3)] [] := fun x1_3 S_4 h => hrec_5 _ h
    clear hrec_5
    dsimp only [F_X5_note_51] at h
    show zV E (wM cI cZ q ad) 2 S_4 51 [(0, .ref q), (1, .int x1_3)] []
    refine zV_iload_n (n := 52) C0 1 dX5_note_51 rfl rfl ?_
    refine zV_bipush (n := 54) (v := (22 : Int32)) C0 dX5_note_52 rfl rfl ?_
    refine zV_icmp_ge (tgt := 83) (n := 57) C0 dX5_note_54 rfl rfl (fun hb_10 => ?_) (fun hb_10 => ?_)
    · replace h := if_t hb_10 h
      refine zV_aload_n (n := 84) C0 0 dX5_note_83 rfl rfl ?_
      refine zV_dup (n := 85) C0 dX5_note_84 rfl rfl ?_
      refine zV_get (n := 88) (ref := RX5) C0 hinX5_note_X5 0 rfl rfl 18 (Nat.le_of_ble_eq_true rfl) mX5_note_0 rfl rfl dX5_note_85 rfl ?_
      refine zV_iconst (n := 89) (v := (1 : Int32)) C0 dX5_note_88 rfl rfl ?_
      refine zV_iadd (n := 90) C0 dX5_note_89  rfl ?_
      refine zV_put (n := 93) (ref := RX5) C0 hinX5_note_X5 0 rfl rfl 18 (Nat.le_of_ble_eq_true rfl) mX5_note_0 rfl tyX5 tyX5_ok nmX5 rfl (tyX5_ok 18 (Nat.le_of_ble_eq_true rfl)) rfl rfl (Nat.le_of_ble_eq_true rfl) (upd S_4.1 18 ((S_4.1 18) + (1 : Int32)), S_4.2) (wM_f18 cI cZ q ad S_4 ((S_4.1 18) + (1 : Int32))) dX5_note_90 rfl ?_
      refine zV_topS (fun S_6 eS_6 => ?_)
      replace h := zlet_of eS_6 h
      clear eS_6
      exact zretU hR h dX5_note_93
    · replace h := if_f hb_10 h
      refine zV_aload_n (n := 58) C0 0 dX5_note_57 rfl rfl ?_
      refine zV_get (n := 61) (ref := RX5) C0 hinX5_note_X5 0 rfl rfl 17 (Nat.le_of_ble_eq_true rfl) mX5_note_1 rfl rfl dX5_note_58 rfl ?_
      refine zV_bipush (n := 63) (v := (22 : Int32)) C0 dX5_note_61 rfl rfl ?_
      refine zV_aload_n (n := 64) C0 0 dX5_note_63 rfl rfl ?_
      refine zV_get (n := 67) (ref := RX5) C0 hinX5_note_X5 0 rfl rfl 18 (Nat.le_of_ble_eq_true rfl) mX5_note_0 rfl rfl dX5_note_64 rfl ?_
      refine zV_imul (n := 68) C0 dX5_note_67  rfl ?_
      refine zV_iload_n (n := 69) C0 1 dX5_note_68 rfl rfl ?_
      refine zV_iadd (n := 70) C0 dX5_note_69  rfl ?_
      refine zV_aload_n (n := 71) C0 0 dX5_note_70 rfl rfl ?_
      refine zV_get (n := 74) (ref := RX5) C0 hinX5_note_X5 0 rfl rfl 14 (Nat.le_of_ble_eq_true rfl) mX5_note_2 rfl rfl dX5_note_71 rfl ?_
      refine zV_iload_n (n := 75) C0 1 dX5_note_74 rfl rfl ?_
      obtain ⟨hg_7, h⟩ := gd_of h
      refine zV_iald (n := 76) C0 6 0 rfl rfl hg_7 dX5_note_75 rfl ?_
      obtain ⟨hg_8, h⟩ := gd_of h
      refine zV_iast (n := 77) C0 9 0 rfl rfl hg_8 (S_4.1, S_4.2.1, zur S_4.2.2 17 (upd (S_4.2.2 17) ((((22 : Int32) * (S_4.1 18)) + x1_3)).toNatClampNeg (S_4.2.2 14 (x1_3).toNatClampNeg))) (wM_a17 cI cZ q ad S_4 (upd (S_4.2.2 17) ((((22 : Int32) * (S_4.1 18)) + x1_3)).toNatClampNeg (S_4.2.2 14 (x1_3).toNatClampNeg))) dX5_note_76 rfl ?_
      refine zV_topS (fun S_9 eS_9 => ?_)
      replace h := zlet_of eS_9 h
      clear eS_9
      refine zV_iinc (n := 80) C0 1 (v := (x1_3 + (1 : Int32))) [(1, .int (x1_3 + (1 : Int32))), (0, .ref q)] dX5_note_77 rfl rfl rfl (Nat.le_of_ble_eq_true rfl) rfl ?_
      refine zV_goto (tgt := 51) C0 dX5_note_80 rfl ?_
      refine zV_sub [1, 0] rfl ?_
      exact Jrec_5 (x1_3 + (1 : Int32)) S_9 h
  clear hk_2
  refine zV_icmp_ne (tgt := 49) (n := 9) C0 dX5_note_6 rfl rfl (fun hb_19 => ?_) (fun hb_19 => ?_)
  · replace h := if_f hb_19 h
    exact Jk_2 S h
  · replace h := if_t hb_19 h
    refine zV_iconst (n := 10) (v := (0 : Int32)) C0 dX5_note_9 rfl rfl ?_
    refine zV_istore_n (n := 11) C0 [(1, .int (0 : Int32)), (0, .ref q)] dX5_note_10 rfl rfl (Nat.le_of_ble_eq_true rfl) rfl ?_
    refine zV_sub [1, 0] rfl ?_
    refine zfix_ind (fun e => zV E (wM cI cZ q ad) 2 e.2 11 [(0, .ref q), (1, .int e.1)] []) (fun rec_13 hrec_13 e h => ?_) zN ((0 : Int32), S) h
    obtain ⟨x1_11, S_12⟩ := e
    have Jrec_13 : ∀ (x1_11 : Int32) (S_12 : zS), rec_13 (x1_11, S_12) = some r → zV E (wM cI cZ q ad) 2 S_12 11 [(0, .ref q), (1, .int x1_11)] [] := fun x1_11 S_12 h => hrec_13 _ h
    clear hrec_13
    dsimp only [F_X5_note_11] at h
    show zV E (wM cI cZ q ad) 2 S_12 11 [(0, .ref q), (1, .int x1_11)] []
    refine zV_iload_n (n := 12) C0 1 dX5_note_11 rfl rfl ?_
    refine zV_sipush (n := 15) (v := (286 : Int32)) C0 dX5_note_12 rfl rfl ?_
    refine zV_icmp_ge (tgt := 39) (n := 18) C0 dX5_note_15 rfl rfl (fun hb_18 => ?_) (fun hb_18 => ?_)
    · replace h := if_t hb_18 h
      refine zV_aload_n (n := 40) C0 0 dX5_note_39 rfl rfl ?_
      refine zV_dup (n := 41) C0 dX5_note_40 rfl rfl ?_
      refine zV_get (n := 44) (ref := RX5) C0 hinX5_note_X5 0 rfl rfl 18 (Nat.le_of_ble_eq_true rfl) mX5_note_0 rfl rfl dX5_note_41 rfl ?_
      refine zV_iconst (n := 45) (v := (1 : Int32)) C0 dX5_note_44 rfl rfl ?_
      refine zV_isub (n := 46) C0 dX5_note_45  rfl ?_
      refine zV_put (n := 49) (ref := RX5) C0 hinX5_note_X5 0 rfl rfl 18 (Nat.le_of_ble_eq_true rfl) mX5_note_0 rfl tyX5 tyX5_ok nmX5 rfl (tyX5_ok 18 (Nat.le_of_ble_eq_true rfl)) rfl rfl (Nat.le_of_ble_eq_true rfl) (upd S_12.1 18 ((S_12.1 18) - (1 : Int32)), S_12.2) (wM_f18 cI cZ q ad S_12 ((S_12.1 18) - (1 : Int32))) dX5_note_46 rfl ?_
      refine zV_topS (fun S_14 eS_14 => ?_)
      replace h := zlet_of eS_14 h
      clear eS_14
      refine zV_sub [0] rfl ?_
      exact Jk_2 S_14 h
    · replace h := if_f hb_18 h
      refine zV_aload_n (n := 19) C0 0 dX5_note_18 rfl rfl ?_
      refine zV_get (n := 22) (ref := RX5) C0 hinX5_note_X5 0 rfl rfl 17 (Nat.le_of_ble_eq_true rfl) mX5_note_1 rfl rfl dX5_note_19 rfl ?_
      refine zV_iload_n (n := 23) C0 1 dX5_note_22 rfl rfl ?_
      refine zV_aload_n (n := 24) C0 0 dX5_note_23 rfl rfl ?_
      refine zV_get (n := 27) (ref := RX5) C0 hinX5_note_X5 0 rfl rfl 17 (Nat.le_of_ble_eq_true rfl) mX5_note_1 rfl rfl dX5_note_24 rfl ?_
      refine zV_iload_n (n := 28) C0 1 dX5_note_27 rfl rfl ?_
      refine zV_bipush (n := 30) (v := (22 : Int32)) C0 dX5_note_28 rfl rfl ?_
      refine zV_iadd (n := 31) C0 dX5_note_30  rfl ?_
      obtain ⟨hg_15, h⟩ := gd_of h
      refine zV_iald (n := 32) C0 9 0 rfl rfl hg_15 dX5_note_31 rfl ?_
      obtain ⟨hg_16, h⟩ := gd_of h
      refine zV_iast (n := 33) C0 9 0 rfl rfl hg_16 (S_12.1, S_12.2.1, zur S_12.2.2 17 (upd (S_12.2.2 17) (x1_11).toNatClampNeg (S_12.2.2 17 ((x1_11 + (22 : Int32))).toNatClampNeg))) (wM_a17 cI cZ q ad S_12 (upd (S_12.2.2 17) (x1_11).toNatClampNeg (S_12.2.2 17 ((x1_11 + (22 : Int32))).toNatClampNeg))) dX5_note_32 rfl ?_
      refine zV_topS (fun S_17 eS_17 => ?_)
      replace h := zlet_of eS_17 h
      clear eS_17
      refine zV_iinc (n := 36) C0 1 (v := (x1_11 + (1 : Int32))) [(1, .int (x1_11 + (1 : Int32))), (0, .ref q)] dX5_note_33 rfl rfl rfl (Nat.le_of_ble_eq_true rfl) rfl ?_
      refine zV_goto (tgt := 11) C0 dX5_note_36 rfl ?_
      refine zV_sub [1, 0] rfl ?_
      exact Jrec_13 (x1_11 + (1 : Int32)) S_17 h
set_option maxRecDepth 20000 in
theorem mX5_goLeg_0 : Cond.fieldLink RX5 20 "LeggedThroughModel" "load" "[I" ∈ wsX5_goLeg := by decide +kernel
set_option maxRecDepth 20000 in
theorem hinX5_goLeg_X5 : ∀ w ∈ u_ws RX5 TX5 37, w ∈ wsX5_goLeg := fun w h => List.mem_cons_of_mem _ (List.mem_append_right _ h)
set_option maxRecDepth 20000 in
set_option maxHeartbeats 4000000 in
theorem k_X5_goLeg {l : Launch} {D : va_G} {cI cZ : ClassId} {q : Nat} {ad : Nat → Nat} (k1 : Nat) (a2 : Int32) (a3 : Int32) (a4 : Int32) (hk1 : mok k1) (S : zS) (r : zS) (h : f_X5_goLeg k1 a2 a3 a4 S = some r) : zU l yX5_goLeg wsX5_goLeg (zRm 3 78) D (zty cI cZ) zNw (wM cI cZ q ad) [.ref q, .ref (ad k1), .int a2, .int a3, .int a4] S r := by
  refine zU_of (cc := cX5_goLeg) (maxL := 5)  (by decide +kernel) rfl (Nat.le_of_ble_eq_true rfl) zNw_ok (fun E hE1 hE2 C0 hR => ?_)
  subst hE1; subst hE2
  replace C0 : zCx E (zRm 3 78) cX5_goLeg 5 RX5 wsX5_goLeg (zty cI cZ) zNw := C0
  show zV E (wM cI cZ q ad) 5 S 0 [(0, .ref q), (1, .ref (ad k1)), (2, .int a2), (3, .int a3), (4, .int a4)] []
  delta f_X5_goLeg at h
  refine zV_aload_n (n := 1) C0 1 dX5_goLeg_0 rfl rfl ?_
  refine zV_bipush (n := 3) (v := (21 : Int32)) C0 dX5_goLeg_1 rfl rfl ?_
  refine zV_dup2 (n := 4) C0 dX5_goLeg_3 rfl rfl rfl ?_
  obtain ⟨hg_1, h⟩ := gd_of h
  refine zV_iald (n := 5) C0 (k1 - 8) 0 (wM_at cI cZ q ad S hk1) rfl hg_1 dX5_goLeg_4 rfl ?_
  refine zV_aload_n (n := 6) C0 0 dX5_goLeg_5 rfl rfl ?_
  refine zV_aload_n (n := 7) C0 1 dX5_goLeg_6 rfl rfl ?_
  refine zV_iload_n (n := 8) C0 3 dX5_goLeg_7 rfl rfl ?_
  refine zV_iload (n := 10) C0 4 dX5_goLeg_8 rfl rfl ?_
  refine zV_iconst (n := 11) (v := (0 : Int32)) C0 dX5_goLeg_10 rfl rfl ?_
  refine zV_iconst (n := 12) (v := (0 : Int32)) C0 dX5_goLeg_11 rfl rfl ?_
  obtain ⟨r_3, hc_2, h⟩ := ob_of h
  refine zV_callVI (n := 15) (st := [.int (S.2.2 k1 ((21 : Int32)).toNatClampNeg), .int (21 : Int32), .ref (ad k1)]) (As := [.ref (ad k1), .int a3, .int a4, .int (0 : Int32), .int (0 : Int32)]) C0 (k_X5_timeOf k1 a3 a4 (0 : Int32) (0 : Int32) hk1 S _ hc_2) gX5_goLeg_X5_timeOf rfl (hd_X5_timeOf) rfl ⟨rfl, rfl⟩ ⟨Nat.le_of_ble_eq_true rfl, Nat.le_of_ble_eq_true rfl⟩ 0 rfl rfl rfl (Nat.le_of_ble_eq_true rfl) dX5_goLeg_12 rfl ?_
  refine zV_aload_n (n := 16) C0 0 dX5_goLeg_15 rfl rfl ?_
  refine zV_get (n := 19) (ref := RX5) C0 hinX5_goLeg_X5 0 rfl rfl 8 (Nat.le_of_ble_eq_true rfl) mX5_goLeg_0 rfl rfl dX5_goLeg_16 rfl ?_
  refine zV_iload_n (n := 20) C0 2 dX5_goLeg_19 rfl rfl ?_
  obtain ⟨hg_4, h⟩ := gd_of h
  refine zV_iald (n := 21) C0 3 0 rfl rfl hg_4 dX5_goLeg_20 rfl ?_
  refine zV_iadd (n := 22) C0 dX5_goLeg_21  rfl ?_
  refine zV_iadd (n := 23) C0 dX5_goLeg_22  rfl ?_
  obtain ⟨hg_5, h⟩ := gd_of h
  refine zV_iast (n := 24) C0 (k1 - 8) 0 (wM_at cI cZ q ad S hk1) rfl hg_5 (S.1, S.2.1, zur S.2.2 k1 (upd (S.2.2 k1) ((21 : Int32)).toNatClampNeg ((S.2.2 k1 ((21 : Int32)).toNatClampNeg) + (r_3 + (S.2.2 8 (a2).toNatClampNeg))))) (wM_as cI cZ q ad S hk1 (upd (S.2.2 k1) ((21 : Int32)).toNatClampNeg ((S.2.2 k1 ((21 : Int32)).toNatClampNeg) + (r_3 + (S.2.2 8 (a2).toNatClampNeg))))) dX5_goLeg_23 rfl ?_
  refine zV_topS (fun S_6 eS_6 => ?_)
  replace h := zlet_of eS_6 h
  clear eS_6
  refine zV_aload_n (n := 25) C0 1 dX5_goLeg_24 rfl rfl ?_
  refine zV_bipush (n := 27) (v := (20 : Int32)) C0 dX5_goLeg_25 rfl rfl ?_
  refine zV_dup2 (n := 28) C0 dX5_goLeg_27 rfl rfl rfl ?_
  obtain ⟨hg_7, h⟩ := gd_of h
  refine zV_iald (n := 29) C0 (k1 - 8) 0 (wM_at cI cZ q ad S_6 hk1) rfl hg_7 dX5_goLeg_28 rfl ?_
  refine zV_iconst (n := 30) (v := (1 : Int32)) C0 dX5_goLeg_29 rfl rfl ?_
  refine zV_iload_n (n := 31) C0 2 dX5_goLeg_30 rfl rfl ?_
  refine zV_ishl (n := 32) C0 dX5_goLeg_31  rfl ?_
  refine zV_ior (n := 33) C0 dX5_goLeg_32  rfl ?_
  obtain ⟨hg_8, h⟩ := gd_of h
  refine zV_iast (n := 34) C0 (k1 - 8) 0 (wM_at cI cZ q ad S_6 hk1) rfl hg_8 (S_6.1, S_6.2.1, zur S_6.2.2 k1 (upd (S_6.2.2 k1) ((20 : Int32)).toNatClampNeg ((S_6.2.2 k1 ((20 : Int32)).toNatClampNeg) ||| (zshl (1 : Int32) a2)))) (wM_as cI cZ q ad S_6 hk1 (upd (S_6.2.2 k1) ((20 : Int32)).toNatClampNeg ((S_6.2.2 k1 ((20 : Int32)).toNatClampNeg) ||| (zshl (1 : Int32) a2)))) dX5_goLeg_33 rfl ?_
  refine zV_topS (fun S_9 eS_9 => ?_)
  replace h := zlet_of eS_9 h
  clear eS_9
  refine zV_aload_n (n := 35) C0 1 dX5_goLeg_34 rfl rfl ?_
  refine zV_bipush (n := 37) (v := (16 : Int32)) C0 dX5_goLeg_35 rfl rfl ?_
  refine zV_iload_n (n := 38) C0 3 dX5_goLeg_37 rfl rfl ?_
  refine zV_iadd (n := 39) C0 dX5_goLeg_38  rfl ?_
  refine zV_topi (fun t_10 et_10 => ?_)
  replace h := zlet_of et_10 h
  clear et_10
  refine zV_dup2 (n := 40) C0 dX5_goLeg_39 rfl rfl rfl ?_
  obtain ⟨hg_11, h⟩ := gd_of h
  refine zV_iald (n := 41) C0 (k1 - 8) 0 (wM_at cI cZ q ad S_9 hk1) rfl hg_11 dX5_goLeg_40 rfl ?_
  refine zV_aload_n (n := 42) C0 1 dX5_goLeg_41 rfl rfl ?_
  refine zV_bipush (n := 44) (v := (16 : Int32)) C0 dX5_goLeg_42 rfl rfl ?_
  refine zV_iload_n (n := 45) C0 3 dX5_goLeg_44 rfl rfl ?_
  refine zV_iadd (n := 46) C0 dX5_goLeg_45  rfl ?_
  obtain ⟨hg_12, h⟩ := gd_of h
  refine zV_iald (n := 47) C0 (k1 - 8) 0 (wM_at cI cZ q ad S_9 hk1) rfl hg_12 dX5_goLeg_46 rfl ?_
  refine zV_iconst (n := 48) (v := (3 : Int32)) C0 dX5_goLeg_47 rfl rfl ?_
  refine zjoin_of h (fun k_14 hk_14 h => ?_)
  have Jk_14 : ∀ (s_13 : Int32), k_14 (s_13) = some r → zV E (wM cI cZ q ad) 5 S_9 56 [(1, .ref (ad k1)), (4, .int a4)] [.int s_13, .int (S_9.2.2 k1 (t_10).toNatClampNeg), .int t_10, .ref (ad k1)] := by
    intro s_13 h
    replace h := hk_14 _ h
    refine zV_iadd (n := 57) C0 dX5_goLeg_56  rfl ?_
    obtain ⟨hg_15, h⟩ := gd_of h
    refine zV_iast (n := 58) C0 (k1 - 8) 0 (wM_at cI cZ q ad S_9 hk1) rfl hg_15 (S_9.1, S_9.2.1, zur S_9.2.2 k1 (upd (S_9.2.2 k1) (t_10).toNatClampNeg ((S_9.2.2 k1 (t_10).toNatClampNeg) + s_13))) (wM_as cI cZ q ad S_9 hk1 (upd (S_9.2.2 k1) (t_10).toNatClampNeg ((S_9.2.2 k1 (t_10).toNatClampNeg) + s_13))) dX5_goLeg_57 rfl ?_
    refine zV_topS (fun S_16 eS_16 => ?_)
    replace h := zlet_of eS_16 h
    clear eS_16
    refine zV_aload_n (n := 59) C0 0 dX5_goLeg_58 rfl rfl ?_
    refine zV_bipush (n := 61) (v := (16 : Int32)) C0 dX5_goLeg_59 rfl rfl ?_
    refine zV_iload (n := 63) C0 1 dX5_goLeg_61 rfl rfl ?_
    refine zV_iadd (n := 64) C0 dX5_goLeg_63  rfl ?_
    refine zV_topi (fun t_17 et_17 => ?_)
    replace h := zlet_of et_17 h
    clear et_17
    refine zV_dup2 (n := 65) C0 dX5_goLeg_64 rfl rfl rfl ?_
    obtain ⟨hg_18, h⟩ := gd_of h
    refine zV_iald (n := 66) C0 (k1 - 8) 0 (wM_at cI cZ q ad S_16 hk1) rfl hg_18 dX5_goLeg_65 rfl ?_
    refine zV_aload_n (n := 67) C0 0 dX5_goLeg_66 rfl rfl ?_
    refine zV_bipush (n := 69) (v := (16 : Int32)) C0 dX5_goLeg_67 rfl rfl ?_
    refine zV_iload (n := 71) C0 1 dX5_goLeg_69 rfl rfl ?_
    refine zV_iadd (n := 72) C0 dX5_goLeg_71  rfl ?_
    obtain ⟨hg_19, h⟩ := gd_of h
    refine zV_iald (n := 73) C0 (k1 - 8) 0 (wM_at cI cZ q ad S_16 hk1) rfl hg_19 dX5_goLeg_72 rfl ?_
    refine zV_iconst (n := 74) (v := (3 : Int32)) C0 dX5_goLeg_73 rfl rfl ?_
    refine zjoin_of h (fun k_21 hk_21 h => ?_)
    have Jk_21 : ∀ (s_20 : Int32), k_21 (s_20) = some r → zV E (wM cI cZ q ad) 5 S_16 82 [] [.int s_20, .int (S_16.2.2 k1 (t_17).toNatClampNeg), .int t_17, .ref (ad k1)] := by
      intro s_20 h
      replace h := hk_21 _ h
      refine zV_iadd (n := 83) C0 dX5_goLeg_82  rfl ?_
      obtain ⟨hg_22, h⟩ := gd_of h
      refine zV_iast (n := 84) C0 (k1 - 8) 0 (wM_at cI cZ q ad S_16 hk1) rfl hg_22 (S_16.1, S_16.2.1, zur S_16.2.2 k1 (upd (S_16.2.2 k1) (t_17).toNatClampNeg ((S_16.2.2 k1 (t_17).toNatClampNeg) + s_20))) (wM_as cI cZ q ad S_16 hk1 (upd (S_16.2.2 k1) (t_17).toNatClampNeg ((S_16.2.2 k1 (t_17).toNatClampNeg) + s_20))) dX5_goLeg_83 rfl ?_
      refine zV_topS (fun S_23 eS_23 => ?_)
      replace h := zlet_of eS_23 h
      clear eS_23
      exact zretU hR h dX5_goLeg_84
    clear hk_21
    refine zV_icmp_ge (tgt := 81) (n := 77) C0 dX5_goLeg_74 rfl rfl (fun hb_24 => ?_) (fun hb_24 => ?_)
    · replace h := if_t hb_24 h
      refine zV_iconst (n := 82) (v := (0 : Int32)) C0 dX5_goLeg_81 rfl rfl ?_
      refine zV_sub [] rfl ?_
      exact Jk_21 (0 : Int32) h
    · replace h := if_f hb_24 h
      refine zV_iconst (n := 78) (v := (1 : Int32)) C0 dX5_goLeg_77 rfl rfl ?_
      refine zV_goto (tgt := 82) C0 dX5_goLeg_78 rfl ?_
      refine zV_sub [] rfl ?_
      exact Jk_21 (1 : Int32) h
  clear hk_14
  refine zV_icmp_ge (tgt := 55) (n := 51) C0 dX5_goLeg_48 rfl rfl (fun hb_25 => ?_) (fun hb_25 => ?_)
  · replace h := if_t hb_25 h
    refine zV_iconst (n := 56) (v := (0 : Int32)) C0 dX5_goLeg_55 rfl rfl ?_
    refine zV_sub [1, 4] rfl ?_
    exact Jk_14 (0 : Int32) h
  · replace h := if_f hb_25 h
    refine zV_iconst (n := 52) (v := (1 : Int32)) C0 dX5_goLeg_51 rfl rfl ?_
    refine zV_goto (tgt := 56) C0 dX5_goLeg_52 rfl ?_
    refine zV_sub [1, 4] rfl ?_
    exact Jk_14 (1 : Int32) h
set_option maxRecDepth 20000 in
set_option maxHeartbeats 4000000 in
theorem k_X5_noPair {l : Launch} {D : va_G} {cI cZ : ClassId} {q : Nat} {ad : Nat → Nat} (a1 : Int32) (a2 : Int32) (a3 : Int32)  (S : zS) (r : Int32) (h : f_X5_noPair a1 a2 a3 S = some r) : zI l yX5_noPair wsX5_noPair (zRm 2 46) D (zty cI cZ) zNw (wM cI cZ q ad) [.ref q, .int a1, .int a2, .int a3] S (r, S) := by
  refine zI_of (cc := cX5_noPair) (maxL := 4) (ty := .int) (by decide +kernel) rfl (Nat.le_of_ble_eq_true rfl) zNw_ok (fun E hE1 hE2 C0 hR => ?_)
  subst hE1; subst hE2
  replace C0 : zCx E (zRm 2 46) cX5_noPair 4 RX5 wsX5_noPair (zty cI cZ) zNw := C0
  show zV E (wM cI cZ q ad) 4 S 0 [(0, .ref q), (1, .int a1), (2, .int a2), (3, .int a3)] []
  delta f_X5_noPair at h
  refine zV_aload_n (n := 1) C0 0 dX5_noPair_0 rfl rfl ?_
  refine zV_iload_n (n := 2) C0 1 dX5_noPair_1 rfl rfl ?_
  obtain ⟨r_2, hc_1, h⟩ := ob_of h
  refine zV_callVI (n := 5) (st := []) (As := [.int a1]) C0 (k_X5_noBoat a1 S _ hc_1) gX5_noPair_X5_noBoat rfl (hd_X5_noBoat) rfl ⟨rfl, rfl⟩ ⟨Nat.le_of_ble_eq_true rfl, Nat.le_of_ble_eq_true rfl⟩ 0 rfl rfl rfl (Nat.le_of_ble_eq_true rfl) dX5_noPair_2 rfl ?_
  refine zjoin_of h (fun k_3 hk_3 h => ?_)
  have Jk_3 : k_3 () = some r → zV E (wM cI cZ q ad) 4 S 24 [] [] := by
    intro  h
    replace h := hk_3 _ h
    refine zV_iconst (n := 25) (v := (-1 : Int32)) C0 dX5_noPair_24 rfl rfl ?_
    exact zretI1 hR h rfl dX5_noPair_25
  clear hk_3
  refine zV_if_ne (tgt := 24) (n := 8) C0 dX5_noPair_5 rfl rfl (fun hb_13 => ?_) (fun hb_13 => ?_)
  · replace h := if_f hb_13 h
    refine zV_sub [] rfl ?_
    exact Jk_3  h
  · replace h := if_t hb_13 h
    refine zV_aload_n (n := 9) C0 0 dX5_noPair_8 rfl rfl ?_
    refine zV_iload_n (n := 10) C0 2 dX5_noPair_9 rfl rfl ?_
    obtain ⟨r_5, hc_4, h⟩ := ob_of h
    refine zV_callVI (n := 13) (st := []) (As := [.int a2]) C0 (k_X5_noLegger a2 S _ hc_4) gX5_noPair_X5_noLegger rfl (hd_X5_noLegger) rfl ⟨rfl, rfl⟩ ⟨Nat.le_of_ble_eq_true rfl, Nat.le_of_ble_eq_true rfl⟩ 0 rfl rfl rfl (Nat.le_of_ble_eq_true rfl) dX5_noPair_10 rfl ?_
    refine zV_if_ne (tgt := 24) (n := 16) C0 dX5_noPair_13 rfl rfl (fun hb_12 => ?_) (fun hb_12 => ?_)
    · replace h := if_f hb_12 h
      refine zV_sub [] rfl ?_
      exact Jk_3  h
    · replace h := if_t hb_12 h
      refine zV_aload_n (n := 17) C0 0 dX5_noPair_16 rfl rfl ?_
      refine zV_iload_n (n := 18) C0 3 dX5_noPair_17 rfl rfl ?_
      obtain ⟨r_7, hc_6, h⟩ := ob_of h
      refine zV_callVI (n := 21) (st := []) (As := [.int a3]) C0 (k_X5_noLegger a3 S _ hc_6) gX5_noPair_X5_noLegger rfl (hd_X5_noLegger) rfl ⟨rfl, rfl⟩ ⟨Nat.le_of_ble_eq_true rfl, Nat.le_of_ble_eq_true rfl⟩ 0 rfl rfl rfl (Nat.le_of_ble_eq_true rfl) dX5_noPair_18 rfl ?_
      refine zV_if_eq (tgt := 26) (n := 24) C0 dX5_noPair_21 rfl rfl (fun hb_11 => ?_) (fun hb_11 => ?_)
      · replace h := if_t hb_11 h
        refine zV_iload_n (n := 27) C0 2 dX5_noPair_26 rfl rfl ?_
        refine zV_iload_n (n := 28) C0 3 dX5_noPair_27 rfl rfl ?_
        refine zjoin_of h (fun k_9 hk_9 h => ?_)
        have Jk_9 : ∀ (s_8 : Int32), k_9 (s_8) = some r → zV E (wM cI cZ q ad) 4 S 37 [] [.int s_8] := by
          intro s_8 h
          replace h := hk_9 _ h
          exact zretI1 hR h rfl dX5_noPair_37
        clear hk_9
        refine zV_icmp_ne (tgt := 36) (n := 31) C0 dX5_noPair_28 rfl rfl (fun hb_10 => ?_) (fun hb_10 => ?_)
        · replace h := if_f hb_10 h
          refine zV_iconst (n := 37) (v := (0 : Int32)) C0 dX5_noPair_36 rfl rfl ?_
          refine zV_sub [] rfl ?_
          exact Jk_9 (0 : Int32) h
        · replace h := if_t hb_10 h
          refine zV_bipush (n := 33) (v := (-2 : Int32)) C0 dX5_noPair_31 rfl rfl ?_
          refine zV_goto (tgt := 37) C0 dX5_noPair_33 rfl ?_
          refine zV_sub [] rfl ?_
          exact Jk_9 (-2 : Int32) h
      · replace h := if_f hb_11 h
        refine zV_sub [] rfl ?_
        exact Jk_3  h
set_option maxRecDepth 20000 in
theorem mX5_leg_0 : Cond.fieldLink RX5 63 "LeggedThroughModel" "thrown" "I" ∈ wsX5_leg := by decide +kernel
set_option maxRecDepth 20000 in
theorem mX5_leg_1 : Cond.fieldLink RX5 29 "LeggedThroughModel" "page" "[I" ∈ wsX5_leg := by decide +kernel
set_option maxRecDepth 20000 in
theorem hinX5_leg_X5 : ∀ w ∈ u_ws RX5 TX5 37, w ∈ wsX5_leg := fun w h => List.mem_cons_of_mem _ (List.mem_append_right _ h)
set_option maxRecDepth 20000 in
set_option maxHeartbeats 4000000 in
theorem k_X5_leg {l : Launch} {D : va_G} {cI cZ : ClassId} {q : Nat} {ad : Nat → Nat} (a1 : Int32) (a2 : Int32) (a3 : Int32)  (S : zS) (r : Int32 × zS) (h : f_X5_leg a1 a2 a3 S = some r) : zI l yX5_leg wsX5_leg (zRm 4 102) D (zty cI cZ) zNw (wM cI cZ q ad) [.ref q, .int a1, .int a2, .int a3] S r := by
  refine zI_of (cc := cX5_leg) (maxL := 5) (ty := .int) (by decide +kernel) rfl (Nat.le_of_ble_eq_true rfl) zNw_ok (fun E hE1 hE2 C0 hR => ?_)
  subst hE1; subst hE2
  replace C0 : zCx E (zRm 4 102) cX5_leg 5 RX5 wsX5_leg (zty cI cZ) zNw := C0
  show zV E (wM cI cZ q ad) 5 S 0 [(0, .ref q), (1, .int a1), (2, .int a2), (3, .int a3)] []
  delta f_X5_leg at h
  refine zV_aload_n (n := 1) C0 0 dX5_leg_0 rfl rfl ?_
  refine zV_iconst (n := 2) (v := (0 : Int32)) C0 dX5_leg_1 rfl rfl ?_
  refine zV_put (n := 5) (ref := RX5) C0 hinX5_leg_X5 0 rfl rfl 0 (Nat.le_of_ble_eq_true rfl) mX5_leg_0 rfl tyX5 tyX5_ok nmX5 rfl (tyX5_ok 0 (Nat.le_of_ble_eq_true rfl)) rfl rfl (Nat.le_of_ble_eq_true rfl) (upd S.1 0 (0 : Int32), S.2) (wM_f0 cI cZ q ad S (0 : Int32)) dX5_leg_2 rfl ?_
  refine zV_topS (fun S_1 eS_1 => ?_)
  replace h := zlet_of eS_1 h
  clear eS_1
  refine zV_aload_n (n := 6) C0 0 dX5_leg_5 rfl rfl ?_
  refine zV_iload_n (n := 7) C0 1 dX5_leg_6 rfl rfl ?_
  refine zV_iload_n (n := 8) C0 2 dX5_leg_7 rfl rfl ?_
  refine zV_iload_n (n := 9) C0 3 dX5_leg_8 rfl rfl ?_
  obtain ⟨r_3, hc_2, h⟩ := ob_of h
  refine zV_callVI (n := 12) (st := []) (As := [.int a1, .int a2, .int a3]) C0 (k_X5_noPair a1 a2 a3 S_1 _ hc_2) gX5_leg_X5_noPair rfl (hd_X5_noPair) rfl ⟨rfl, rfl⟩ ⟨Nat.le_of_ble_eq_true rfl, Nat.le_of_ble_eq_true rfl⟩ 0 rfl rfl rfl (Nat.le_of_ble_eq_true rfl) dX5_leg_9 rfl ?_
  refine zV_istore (n := 14) C0 [(4, .int r_3), (0, .ref q), (1, .int a1), (2, .int a2), (3, .int a3)] dX5_leg_12 rfl (Nat.le_of_ble_eq_true rfl) rfl ?_
  refine zV_iload (n := 16) C0 0 dX5_leg_14 rfl rfl ?_
  refine zV_if_eq (tgt := 22) (n := 19) C0 dX5_leg_16 rfl rfl (fun hb_13 => ?_) (fun hb_13 => ?_)
  · replace h := if_t hb_13 h
    refine zV_aload_n (n := 23) C0 1 dX5_leg_22 rfl rfl ?_
    refine zV_get (n := 26) (ref := RX5) C0 hinX5_leg_X5 0 rfl rfl 14 (Nat.le_of_ble_eq_true rfl) mX5_leg_1 rfl rfl dX5_leg_23 rfl ?_
    refine zV_bipush (n := 28) (v := (20 : Int32)) C0 dX5_leg_26 rfl rfl ?_
    obtain ⟨hg_4, h⟩ := gd_of h
    refine zV_iald (n := 29) C0 6 0 rfl rfl hg_4 dX5_leg_28 rfl ?_
    refine zV_iload_n (n := 30) C0 2 dX5_leg_29 rfl rfl ?_
    obtain ⟨r_6, hc_5, h⟩ := ob_of h
    refine zV_callS0 (n := 33) (st := []) (As := [.int (S_1.2.2 14 ((20 : Int32)).toNatClampNeg), .int a1]) C0 (k_X5_has (S_1.2.2 14 ((20 : Int32)).toNatClampNeg) a1 _ hc_5) gX5_leg_X5_has rfl (hd_X5_has) rfl ⟨rfl, rfl⟩ ⟨Nat.le_of_ble_eq_true rfl, Nat.le_of_ble_eq_true rfl⟩ rfl (Nat.le_of_ble_eq_true rfl) dX5_leg_30 rfl ?_
    refine zV_if_eq (tgt := 39) (n := 36) C0 dX5_leg_33 rfl rfl (fun hb_12 => ?_) (fun hb_12 => ?_)
    · replace h := if_t hb_12 h
      refine zV_aload_n (n := 40) C0 1 dX5_leg_39 rfl rfl ?_
      obtain ⟨S_8, hc_7, h⟩ := ob_of h
      refine zV_callVU (n := 43) (st := []) (As := []) C0 (k_X5_note  S_1 _ hc_7) gX5_leg_X5_note rfl (hd_X5_note) rfl ⟨rfl, rfl⟩ ⟨Nat.le_of_ble_eq_true rfl, Nat.le_of_ble_eq_true rfl⟩ 0 rfl rfl rfl (Nat.le_of_ble_eq_true rfl) dX5_leg_40 rfl ?_
      refine zV_aload_n (n := 44) C0 1 dX5_leg_43 rfl rfl ?_
      refine zV_aload_n (n := 45) C0 1 dX5_leg_44 rfl rfl ?_
      refine zV_get (n := 48) (ref := RX5) C0 hinX5_leg_X5 0 rfl rfl 14 (Nat.le_of_ble_eq_true rfl) mX5_leg_1 rfl rfl dX5_leg_45 rfl ?_
      refine zV_iload_n (n := 49) C0 2 dX5_leg_48 rfl rfl ?_
      refine zV_iload_n (n := 50) C0 3 dX5_leg_49 rfl rfl ?_
      refine zV_iload_n (n := 51) C0 4 dX5_leg_50 rfl rfl ?_
      obtain ⟨S_10, hc_9, h⟩ := ob_of h
      refine zV_callVU (n := 54) (st := []) (As := [.ref (ad 14), .int a1, .int a2, .int a3]) C0 (k_X5_goLeg 14 a1 a2 a3 (by decide) S_8 _ hc_9) gX5_leg_X5_goLeg rfl (hd_X5_goLeg) rfl ⟨rfl, rfl⟩ ⟨Nat.le_of_ble_eq_true rfl, Nat.le_of_ble_eq_true rfl⟩ 0 rfl rfl rfl (Nat.le_of_ble_eq_true rfl) dX5_leg_51 rfl ?_
      refine zV_aload_n (n := 55) C0 1 dX5_leg_54 rfl rfl ?_
      refine zV_get (n := 58) (ref := RX5) C0 hinX5_leg_X5 0 rfl rfl 14 (Nat.le_of_ble_eq_true rfl) mX5_leg_1 rfl rfl dX5_leg_55 rfl ?_
      refine zV_bipush (n := 60) (v := (21 : Int32)) C0 dX5_leg_58 rfl rfl ?_
      obtain ⟨hg_11, h⟩ := gd_of h
      refine zV_iald (n := 61) C0 6 0 rfl rfl hg_11 dX5_leg_60 rfl ?_
      exact zretI hR h rfl dX5_leg_61
    · replace h := if_f hb_12 h
      refine zV_bipush (n := 38) (v := (-3 : Int32)) C0 dX5_leg_36 rfl rfl ?_
      exact zretI hR h rfl dX5_leg_38
  · replace h := if_f hb_13 h
    refine zV_iload (n := 21) C0 0 dX5_leg_19 rfl rfl ?_
    exact zretI hR h rfl dX5_leg_21
set_option maxRecDepth 20000 in
theorem mX5_rest_0 : Cond.fieldLink RX5 63 "LeggedThroughModel" "thrown" "I" ∈ wsX5_rest := by decide +kernel
set_option maxRecDepth 20000 in
theorem mX5_rest_1 : Cond.fieldLink RX5 29 "LeggedThroughModel" "page" "[I" ∈ wsX5_rest := by decide +kernel
set_option maxRecDepth 20000 in
theorem hinX5_rest_X5 : ∀ w ∈ u_ws RX5 TX5 37, w ∈ wsX5_rest := fun w h => List.mem_cons_of_mem _ (List.mem_append_right _ h)
set_option maxRecDepth 20000 in
set_option maxHeartbeats 4000000 in
theorem k_X5_rest {l : Launch} {D : va_G} {cI cZ : ClassId} {q : Nat} {ad : Nat → Nat} (a1 : Int32)  (S : zS) (r : Int32 × zS) (h : f_X5_rest a1 S = some r) : zI l yX5_rest wsX5_rest (zRm 2 46) D (zty cI cZ) zNw (wM cI cZ q ad) [.ref q, .int a1] S r := by
  refine zI_of (cc := cX5_rest) (maxL := 2) (ty := .int) (by decide +kernel) rfl (Nat.le_of_ble_eq_true rfl) zNw_ok (fun E hE1 hE2 C0 hR => ?_)
  subst hE1; subst hE2
  replace C0 : zCx E (zRm 2 46) cX5_rest 2 RX5 wsX5_rest (zty cI cZ) zNw := C0
  show zV E (wM cI cZ q ad) 2 S 0 [(0, .ref q), (1, .int a1)] []
  delta f_X5_rest at h
  refine zV_aload_n (n := 1) C0 0 dX5_rest_0 rfl rfl ?_
  refine zV_iconst (n := 2) (v := (0 : Int32)) C0 dX5_rest_1 rfl rfl ?_
  refine zV_put (n := 5) (ref := RX5) C0 hinX5_rest_X5 0 rfl rfl 0 (Nat.le_of_ble_eq_true rfl) mX5_rest_0 rfl tyX5 tyX5_ok nmX5 rfl (tyX5_ok 0 (Nat.le_of_ble_eq_true rfl)) rfl rfl (Nat.le_of_ble_eq_true rfl) (upd S.1 0 (0 : Int32), S.2) (wM_f0 cI cZ q ad S (0 : Int32)) dX5_rest_2 rfl ?_
  refine zV_topS (fun S_1 eS_1 => ?_)
  replace h := zlet_of eS_1 h
  clear eS_1
  refine zV_aload_n (n := 6) C0 0 dX5_rest_5 rfl rfl ?_
  refine zV_iload_n (n := 7) C0 1 dX5_rest_6 rfl rfl ?_
  obtain ⟨r_3, hc_2, h⟩ := ob_of h
  refine zV_callVI (n := 10) (st := []) (As := [.int a1]) C0 (k_X5_noLegger a1 S_1 _ hc_2) gX5_rest_X5_noLegger rfl (hd_X5_noLegger) rfl ⟨rfl, rfl⟩ ⟨Nat.le_of_ble_eq_true rfl, Nat.le_of_ble_eq_true rfl⟩ 0 rfl rfl rfl (Nat.le_of_ble_eq_true rfl) dX5_rest_7 rfl ?_
  refine zV_if_eq (tgt := 15) (n := 13) C0 dX5_rest_10 rfl rfl (fun hb_14 => ?_) (fun hb_14 => ?_)
  · replace h := if_t hb_14 h
    refine zV_aload_n (n := 16) C0 0 dX5_rest_15 rfl rfl ?_
    refine zV_get (n := 19) (ref := RX5) C0 hinX5_rest_X5 0 rfl rfl 14 (Nat.le_of_ble_eq_true rfl) mX5_rest_1 rfl rfl dX5_rest_16 rfl ?_
    refine zV_bipush (n := 21) (v := (16 : Int32)) C0 dX5_rest_19 rfl rfl ?_
    refine zV_iload_n (n := 22) C0 1 dX5_rest_21 rfl rfl ?_
    refine zV_iadd (n := 23) C0 dX5_rest_22  rfl ?_
    obtain ⟨hg_4, h⟩ := gd_of h
    refine zV_iald (n := 24) C0 6 0 rfl rfl hg_4 dX5_rest_23 rfl ?_
    refine zV_if_ne (tgt := 30) (n := 27) C0 dX5_rest_24 rfl rfl (fun hb_13 => ?_) (fun hb_13 => ?_)
    · replace h := if_f hb_13 h
      refine zV_aload_n (n := 31) C0 0 dX5_rest_30 rfl rfl ?_
      obtain ⟨S_6, hc_5, h⟩ := ob_of h
      refine zV_callVU (n := 34) (st := []) (As := []) C0 (k_X5_note  S_1 _ hc_5) gX5_rest_X5_note rfl (hd_X5_note) rfl ⟨rfl, rfl⟩ ⟨Nat.le_of_ble_eq_true rfl, Nat.le_of_ble_eq_true rfl⟩ 0 rfl rfl rfl (Nat.le_of_ble_eq_true rfl) dX5_rest_31 rfl ?_
      refine zV_aload_n (n := 35) C0 0 dX5_rest_34 rfl rfl ?_
      refine zV_get (n := 38) (ref := RX5) C0 hinX5_rest_X5 0 rfl rfl 14 (Nat.le_of_ble_eq_true rfl) mX5_rest_1 rfl rfl dX5_rest_35 rfl ?_
      refine zV_bipush (n := 40) (v := (16 : Int32)) C0 dX5_rest_38 rfl rfl ?_
      refine zV_iload_n (n := 41) C0 1 dX5_rest_40 rfl rfl ?_
      refine zV_iadd (n := 42) C0 dX5_rest_41  rfl ?_
      refine zV_iconst (n := 43) (v := (0 : Int32)) C0 dX5_rest_42 rfl rfl ?_
      obtain ⟨hg_7, h⟩ := gd_of h
      refine zV_iast (n := 44) C0 6 0 rfl rfl hg_7 (S_6.1, S_6.2.1, zur S_6.2.2 14 (upd (S_6.2.2 14) (((16 : Int32) + a1)).toNatClampNeg (0 : Int32))) (wM_a14 cI cZ q ad S_6 (upd (S_6.2.2 14) (((16 : Int32) + a1)).toNatClampNeg (0 : Int32))) dX5_rest_43 rfl ?_
      refine zV_topS (fun S_8 eS_8 => ?_)
      replace h := zlet_of eS_8 h
      clear eS_8
      refine zV_aload_n (n := 45) C0 0 dX5_rest_44 rfl rfl ?_
      refine zV_get (n := 48) (ref := RX5) C0 hinX5_rest_X5 0 rfl rfl 14 (Nat.le_of_ble_eq_true rfl) mX5_rest_1 rfl rfl dX5_rest_45 rfl ?_
      refine zV_bipush (n := 50) (v := (21 : Int32)) C0 dX5_rest_48 rfl rfl ?_
      refine zV_dup2 (n := 51) C0 dX5_rest_50 rfl rfl rfl ?_
      obtain ⟨hg_9, h⟩ := gd_of h
      refine zV_iald (n := 52) C0 6 0 rfl rfl hg_9 dX5_rest_51 rfl ?_
      refine zV_iconst (n := 53) (v := (5 : Int32)) C0 dX5_rest_52 rfl rfl ?_
      refine zV_iadd (n := 54) C0 dX5_rest_53  rfl ?_
      obtain ⟨hg_10, h⟩ := gd_of h
      refine zV_iast (n := 55) C0 6 0 rfl rfl hg_10 (S_8.1, S_8.2.1, zur S_8.2.2 14 (upd (S_8.2.2 14) ((21 : Int32)).toNatClampNeg ((S_8.2.2 14 ((21 : Int32)).toNatClampNeg) + (5 : Int32)))) (wM_a14 cI cZ q ad S_8 (upd (S_8.2.2 14) ((21 : Int32)).toNatClampNeg ((S_8.2.2 14 ((21 : Int32)).toNatClampNeg) + (5 : Int32)))) dX5_rest_54 rfl ?_
      refine zV_topS (fun S_11 eS_11 => ?_)
      replace h := zlet_of eS_11 h
      clear eS_11
      refine zV_aload_n (n := 56) C0 0 dX5_rest_55 rfl rfl ?_
      refine zV_get (n := 59) (ref := RX5) C0 hinX5_rest_X5 0 rfl rfl 14 (Nat.le_of_ble_eq_true rfl) mX5_rest_1 rfl rfl dX5_rest_56 rfl ?_
      refine zV_bipush (n := 61) (v := (21 : Int32)) C0 dX5_rest_59 rfl rfl ?_
      obtain ⟨hg_12, h⟩ := gd_of h
      refine zV_iald (n := 62) C0 6 0 rfl rfl hg_12 dX5_rest_61 rfl ?_
      exact zretI hR h rfl dX5_rest_62
    · replace h := if_t hb_13 h
      refine zV_bipush (n := 29) (v := (-3 : Int32)) C0 dX5_rest_27 rfl rfl ?_
      exact zretI hR h rfl dX5_rest_29
  · replace h := if_f hb_14 h
    refine zV_iconst (n := 14) (v := (-1 : Int32)) C0 dX5_rest_13 rfl rfl ?_
    exact zretI hR h rfl dX5_rest_14
set_option maxRecDepth 20000 in
theorem mX5_wet_0 : Cond.fieldLink RX5 63 "LeggedThroughModel" "thrown" "I" ∈ wsX5_wet := by decide +kernel
set_option maxRecDepth 20000 in
theorem mX5_wet_1 : Cond.constantLong RX5 128 (3 : Int64) ∈ wsX5_wet := by decide +kernel
set_option maxRecDepth 20000 in
theorem mX5_wet_2 : Cond.fieldLink RX5 29 "LeggedThroughModel" "page" "[I" ∈ wsX5_wet := by decide +kernel
set_option maxRecDepth 20000 in
theorem hinX5_wet_X5 : ∀ w ∈ u_ws RX5 TX5 37, w ∈ wsX5_wet := fun w h => List.mem_cons_of_mem _ (List.mem_append_right _ h)
set_option maxRecDepth 20000 in
set_option maxHeartbeats 4000000 in
theorem k_X5_wet {l : Launch} {D : va_G} {cI cZ : ClassId} {q : Nat} {ad : Nat → Nat} (a1 : Int32) (a2 : Int32)  (S : zS) (r : Int32 × zS) (h : f_X5_wet a1 a2 S = some r) : zI l yX5_wet wsX5_wet (zRm 2 46) D (zty cI cZ) zNw (wM cI cZ q ad) [.ref q, .int a1, .int a2] S r := by
  refine zI_of (cc := cX5_wet) (maxL := 4) (ty := .int) (by decide +kernel) rfl (Nat.le_of_ble_eq_true rfl) zNw_ok (fun E hE1 hE2 C0 hR => ?_)
  subst hE1; subst hE2
  replace C0 : zCx E (zRm 2 46) cX5_wet 4 RX5 wsX5_wet (zty cI cZ) zNw := C0
  show zV E (wM cI cZ q ad) 4 S 0 [(0, .ref q), (1, .int a1), (2, .int a2)] []
  delta f_X5_wet at h
  refine zV_aload_n (n := 1) C0 0 dX5_wet_0 rfl rfl ?_
  refine zV_iconst (n := 2) (v := (0 : Int32)) C0 dX5_wet_1 rfl rfl ?_
  refine zV_put (n := 5) (ref := RX5) C0 hinX5_wet_X5 0 rfl rfl 0 (Nat.le_of_ble_eq_true rfl) mX5_wet_0 rfl tyX5 tyX5_ok nmX5 rfl (tyX5_ok 0 (Nat.le_of_ble_eq_true rfl)) rfl rfl (Nat.le_of_ble_eq_true rfl) (upd S.1 0 (0 : Int32), S.2) (wM_f0 cI cZ q ad S (0 : Int32)) dX5_wet_2 rfl ?_
  refine zV_topS (fun S_1 eS_1 => ?_)
  replace h := zlet_of eS_1 h
  clear eS_1
  refine zV_aload_n (n := 6) C0 0 dX5_wet_5 rfl rfl ?_
  refine zV_iload_n (n := 7) C0 1 dX5_wet_6 rfl rfl ?_
  obtain ⟨r_3, hc_2, h⟩ := ob_of h
  refine zV_callVI (n := 10) (st := []) (As := [.int a1]) C0 (k_X5_noLegger a1 S_1 _ hc_2) gX5_wet_X5_noLegger rfl (hd_X5_noLegger) rfl ⟨rfl, rfl⟩ ⟨Nat.le_of_ble_eq_true rfl, Nat.le_of_ble_eq_true rfl⟩ 0 rfl rfl rfl (Nat.le_of_ble_eq_true rfl) dX5_wet_7 rfl ?_
  refine zV_if_eq (tgt := 15) (n := 13) C0 dX5_wet_10 rfl rfl (fun hb_14 => ?_) (fun hb_14 => ?_)
  · replace h := if_t hb_14 h
    refine zV_iload_n (n := 16) C0 2 dX5_wet_15 rfl rfl ?_
    refine zV_i2l (n := 17) C0 dX5_wet_16  rfl ?_
    refine zV_lconst (n := 18) (v := (0 : Int64)) C0 dX5_wet_17 rfl rfl ?_
    refine zV_ldc2 (n := 21) (v := (3 : Int64)) C0 dX5_wet_18 mX5_wet_1 rfl ?_
    obtain ⟨r_5, hc_4, h⟩ := ob_of h
    refine zV_callS0 (n := 24) (st := []) (As := [.long a2.toInt64, .long (0 : Int64), .long (3 : Int64)]) C0 (k_X5_in a2.toInt64 (0 : Int64) (3 : Int64) _ hc_4) gX5_wet_X5_in rfl (hd_X5_in) rfl ⟨rfl, rfl⟩ ⟨Nat.le_of_ble_eq_true rfl, Nat.le_of_ble_eq_true rfl⟩ rfl (Nat.le_of_ble_eq_true rfl) dX5_wet_21 rfl ?_
    refine zV_if_ne (tgt := 30) (n := 27) C0 dX5_wet_24 rfl rfl (fun hb_13 => ?_) (fun hb_13 => ?_)
    · replace h := if_f hb_13 h
      refine zV_aload_n (n := 31) C0 0 dX5_wet_30 rfl rfl ?_
      refine zV_get (n := 34) (ref := RX5) C0 hinX5_wet_X5 0 rfl rfl 14 (Nat.le_of_ble_eq_true rfl) mX5_wet_2 rfl rfl dX5_wet_31 rfl ?_
      refine zV_iconst (n := 35) (v := (0 : Int32)) C0 dX5_wet_34 rfl rfl ?_
      refine zV_iconst (n := 36) (v := (4 : Int32)) C0 dX5_wet_35 rfl rfl ?_
      refine zV_iload_n (n := 37) C0 1 dX5_wet_36 rfl rfl ?_
      refine zV_imul (n := 38) C0 dX5_wet_37  rfl ?_
      refine zV_iadd (n := 39) C0 dX5_wet_38  rfl ?_
      refine zV_iload_n (n := 40) C0 2 dX5_wet_39 rfl rfl ?_
      refine zV_iadd (n := 41) C0 dX5_wet_40  rfl ?_
      obtain ⟨hg_6, h⟩ := gd_of h
      refine zV_iald (n := 42) C0 6 0 rfl rfl hg_6 dX5_wet_41 rfl ?_
      refine zV_topi (fun x3_7 ex3_7 => ?_)
      replace h := zlet_of ex3_7 h
      clear ex3_7
      refine zV_istore_n (n := 43) C0 [(3, .int x3_7), (0, .ref q), (1, .int a1), (2, .int a2)] dX5_wet_42 rfl rfl (Nat.le_of_ble_eq_true rfl) rfl ?_
      refine zV_iload_n (n := 44) C0 0 dX5_wet_43 rfl rfl ?_
      refine zV_iconst (n := 45) (v := (2 : Int32)) C0 dX5_wet_44 rfl rfl ?_
      refine zV_icmp_ne (tgt := 51) (n := 48) C0 dX5_wet_45 rfl rfl (fun hb_12 => ?_) (fun hb_12 => ?_)
      · replace h := if_f hb_12 h
        refine zV_aload_n (n := 52) C0 1 dX5_wet_51 rfl rfl ?_
        obtain ⟨S_9, hc_8, h⟩ := ob_of h
        refine zV_callVU (n := 55) (st := []) (As := []) C0 (k_X5_note  S_1 _ hc_8) gX5_wet_X5_note rfl (hd_X5_note) rfl ⟨rfl, rfl⟩ ⟨Nat.le_of_ble_eq_true rfl, Nat.le_of_ble_eq_true rfl⟩ 0 rfl rfl rfl (Nat.le_of_ble_eq_true rfl) dX5_wet_52 rfl ?_
        refine zV_aload_n (n := 56) C0 1 dX5_wet_55 rfl rfl ?_
        refine zV_get (n := 59) (ref := RX5) C0 hinX5_wet_X5 0 rfl rfl 14 (Nat.le_of_ble_eq_true rfl) mX5_wet_2 rfl rfl dX5_wet_56 rfl ?_
        refine zV_iconst (n := 60) (v := (0 : Int32)) C0 dX5_wet_59 rfl rfl ?_
        refine zV_iconst (n := 61) (v := (4 : Int32)) C0 dX5_wet_60 rfl rfl ?_
        refine zV_iload_n (n := 62) C0 2 dX5_wet_61 rfl rfl ?_
        refine zV_imul (n := 63) C0 dX5_wet_62  rfl ?_
        refine zV_iadd (n := 64) C0 dX5_wet_63  rfl ?_
        refine zV_iload_n (n := 65) C0 3 dX5_wet_64 rfl rfl ?_
        refine zV_iadd (n := 66) C0 dX5_wet_65  rfl ?_
        refine zV_iconst (n := 67) (v := (2 : Int32)) C0 dX5_wet_66 rfl rfl ?_
        obtain ⟨hg_10, h⟩ := gd_of h
        refine zV_iast (n := 68) C0 6 0 rfl rfl hg_10 (S_9.1, S_9.2.1, zur S_9.2.2 14 (upd (S_9.2.2 14) ((((0 : Int32) + ((4 : Int32) * a1)) + a2)).toNatClampNeg (2 : Int32))) (wM_a14 cI cZ q ad S_9 (upd (S_9.2.2 14) ((((0 : Int32) + ((4 : Int32) * a1)) + a2)).toNatClampNeg (2 : Int32))) dX5_wet_67 rfl ?_
        refine zV_topS (fun S_11 eS_11 => ?_)
        replace h := zlet_of eS_11 h
        clear eS_11
        refine zV_iload_n (n := 69) C0 0 dX5_wet_68 rfl rfl ?_
        exact zretI hR h rfl dX5_wet_69
      · replace h := if_t hb_12 h
        refine zV_bipush (n := 50) (v := (-3 : Int32)) C0 dX5_wet_48 rfl rfl ?_
        exact zretI hR h rfl dX5_wet_50
    · replace h := if_t hb_13 h
      refine zV_bipush (n := 29) (v := (-2 : Int32)) C0 dX5_wet_27 rfl rfl ?_
      exact zretI hR h rfl dX5_wet_29
  · replace h := if_f hb_14 h
    refine zV_iconst (n := 14) (v := (-1 : Int32)) C0 dX5_wet_13 rfl rfl ?_
    exact zretI hR h rfl dX5_wet_14
set_option maxRecDepth 20000 in
theorem mX5_dry_0 : Cond.fieldLink RX5 63 "LeggedThroughModel" "thrown" "I" ∈ wsX5_dry := by decide +kernel
set_option maxRecDepth 20000 in
theorem mX5_dry_1 : Cond.constantLong RX5 128 (3 : Int64) ∈ wsX5_dry := by decide +kernel
set_option maxRecDepth 20000 in
theorem mX5_dry_2 : Cond.fieldLink RX5 29 "LeggedThroughModel" "page" "[I" ∈ wsX5_dry := by decide +kernel
set_option maxRecDepth 20000 in
theorem hinX5_dry_X5 : ∀ w ∈ u_ws RX5 TX5 37, w ∈ wsX5_dry := fun w h => List.mem_cons_of_mem _ (List.mem_append_right _ h)
set_option maxRecDepth 20000 in
set_option maxHeartbeats 4000000 in
theorem k_X5_dry {l : Launch} {D : va_G} {cI cZ : ClassId} {q : Nat} {ad : Nat → Nat} (a1 : Int32) (a2 : Int32)  (S : zS) (r : Int32 × zS) (h : f_X5_dry a1 a2 S = some r) : zI l yX5_dry wsX5_dry (zRm 2 46) D (zty cI cZ) zNw (wM cI cZ q ad) [.ref q, .int a1, .int a2] S r := by
  refine zI_of (cc := cX5_dry) (maxL := 5) (ty := .int) (by decide +kernel) rfl (Nat.le_of_ble_eq_true rfl) zNw_ok (fun E hE1 hE2 C0 hR => ?_)
  subst hE1; subst hE2
  replace C0 : zCx E (zRm 2 46) cX5_dry 5 RX5 wsX5_dry (zty cI cZ) zNw := C0
  show zV E (wM cI cZ q ad) 5 S 0 [(0, .ref q), (1, .int a1), (2, .int a2)] []
  delta f_X5_dry at h
  refine zV_aload_n (n := 1) C0 0 dX5_dry_0 rfl rfl ?_
  refine zV_iconst (n := 2) (v := (0 : Int32)) C0 dX5_dry_1 rfl rfl ?_
  refine zV_put (n := 5) (ref := RX5) C0 hinX5_dry_X5 0 rfl rfl 0 (Nat.le_of_ble_eq_true rfl) mX5_dry_0 rfl tyX5 tyX5_ok nmX5 rfl (tyX5_ok 0 (Nat.le_of_ble_eq_true rfl)) rfl rfl (Nat.le_of_ble_eq_true rfl) (upd S.1 0 (0 : Int32), S.2) (wM_f0 cI cZ q ad S (0 : Int32)) dX5_dry_2 rfl ?_
  refine zV_topS (fun S_1 eS_1 => ?_)
  replace h := zlet_of eS_1 h
  clear eS_1
  refine zV_aload_n (n := 6) C0 0 dX5_dry_5 rfl rfl ?_
  refine zV_iload_n (n := 7) C0 1 dX5_dry_6 rfl rfl ?_
  obtain ⟨r_3, hc_2, h⟩ := ob_of h
  refine zV_callVI (n := 10) (st := []) (As := [.int a1]) C0 (k_X5_noLegger a1 S_1 _ hc_2) gX5_dry_X5_noLegger rfl (hd_X5_noLegger) rfl ⟨rfl, rfl⟩ ⟨Nat.le_of_ble_eq_true rfl, Nat.le_of_ble_eq_true rfl⟩ 0 rfl rfl rfl (Nat.le_of_ble_eq_true rfl) dX5_dry_7 rfl ?_
  refine zV_if_eq (tgt := 15) (n := 13) C0 dX5_dry_10 rfl rfl (fun hb_22 => ?_) (fun hb_22 => ?_)
  · replace h := if_t hb_22 h
    refine zV_iload_n (n := 16) C0 2 dX5_dry_15 rfl rfl ?_
    refine zV_i2l (n := 17) C0 dX5_dry_16  rfl ?_
    refine zV_lconst (n := 18) (v := (0 : Int64)) C0 dX5_dry_17 rfl rfl ?_
    refine zV_ldc2 (n := 21) (v := (3 : Int64)) C0 dX5_dry_18 mX5_dry_1 rfl ?_
    obtain ⟨r_5, hc_4, h⟩ := ob_of h
    refine zV_callS0 (n := 24) (st := []) (As := [.long a2.toInt64, .long (0 : Int64), .long (3 : Int64)]) C0 (k_X5_in a2.toInt64 (0 : Int64) (3 : Int64) _ hc_4) gX5_dry_X5_in rfl (hd_X5_in) rfl ⟨rfl, rfl⟩ ⟨Nat.le_of_ble_eq_true rfl, Nat.le_of_ble_eq_true rfl⟩ rfl (Nat.le_of_ble_eq_true rfl) dX5_dry_21 rfl ?_
    refine zV_if_ne (tgt := 30) (n := 27) C0 dX5_dry_24 rfl rfl (fun hb_21 => ?_) (fun hb_21 => ?_)
    · replace h := if_f hb_21 h
      refine zV_aload_n (n := 31) C0 0 dX5_dry_30 rfl rfl ?_
      refine zV_get (n := 34) (ref := RX5) C0 hinX5_dry_X5 0 rfl rfl 14 (Nat.le_of_ble_eq_true rfl) mX5_dry_2 rfl rfl dX5_dry_31 rfl ?_
      refine zV_iconst (n := 35) (v := (0 : Int32)) C0 dX5_dry_34 rfl rfl ?_
      refine zV_iconst (n := 36) (v := (4 : Int32)) C0 dX5_dry_35 rfl rfl ?_
      refine zV_iload_n (n := 37) C0 1 dX5_dry_36 rfl rfl ?_
      refine zV_imul (n := 38) C0 dX5_dry_37  rfl ?_
      refine zV_iadd (n := 39) C0 dX5_dry_38  rfl ?_
      refine zV_iload_n (n := 40) C0 2 dX5_dry_39 rfl rfl ?_
      refine zV_iadd (n := 41) C0 dX5_dry_40  rfl ?_
      obtain ⟨hg_6, h⟩ := gd_of h
      refine zV_iald (n := 42) C0 6 0 rfl rfl hg_6 dX5_dry_41 rfl ?_
      refine zV_iconst (n := 43) (v := (2 : Int32)) C0 dX5_dry_42 rfl rfl ?_
      refine zV_icmp_eq (tgt := 49) (n := 46) C0 dX5_dry_43 rfl rfl (fun hb_20 => ?_) (fun hb_20 => ?_)
      · replace h := if_t hb_20 h
        refine zV_aload_n (n := 50) C0 0 dX5_dry_49 rfl rfl ?_
        obtain ⟨S_8, hc_7, h⟩ := ob_of h
        refine zV_callVU (n := 53) (st := []) (As := []) C0 (k_X5_note  S_1 _ hc_7) gX5_dry_X5_note rfl (hd_X5_note) rfl ⟨rfl, rfl⟩ ⟨Nat.le_of_ble_eq_true rfl, Nat.le_of_ble_eq_true rfl⟩ 0 rfl rfl rfl (Nat.le_of_ble_eq_true rfl) dX5_dry_50 rfl ?_
        refine zV_aload_n (n := 54) C0 0 dX5_dry_53 rfl rfl ?_
        refine zV_get (n := 57) (ref := RX5) C0 hinX5_dry_X5 0 rfl rfl 14 (Nat.le_of_ble_eq_true rfl) mX5_dry_2 rfl rfl dX5_dry_54 rfl ?_
        refine zV_iconst (n := 58) (v := (0 : Int32)) C0 dX5_dry_57 rfl rfl ?_
        refine zV_iconst (n := 59) (v := (4 : Int32)) C0 dX5_dry_58 rfl rfl ?_
        refine zV_iload_n (n := 60) C0 1 dX5_dry_59 rfl rfl ?_
        refine zV_imul (n := 61) C0 dX5_dry_60  rfl ?_
        refine zV_iadd (n := 62) C0 dX5_dry_61  rfl ?_
        refine zV_iload_n (n := 63) C0 2 dX5_dry_62 rfl rfl ?_
        refine zV_iadd (n := 64) C0 dX5_dry_63  rfl ?_
        refine zV_iconst (n := 65) (v := (0 : Int32)) C0 dX5_dry_64 rfl rfl ?_
        obtain ⟨hg_9, h⟩ := gd_of h
        refine zV_iast (n := 66) C0 6 0 rfl rfl hg_9 (S_8.1, S_8.2.1, zur S_8.2.2 14 (upd (S_8.2.2 14) ((((0 : Int32) + ((4 : Int32) * a1)) + a2)).toNatClampNeg (0 : Int32))) (wM_a14 cI cZ q ad S_8 (upd (S_8.2.2 14) ((((0 : Int32) + ((4 : Int32) * a1)) + a2)).toNatClampNeg (0 : Int32))) dX5_dry_65 rfl ?_
        refine zV_topS (fun S_10 eS_10 => ?_)
        replace h := zlet_of eS_10 h
        clear eS_10
        refine zV_iconst (n := 67) (v := (0 : Int32)) C0 dX5_dry_66 rfl rfl ?_
        refine zV_istore_n (n := 68) C0 [(3, .int (0 : Int32)), (0, .ref q), (1, .int a1), (2, .int a2)] dX5_dry_67 rfl rfl (Nat.le_of_ble_eq_true rfl) rfl ?_
        refine zV_iconst (n := 69) (v := (0 : Int32)) C0 dX5_dry_68 rfl rfl ?_
        refine zV_istore (n := 71) C0 [(4, .int (0 : Int32)), (3, .int (0 : Int32)), (0, .ref q), (1, .int a1), (2, .int a2)] dX5_dry_69 rfl (Nat.le_of_ble_eq_true rfl) rfl ?_
        refine zV_sub [2, 3, 1, 0] rfl ?_
        refine zfix_ind (fun e => zV E (wM cI cZ q ad) 5 S_10 71 [(0, .ref q), (1, .int a1), (3, .int e.1), (4, .int e.2)] []) (fun rec_13 hrec_13 e h => ?_) zN ((0 : Int32), (0 : Int32)) h
        obtain ⟨x3_11, x4_12⟩ := e
        have Jrec_13 : ∀ (x3_11 : Int32) (x4_12 : Int32), rec_13 (x3_11, x4_12) = some r → zV E (wM cI cZ q ad) 5 S_10 71 [(0, .ref q), (1, .int a1), (3, .int x3_11), (4, .int x4_12)] [] := fun x3_11 x4_12 h => hrec_13 _ h
        clear hrec_13
        dsimp only [F_X5_dry_71] at h
        show zV E (wM cI cZ q ad) 5 S_10 71 [(0, .ref q), (1, .int a1), (3, .int x3_11), (4, .int x4_12)] []
        refine zV_iload (n := 73) C0 3 dX5_dry_71 rfl rfl ?_
        refine zV_iconst (n := 74) (v := (4 : Int32)) C0 dX5_dry_73 rfl rfl ?_
        refine zV_icmp_ge (tgt := 108) (n := 77) C0 dX5_dry_74 rfl rfl (fun hb_19 => ?_) (fun hb_19 => ?_)
        · replace h := if_t hb_19 h
          refine zV_iload_n (n := 109) C0 2 dX5_dry_108 rfl rfl ?_
          exact zretI hR h rfl dX5_dry_109
        · replace h := if_f hb_19 h
          refine zV_iload_n (n := 78) C0 2 dX5_dry_77 rfl rfl ?_
          refine zV_aload_n (n := 79) C0 0 dX5_dry_78 rfl rfl ?_
          refine zV_get (n := 82) (ref := RX5) C0 hinX5_dry_X5 0 rfl rfl 14 (Nat.le_of_ble_eq_true rfl) mX5_dry_2 rfl rfl dX5_dry_79 rfl ?_
          refine zV_iconst (n := 83) (v := (0 : Int32)) C0 dX5_dry_82 rfl rfl ?_
          refine zV_iconst (n := 84) (v := (4 : Int32)) C0 dX5_dry_83 rfl rfl ?_
          refine zV_iload_n (n := 85) C0 1 dX5_dry_84 rfl rfl ?_
          refine zV_imul (n := 86) C0 dX5_dry_85  rfl ?_
          refine zV_iadd (n := 87) C0 dX5_dry_86  rfl ?_
          refine zV_iload (n := 89) C0 3 dX5_dry_87 rfl rfl ?_
          refine zV_iadd (n := 90) C0 dX5_dry_89  rfl ?_
          obtain ⟨hg_14, h⟩ := gd_of h
          refine zV_iald (n := 91) C0 6 0 rfl rfl hg_14 dX5_dry_90 rfl ?_
          refine zV_iconst (n := 92) (v := (2 : Int32)) C0 dX5_dry_91 rfl rfl ?_
          refine zjoin_of h (fun k_16 hk_16 h => ?_)
          have Jk_16 : ∀ (s_15 : Int32), k_16 (s_15) = some r → zV E (wM cI cZ q ad) 5 S_10 100 [(0, .ref q), (1, .int a1), (4, .int x4_12)] [.int s_15, .int x3_11] := by
            intro s_15 h
            replace h := hk_16 _ h
            refine zV_iadd (n := 101) C0 dX5_dry_100  rfl ?_
            refine zV_topi (fun x3_17 ex3_17 => ?_)
            replace h := zlet_of ex3_17 h
            clear ex3_17
            refine zV_istore_n (n := 102) C0 [(3, .int x3_17), (0, .ref q), (1, .int a1), (4, .int x4_12)] dX5_dry_101 rfl rfl (Nat.le_of_ble_eq_true rfl) rfl ?_
            refine zV_iinc (n := 105) C0 3 (v := (x4_12 + (1 : Int32))) [(4, .int (x4_12 + (1 : Int32))), (3, .int x3_17), (0, .ref q), (1, .int a1)] dX5_dry_102 rfl rfl rfl (Nat.le_of_ble_eq_true rfl) rfl ?_
            refine zV_goto (tgt := 71) C0 dX5_dry_105 rfl ?_
            refine zV_sub [2, 3, 1, 0] rfl ?_
            exact Jrec_13 x3_17 (x4_12 + (1 : Int32)) h
          clear hk_16
          refine zV_icmp_ne (tgt := 99) (n := 95) C0 dX5_dry_92 rfl rfl (fun hb_18 => ?_) (fun hb_18 => ?_)
          · replace h := if_f hb_18 h
            refine zV_iconst (n := 100) (v := (0 : Int32)) C0 dX5_dry_99 rfl rfl ?_
            refine zV_sub [0, 1, 3] rfl ?_
            exact Jk_16 (0 : Int32) h
          · replace h := if_t hb_18 h
            refine zV_iconst (n := 96) (v := (1 : Int32)) C0 dX5_dry_95 rfl rfl ?_
            refine zV_goto (tgt := 100) C0 dX5_dry_96 rfl ?_
            refine zV_sub [0, 1, 3] rfl ?_
            exact Jk_16 (1 : Int32) h
      · replace h := if_f hb_20 h
        refine zV_bipush (n := 48) (v := (-3 : Int32)) C0 dX5_dry_46 rfl rfl ?_
        exact zretI hR h rfl dX5_dry_48
    · replace h := if_t hb_21 h
      refine zV_bipush (n := 29) (v := (-2 : Int32)) C0 dX5_dry_27 rfl rfl ?_
      exact zretI hR h rfl dX5_dry_29
  · replace h := if_f hb_22 h
    refine zV_iconst (n := 14) (v := (-1 : Int32)) C0 dX5_dry_13 rfl rfl ?_
    exact zretI hR h rfl dX5_dry_14
set_option maxRecDepth 20000 in
theorem mX5_undo_0 : Cond.fieldLink RX5 63 "LeggedThroughModel" "thrown" "I" ∈ wsX5_undo := by decide +kernel
set_option maxRecDepth 20000 in
theorem mX5_undo_1 : Cond.fieldLink RX5 107 "LeggedThroughModel" "acts" "I" ∈ wsX5_undo := by decide +kernel
set_option maxRecDepth 20000 in
theorem mX5_undo_2 : Cond.fieldLink RX5 29 "LeggedThroughModel" "page" "[I" ∈ wsX5_undo := by decide +kernel
set_option maxRecDepth 20000 in
theorem mX5_undo_3 : Cond.fieldLink RX5 38 "LeggedThroughModel" "book" "[I" ∈ wsX5_undo := by decide +kernel
set_option maxRecDepth 20000 in
theorem hinX5_undo_X5 : ∀ w ∈ u_ws RX5 TX5 37, w ∈ wsX5_undo := fun w h => List.mem_cons_of_mem _ (List.mem_append_right _ h)
set_option maxRecDepth 20000 in
set_option maxHeartbeats 4000000 in
theorem k_X5_undo {l : Launch} {D : va_G} {cI cZ : ClassId} {q : Nat} {ad : Nat → Nat}   (S : zS) (r : Int32 × zS) (h : f_X5_undo  S = some r) : zI l yX5_undo wsX5_undo (zRm 0 0) D (zty cI cZ) zNw (wM cI cZ q ad) [.ref q] S r := by
  refine zI_of (cc := cX5_undo) (maxL := 2) (ty := .int) (by decide +kernel) rfl (Nat.le_of_ble_eq_true rfl) zNw_ok (fun E hE1 hE2 C0 hR => ?_)
  subst hE1; subst hE2
  replace C0 : zCx E (zRm 0 0) cX5_undo 2 RX5 wsX5_undo (zty cI cZ) zNw := C0
  show zV E (wM cI cZ q ad) 2 S 0 [(0, .ref q)] []
  delta f_X5_undo at h
  refine zV_aload_n (n := 1) C0 0 dX5_undo_0 rfl rfl ?_
  refine zV_iconst (n := 2) (v := (0 : Int32)) C0 dX5_undo_1 rfl rfl ?_
  refine zV_put (n := 5) (ref := RX5) C0 hinX5_undo_X5 0 rfl rfl 0 (Nat.le_of_ble_eq_true rfl) mX5_undo_0 rfl tyX5 tyX5_ok nmX5 rfl (tyX5_ok 0 (Nat.le_of_ble_eq_true rfl)) rfl rfl (Nat.le_of_ble_eq_true rfl) (upd S.1 0 (0 : Int32), S.2) (wM_f0 cI cZ q ad S (0 : Int32)) dX5_undo_2 rfl ?_
  refine zV_topS (fun S_1 eS_1 => ?_)
  replace h := zlet_of eS_1 h
  clear eS_1
  refine zV_aload_n (n := 6) C0 0 dX5_undo_5 rfl rfl ?_
  refine zV_get (n := 9) (ref := RX5) C0 hinX5_undo_X5 0 rfl rfl 18 (Nat.le_of_ble_eq_true rfl) mX5_undo_1 rfl rfl dX5_undo_6 rfl ?_
  refine zV_if_ne (tgt := 15) (n := 12) C0 dX5_undo_9 rfl rfl (fun hb_10 => ?_) (fun hb_10 => ?_)
  · replace h := if_f hb_10 h
    refine zV_aload_n (n := 16) C0 0 dX5_undo_15 rfl rfl ?_
    refine zV_dup (n := 17) C0 dX5_undo_16 rfl rfl ?_
    refine zV_get (n := 20) (ref := RX5) C0 hinX5_undo_X5 0 rfl rfl 18 (Nat.le_of_ble_eq_true rfl) mX5_undo_1 rfl rfl dX5_undo_17 rfl ?_
    refine zV_iconst (n := 21) (v := (1 : Int32)) C0 dX5_undo_20 rfl rfl ?_
    refine zV_isub (n := 22) C0 dX5_undo_21  rfl ?_
    refine zV_put (n := 25) (ref := RX5) C0 hinX5_undo_X5 0 rfl rfl 18 (Nat.le_of_ble_eq_true rfl) mX5_undo_1 rfl tyX5 tyX5_ok nmX5 rfl (tyX5_ok 18 (Nat.le_of_ble_eq_true rfl)) rfl rfl (Nat.le_of_ble_eq_true rfl) (upd S_1.1 18 ((S_1.1 18) - (1 : Int32)), S_1.2) (wM_f18 cI cZ q ad S_1 ((S_1.1 18) - (1 : Int32))) dX5_undo_22 rfl ?_
    refine zV_topS (fun S_2 eS_2 => ?_)
    replace h := zlet_of eS_2 h
    clear eS_2
    refine zV_iconst (n := 26) (v := (0 : Int32)) C0 dX5_undo_25 rfl rfl ?_
    refine zV_istore_n (n := 27) C0 [(1, .int (0 : Int32)), (0, .ref q)] dX5_undo_26 rfl rfl (Nat.le_of_ble_eq_true rfl) rfl ?_
    refine zV_sub [1, 0] rfl ?_
    refine zfix_ind (fun e => zV E (wM cI cZ q ad) 2 e.2 27 [(0, .ref q), (1, .int e.1)] []) (fun rec_5 hrec_5 e h => ?_) zN ((0 : Int32), S_2) h
    obtain ⟨x1_3, S_4⟩ := e
    have Jrec_5 : ∀ (x1_3 : Int32) (S_4 : zS), rec_5 (x1_3, S_4) = some r → zV E (wM cI cZ q ad) 2 S_4 27 [(0, .ref q), (1, .int x1_3)] [] := fun x1_3 S_4 h => hrec_5 _ h
    clear hrec_5
    dsimp only [F_X5_undo_27] at h
    show zV E (wM cI cZ q ad) 2 S_4 27 [(0, .ref q), (1, .int x1_3)] []
    refine zV_iload_n (n := 28) C0 1 dX5_undo_27 rfl rfl ?_
    refine zV_bipush (n := 30) (v := (22 : Int32)) C0 dX5_undo_28 rfl rfl ?_
    refine zV_icmp_ge (tgt := 59) (n := 33) C0 dX5_undo_30 rfl rfl (fun hb_9 => ?_) (fun hb_9 => ?_)
    · replace h := if_t hb_9 h
      refine zV_aload_n (n := 60) C0 0 dX5_undo_59 rfl rfl ?_
      refine zV_get (n := 63) (ref := RX5) C0 hinX5_undo_X5 0 rfl rfl 18 (Nat.le_of_ble_eq_true rfl) mX5_undo_1 rfl rfl dX5_undo_60 rfl ?_
      exact zretI hR h rfl dX5_undo_63
    · replace h := if_f hb_9 h
      refine zV_aload_n (n := 34) C0 0 dX5_undo_33 rfl rfl ?_
      refine zV_get (n := 37) (ref := RX5) C0 hinX5_undo_X5 0 rfl rfl 14 (Nat.le_of_ble_eq_true rfl) mX5_undo_2 rfl rfl dX5_undo_34 rfl ?_
      refine zV_iload_n (n := 38) C0 1 dX5_undo_37 rfl rfl ?_
      refine zV_aload_n (n := 39) C0 0 dX5_undo_38 rfl rfl ?_
      refine zV_get (n := 42) (ref := RX5) C0 hinX5_undo_X5 0 rfl rfl 17 (Nat.le_of_ble_eq_true rfl) mX5_undo_3 rfl rfl dX5_undo_39 rfl ?_
      refine zV_bipush (n := 44) (v := (22 : Int32)) C0 dX5_undo_42 rfl rfl ?_
      refine zV_aload_n (n := 45) C0 0 dX5_undo_44 rfl rfl ?_
      refine zV_get (n := 48) (ref := RX5) C0 hinX5_undo_X5 0 rfl rfl 18 (Nat.le_of_ble_eq_true rfl) mX5_undo_1 rfl rfl dX5_undo_45 rfl ?_
      refine zV_imul (n := 49) C0 dX5_undo_48  rfl ?_
      refine zV_iload_n (n := 50) C0 1 dX5_undo_49 rfl rfl ?_
      refine zV_iadd (n := 51) C0 dX5_undo_50  rfl ?_
      obtain ⟨hg_6, h⟩ := gd_of h
      refine zV_iald (n := 52) C0 9 0 rfl rfl hg_6 dX5_undo_51 rfl ?_
      obtain ⟨hg_7, h⟩ := gd_of h
      refine zV_iast (n := 53) C0 6 0 rfl rfl hg_7 (S_4.1, S_4.2.1, zur S_4.2.2 14 (upd (S_4.2.2 14) (x1_3).toNatClampNeg (S_4.2.2 17 ((((22 : Int32) * (S_4.1 18)) + x1_3)).toNatClampNeg))) (wM_a14 cI cZ q ad S_4 (upd (S_4.2.2 14) (x1_3).toNatClampNeg (S_4.2.2 17 ((((22 : Int32) * (S_4.1 18)) + x1_3)).toNatClampNeg))) dX5_undo_52 rfl ?_
      refine zV_topS (fun S_8 eS_8 => ?_)
      replace h := zlet_of eS_8 h
      clear eS_8
      refine zV_iinc (n := 56) C0 1 (v := (x1_3 + (1 : Int32))) [(1, .int (x1_3 + (1 : Int32))), (0, .ref q)] dX5_undo_53 rfl rfl rfl (Nat.le_of_ble_eq_true rfl) rfl ?_
      refine zV_goto (tgt := 27) C0 dX5_undo_56 rfl ?_
      refine zV_sub [1, 0] rfl ?_
      exact Jrec_5 (x1_3 + (1 : Int32)) S_8 h
  · replace h := if_t hb_10 h
    refine zV_bipush (n := 14) (v := (-3 : Int32)) C0 dX5_undo_12 rfl rfl ?_
    exact zretI hR h rfl dX5_undo_14
set_option maxRecDepth 20000 in
set_option maxHeartbeats 4000000 in
theorem k_X5_copy {l : Launch} {D : va_G} {cI cZ : ClassId} {q : Nat} {ad : Nat → Nat} (k0 : Nat) (k1 : Nat) (hk0 : mok k0) (hk1 : mok k1) (S : zS) (r : zS) (h : f_X5_copy k0 k1 S = some r) : zU l yX5_copy wsX5_copy (zRm 0 0) D (zty cI cZ) zNw (wM cI cZ q ad) [.ref (ad k0), .ref (ad k1)] S r := by
  refine zU_of (cc := cX5_copy) (maxL := 3)  (by decide +kernel) rfl (Nat.le_of_ble_eq_true rfl) zNw_ok (fun E hE1 hE2 C0 hR => ?_)
  subst hE1; subst hE2
  replace C0 : zCx E (zRm 0 0) cX5_copy 3 RX5 wsX5_copy (zty cI cZ) zNw := C0
  show zV E (wM cI cZ q ad) 3 S 0 [(0, .ref (ad k0)), (1, .ref (ad k1))] []
  delta f_X5_copy at h
  refine zV_iconst (n := 1) (v := (0 : Int32)) C0 dX5_copy_0 rfl rfl ?_
  refine zV_istore_n (n := 2) C0 [(2, .int (0 : Int32)), (0, .ref (ad k0)), (1, .ref (ad k1))] dX5_copy_1 rfl rfl (Nat.le_of_ble_eq_true rfl) rfl ?_
  refine zV_sub [1, 2, 0] rfl ?_
  refine zfix_ind (fun e => zV E (wM cI cZ q ad) 3 e.2 2 [(0, .ref (ad k0)), (1, .ref (ad k1)), (2, .int e.1)] []) (fun rec_3 hrec_3 e h => ?_) zN ((0 : Int32), S) h
  obtain ⟨x2_1, S_2⟩ := e
  have Jrec_3 : ∀ (x2_1 : Int32) (S_2 : zS), rec_3 (x2_1, S_2) = some r → zV E (wM cI cZ q ad) 3 S_2 2 [(0, .ref (ad k0)), (1, .ref (ad k1)), (2, .int x2_1)] [] := fun x2_1 S_2 h => hrec_3 _ h
  clear hrec_3
  dsimp only [F_X5_copy_2] at h
  show zV E (wM cI cZ q ad) 3 S_2 2 [(0, .ref (ad k0)), (1, .ref (ad k1)), (2, .int x2_1)] []
  refine zV_iload_n (n := 3) C0 2 dX5_copy_2 rfl rfl ?_
  refine zV_bipush (n := 5) (v := (22 : Int32)) C0 dX5_copy_3 rfl rfl ?_
  refine zV_icmp_ge (tgt := 20) (n := 8) C0 dX5_copy_5 rfl rfl (fun hb_7 => ?_) (fun hb_7 => ?_)
  · replace h := if_t hb_7 h
    exact zretU hR h dX5_copy_20
  · replace h := if_f hb_7 h
    refine zV_aload_n (n := 9) C0 1 dX5_copy_8 rfl rfl ?_
    refine zV_iload_n (n := 10) C0 2 dX5_copy_9 rfl rfl ?_
    refine zV_aload_n (n := 11) C0 0 dX5_copy_10 rfl rfl ?_
    refine zV_iload_n (n := 12) C0 2 dX5_copy_11 rfl rfl ?_
    obtain ⟨hg_4, h⟩ := gd_of h
    refine zV_iald (n := 13) C0 (k0 - 8) 0 (wM_at cI cZ q ad S_2 hk0) rfl hg_4 dX5_copy_12 rfl ?_
    obtain ⟨hg_5, h⟩ := gd_of h
    refine zV_iast (n := 14) C0 (k1 - 8) 0 (wM_at cI cZ q ad S_2 hk1) rfl hg_5 (S_2.1, S_2.2.1, zur S_2.2.2 k1 (upd (S_2.2.2 k1) (x2_1).toNatClampNeg (S_2.2.2 k0 (x2_1).toNatClampNeg))) (wM_as cI cZ q ad S_2 hk1 (upd (S_2.2.2 k1) (x2_1).toNatClampNeg (S_2.2.2 k0 (x2_1).toNatClampNeg))) dX5_copy_13 rfl ?_
    refine zV_topS (fun S_6 eS_6 => ?_)
    replace h := zlet_of eS_6 h
    clear eS_6
    refine zV_iinc (n := 17) C0 2 (v := (x2_1 + (1 : Int32))) [(2, .int (x2_1 + (1 : Int32))), (0, .ref (ad k0)), (1, .ref (ad k1))] dX5_copy_14 rfl rfl rfl (Nat.le_of_ble_eq_true rfl) rfl ?_
    refine zV_goto (tgt := 2) C0 dX5_copy_17 rfl ?_
    refine zV_sub [1, 2, 0] rfl ?_
    exact Jrec_3 (x2_1 + (1 : Int32)) S_6 h
set_option maxRecDepth 20000 in
theorem mX5_alone_0 : Cond.fieldLink RX5 63 "LeggedThroughModel" "thrown" "I" ∈ wsX5_alone := by decide +kernel
set_option maxRecDepth 20000 in
theorem mX5_alone_1 : Cond.constantLong RX5 128 (3 : Int64) ∈ wsX5_alone := by decide +kernel
set_option maxRecDepth 20000 in
theorem mX5_alone_2 : Cond.fieldLink RX5 13 "LeggedThroughModel" "steps" "I" ∈ wsX5_alone := by decide +kernel
set_option maxRecDepth 20000 in
theorem mX5_alone_3 : Cond.fieldLink RX5 29 "LeggedThroughModel" "page" "[I" ∈ wsX5_alone := by decide +kernel
set_option maxRecDepth 20000 in
theorem hinX5_alone_X5 : ∀ w ∈ u_ws RX5 TX5 37, w ∈ wsX5_alone := fun w h => List.mem_cons_of_mem _ (List.mem_append_right _ h)
set_option maxRecDepth 20000 in
set_option maxHeartbeats 4000000 in
theorem k_X5_alone {l : Launch} {D : va_G} {cI cZ : ClassId} {q : Nat} {ad : Nat → Nat} (a1 : Int32) (a2 : Int32)  (S : zS) (r : Int32 × zS) (h : f_X5_alone a1 a2 S = some r) : zI l yX5_alone wsX5_alone (zRm 2 46) D (zty cI cZ) zNw (wM cI cZ q ad) [.ref q, .int a1, .int a2] S r := by
  refine zI_of (cc := cX5_alone) (maxL := 6) (ty := .int) (by decide +kernel) rfl (Nat.le_of_ble_eq_true rfl) zNw_ok (fun E hE1 hE2 C0 hR => ?_)
  subst hE1; subst hE2
  replace C0 : zCx E (zRm 2 46) cX5_alone 6 RX5 wsX5_alone (zty cI cZ) zNw := C0
  show zV E (wM cI cZ q ad) 6 S 0 [(0, .ref q), (1, .int a1), (2, .int a2)] []
  delta f_X5_alone at h
  refine zV_aload_n (n := 1) C0 0 dX5_alone_0 rfl rfl ?_
  refine zV_iconst (n := 2) (v := (0 : Int32)) C0 dX5_alone_1 rfl rfl ?_
  refine zV_put (n := 5) (ref := RX5) C0 hinX5_alone_X5 0 rfl rfl 0 (Nat.le_of_ble_eq_true rfl) mX5_alone_0 rfl tyX5 tyX5_ok nmX5 rfl (tyX5_ok 0 (Nat.le_of_ble_eq_true rfl)) rfl rfl (Nat.le_of_ble_eq_true rfl) (upd S.1 0 (0 : Int32), S.2) (wM_f0 cI cZ q ad S (0 : Int32)) dX5_alone_2 rfl ?_
  refine zV_topS (fun S_1 eS_1 => ?_)
  replace h := zlet_of eS_1 h
  clear eS_1
  refine zV_aload_n (n := 6) C0 0 dX5_alone_5 rfl rfl ?_
  refine zV_iload_n (n := 7) C0 1 dX5_alone_6 rfl rfl ?_
  obtain ⟨r_3, hc_2, h⟩ := ob_of h
  refine zV_callVI (n := 10) (st := []) (As := [.int a1]) C0 (k_X5_noLegger a1 S_1 _ hc_2) gX5_alone_X5_noLegger rfl (hd_X5_noLegger) rfl ⟨rfl, rfl⟩ ⟨Nat.le_of_ble_eq_true rfl, Nat.le_of_ble_eq_true rfl⟩ 0 rfl rfl rfl (Nat.le_of_ble_eq_true rfl) dX5_alone_7 rfl ?_
  refine zV_if_eq (tgt := 15) (n := 13) C0 dX5_alone_10 rfl rfl (fun hb_18 => ?_) (fun hb_18 => ?_)
  · replace h := if_t hb_18 h
    refine zV_iload_n (n := 16) C0 2 dX5_alone_15 rfl rfl ?_
    refine zV_i2l (n := 17) C0 dX5_alone_16  rfl ?_
    refine zV_lconst (n := 18) (v := (0 : Int64)) C0 dX5_alone_17 rfl rfl ?_
    refine zV_ldc2 (n := 21) (v := (3 : Int64)) C0 dX5_alone_18 mX5_alone_1 rfl ?_
    obtain ⟨r_5, hc_4, h⟩ := ob_of h
    refine zV_callS0 (n := 24) (st := []) (As := [.long a2.toInt64, .long (0 : Int64), .long (3 : Int64)]) C0 (k_X5_in a2.toInt64 (0 : Int64) (3 : Int64) _ hc_4) gX5_alone_X5_in rfl (hd_X5_in) rfl ⟨rfl, rfl⟩ ⟨Nat.le_of_ble_eq_true rfl, Nat.le_of_ble_eq_true rfl⟩ rfl (Nat.le_of_ble_eq_true rfl) dX5_alone_21 rfl ?_
    refine zV_if_ne (tgt := 30) (n := 27) C0 dX5_alone_24 rfl rfl (fun hb_17 => ?_) (fun hb_17 => ?_)
    · replace h := if_f hb_17 h
      refine zV_iload_n (n := 31) C0 2 dX5_alone_30 rfl rfl ?_
      refine zV_istore_n (n := 32) C0 [(3, .int a2), (0, .ref q), (1, .int a1), (2, .int a2)] dX5_alone_31 rfl rfl (Nat.le_of_ble_eq_true rfl) rfl ?_
      refine zV_iconst (n := 33) (v := (0 : Int32)) C0 dX5_alone_32 rfl rfl ?_
      refine zV_istore (n := 35) C0 [(4, .int (0 : Int32)), (3, .int a2), (0, .ref q), (1, .int a1), (2, .int a2)] dX5_alone_33 rfl (Nat.le_of_ble_eq_true rfl) rfl ?_
      refine zV_iconst (n := 36) (v := (0 : Int32)) C0 dX5_alone_35 rfl rfl ?_
      refine zV_istore (n := 38) C0 [(5, .int (0 : Int32)), (4, .int (0 : Int32)), (3, .int a2), (0, .ref q), (1, .int a1), (2, .int a2)] dX5_alone_36 rfl (Nat.le_of_ble_eq_true rfl) rfl ?_
      refine zV_sub [3, 4, 2, 1, 0] rfl ?_
      refine zfix_ind (fun e => zV E (wM cI cZ q ad) 6 S_1 38 [(0, .ref q), (1, .int a1), (3, .int e.1), (4, .int e.2.1), (5, .int e.2.2)] []) (fun rec_9 hrec_9 e h => ?_) zN (a2, (0 : Int32), (0 : Int32)) h
      obtain ⟨x3_6, x4_7, x5_8⟩ := e
      have Jrec_9 : ∀ (x3_6 : Int32) (x4_7 : Int32) (x5_8 : Int32), rec_9 (x3_6, x4_7, x5_8) = some r → zV E (wM cI cZ q ad) 6 S_1 38 [(0, .ref q), (1, .int a1), (3, .int x3_6), (4, .int x4_7), (5, .int x5_8)] [] := fun x3_6 x4_7 x5_8 h => hrec_9 _ h
      clear hrec_9
      dsimp only [F_X5_alone_38] at h
      show zV E (wM cI cZ q ad) 6 S_1 38 [(0, .ref q), (1, .int a1), (3, .int x3_6), (4, .int x4_7), (5, .int x5_8)] []
      refine zV_iload (n := 40) C0 4 dX5_alone_38 rfl rfl ?_
      refine zV_aload_n (n := 41) C0 0 dX5_alone_40 rfl rfl ?_
      refine zV_get (n := 44) (ref := RX5) C0 hinX5_alone_X5 0 rfl rfl 4 (Nat.le_of_ble_eq_true rfl) mX5_alone_2 rfl rfl dX5_alone_41 rfl ?_
      refine zV_icmp_ge (tgt := 87) (n := 47) C0 dX5_alone_44 rfl rfl (fun hb_16 => ?_) (fun hb_16 => ?_)
      · replace h := if_t hb_16 h
        refine zV_iload (n := 89) C0 3 dX5_alone_87 rfl rfl ?_
        exact zretI hR h rfl dX5_alone_89
      · replace h := if_f hb_16 h
        refine zV_iload (n := 49) C0 3 dX5_alone_47 rfl rfl ?_
        refine zV_aload_n (n := 50) C0 0 dX5_alone_49 rfl rfl ?_
        refine zV_aload_n (n := 51) C0 0 dX5_alone_50 rfl rfl ?_
        refine zV_get (n := 54) (ref := RX5) C0 hinX5_alone_X5 0 rfl rfl 14 (Nat.le_of_ble_eq_true rfl) mX5_alone_3 rfl rfl dX5_alone_51 rfl ?_
        refine zV_iload_n (n := 55) C0 1 dX5_alone_54 rfl rfl ?_
        refine zV_iload (n := 57) C0 4 dX5_alone_55 rfl rfl ?_
        refine zV_iload_n (n := 58) C0 2 dX5_alone_57 rfl rfl ?_
        obtain ⟨r_11, hc_10, h⟩ := ob_of h
        refine zV_callVI (n := 61) (st := [.int x4_7]) (As := [.ref (ad 14), .int a1, .int x5_8, .int x3_6]) C0 (k_X5_takes 14 a1 x5_8 x3_6 (by decide) S_1 _ hc_10) gX5_alone_X5_takes rfl (hd_X5_takes) rfl ⟨rfl, rfl⟩ ⟨Nat.le_of_ble_eq_true rfl, Nat.le_of_ble_eq_true rfl⟩ 0 rfl rfl rfl (Nat.le_of_ble_eq_true rfl) dX5_alone_58 rfl ?_
        refine zV_iadd (n := 62) C0 dX5_alone_61  rfl ?_
        refine zV_topi (fun x4_12 ex4_12 => ?_)
        replace h := zlet_of ex4_12 h
        clear ex4_12
        refine zV_istore (n := 64) C0 [(4, .int x4_12), (0, .ref q), (1, .int a1), (3, .int x3_6), (5, .int x5_8)] dX5_alone_62 rfl (Nat.le_of_ble_eq_true rfl) rfl ?_
        refine zV_iload_n (n := 65) C0 3 dX5_alone_64 rfl rfl ?_
        refine zV_aload_n (n := 66) C0 1 dX5_alone_65 rfl rfl ?_
        refine zV_get (n := 69) (ref := RX5) C0 hinX5_alone_X5 0 rfl rfl 14 (Nat.le_of_ble_eq_true rfl) mX5_alone_3 rfl rfl dX5_alone_66 rfl ?_
        refine zV_iconst (n := 70) (v := (0 : Int32)) C0 dX5_alone_69 rfl rfl ?_
        refine zV_iconst (n := 71) (v := (4 : Int32)) C0 dX5_alone_70 rfl rfl ?_
        refine zV_iload_n (n := 72) C0 2 dX5_alone_71 rfl rfl ?_
        refine zV_imul (n := 73) C0 dX5_alone_72  rfl ?_
        refine zV_iadd (n := 74) C0 dX5_alone_73  rfl ?_
        refine zV_iload_n (n := 75) C0 3 dX5_alone_74 rfl rfl ?_
        refine zV_iadd (n := 76) C0 dX5_alone_75  rfl ?_
        obtain ⟨hg_13, h⟩ := gd_of h
        refine zV_iald (n := 77) C0 6 0 rfl rfl hg_13 dX5_alone_76 rfl ?_
        obtain ⟨r_15, hc_14, h⟩ := ob_of h
        refine zV_callS0 (n := 80) (st := []) (As := [.int x3_6, .int (S_1.2.2 14 ((((0 : Int32) + ((4 : Int32) * a1)) + x3_6)).toNatClampNeg)]) C0 (k_X5_next x3_6 (S_1.2.2 14 ((((0 : Int32) + ((4 : Int32) * a1)) + x3_6)).toNatClampNeg) _ hc_14) gX5_alone_X5_next rfl (hd_X5_next) rfl ⟨rfl, rfl⟩ ⟨Nat.le_of_ble_eq_true rfl, Nat.le_of_ble_eq_true rfl⟩ rfl (Nat.le_of_ble_eq_true rfl) dX5_alone_77 rfl ?_
        refine zV_istore_n (n := 81) C0 [(3, .int r_15), (4, .int x4_12), (0, .ref q), (1, .int a1), (5, .int x5_8)] dX5_alone_80 rfl rfl (Nat.le_of_ble_eq_true rfl) rfl ?_
        refine zV_iinc (n := 84) C0 4 (v := (x5_8 + (1 : Int32))) [(5, .int (x5_8 + (1 : Int32))), (3, .int r_15), (4, .int x4_12), (0, .ref q), (1, .int a1)] dX5_alone_81 rfl rfl rfl (Nat.le_of_ble_eq_true rfl) rfl ?_
        refine zV_goto (tgt := 38) C0 dX5_alone_84 rfl ?_
        refine zV_sub [3, 4, 1, 2, 0] rfl ?_
        exact Jrec_9 r_15 x4_12 (x5_8 + (1 : Int32)) h
    · replace h := if_t hb_17 h
      refine zV_bipush (n := 29) (v := (-2 : Int32)) C0 dX5_alone_27 rfl rfl ?_
      exact zretI hR h rfl dX5_alone_29
  · replace h := if_f hb_18 h
    refine zV_iconst (n := 14) (v := (-1 : Int32)) C0 dX5_alone_13 rfl rfl ?_
    exact zretI hR h rfl dX5_alone_14
set_option maxRecDepth 20000 in
theorem mX5_time_0 : Cond.fieldLink RX5 63 "LeggedThroughModel" "thrown" "I" ∈ wsX5_time := by decide +kernel
set_option maxRecDepth 20000 in
theorem mX5_time_1 : Cond.constantLong RX5 128 (3 : Int64) ∈ wsX5_time := by decide +kernel
set_option maxRecDepth 20000 in
theorem mX5_time_2 : Cond.fieldLink RX5 29 "LeggedThroughModel" "page" "[I" ∈ wsX5_time := by decide +kernel
set_option maxRecDepth 20000 in
theorem mX5_time_3 : Cond.fieldLink RX5 20 "LeggedThroughModel" "load" "[I" ∈ wsX5_time := by decide +kernel
set_option maxRecDepth 20000 in
theorem hinX5_time_X5 : ∀ w ∈ u_ws RX5 TX5 37, w ∈ wsX5_time := fun w h => List.mem_cons_of_mem _ (List.mem_append_right _ h)
set_option maxRecDepth 20000 in
set_option maxHeartbeats 4000000 in
theorem k_X5_time {l : Launch} {D : va_G} {cI cZ : ClassId} {q : Nat} {ad : Nat → Nat} (a1 : Int32) (a2 : Int32) (a3 : Int32) (a4 : Int32) (a5 : Int32)  (S : zS) (r : Int32 × zS) (h : f_X5_time a1 a2 a3 a4 a5 S = some r) : zI l yX5_time wsX5_time (zRm 3 78) D (zty cI cZ) zNw (wM cI cZ q ad) [.ref q, .int a1, .int a2, .int a3, .int a4, .int a5] S r := by
  refine zI_of (cc := cX5_time) (maxL := 7) (ty := .int) (by decide +kernel) rfl (Nat.le_of_ble_eq_true rfl) zNw_ok (fun E hE1 hE2 C0 hR => ?_)
  subst hE1; subst hE2
  replace C0 : zCx E (zRm 3 78) cX5_time 7 RX5 wsX5_time (zty cI cZ) zNw := C0
  show zV E (wM cI cZ q ad) 7 S 0 [(0, .ref q), (1, .int a1), (2, .int a2), (3, .int a3), (4, .int a4), (5, .int a5)] []
  delta f_X5_time at h
  refine zV_aload_n (n := 1) C0 0 dX5_time_0 rfl rfl ?_
  refine zV_iconst (n := 2) (v := (0 : Int32)) C0 dX5_time_1 rfl rfl ?_
  refine zV_put (n := 5) (ref := RX5) C0 hinX5_time_X5 0 rfl rfl 0 (Nat.le_of_ble_eq_true rfl) mX5_time_0 rfl tyX5 tyX5_ok nmX5 rfl (tyX5_ok 0 (Nat.le_of_ble_eq_true rfl)) rfl rfl (Nat.le_of_ble_eq_true rfl) (upd S.1 0 (0 : Int32), S.2) (wM_f0 cI cZ q ad S (0 : Int32)) dX5_time_2 rfl ?_
  refine zV_topS (fun S_1 eS_1 => ?_)
  replace h := zlet_of eS_1 h
  clear eS_1
  refine zV_aload_n (n := 6) C0 0 dX5_time_5 rfl rfl ?_
  refine zV_iload_n (n := 7) C0 1 dX5_time_6 rfl rfl ?_
  refine zV_iload_n (n := 8) C0 2 dX5_time_7 rfl rfl ?_
  refine zV_iload_n (n := 9) C0 3 dX5_time_8 rfl rfl ?_
  obtain ⟨r_3, hc_2, h⟩ := ob_of h
  refine zV_callVI (n := 12) (st := []) (As := [.int a1, .int a2, .int a3]) C0 (k_X5_noPair a1 a2 a3 S_1 _ hc_2) gX5_time_X5_noPair rfl (hd_X5_noPair) rfl ⟨rfl, rfl⟩ ⟨Nat.le_of_ble_eq_true rfl, Nat.le_of_ble_eq_true rfl⟩ 0 rfl rfl rfl (Nat.le_of_ble_eq_true rfl) dX5_time_9 rfl ?_
  refine zV_istore (n := 14) C0 [(6, .int r_3), (0, .ref q), (1, .int a1), (2, .int a2), (3, .int a3), (4, .int a4), (5, .int a5)] dX5_time_12 rfl (Nat.le_of_ble_eq_true rfl) rfl ?_
  refine zV_iload (n := 16) C0 0 dX5_time_14 rfl rfl ?_
  refine zV_if_eq (tgt := 22) (n := 19) C0 dX5_time_16 rfl rfl (fun hb_16 => ?_) (fun hb_16 => ?_)
  · replace h := if_t hb_16 h
    refine zV_iload (n := 24) C0 5 dX5_time_22 rfl rfl ?_
    refine zV_i2l (n := 25) C0 dX5_time_24  rfl ?_
    refine zV_lconst (n := 26) (v := (0 : Int64)) C0 dX5_time_25 rfl rfl ?_
    refine zV_ldc2 (n := 29) (v := (3 : Int64)) C0 dX5_time_26 mX5_time_1 rfl ?_
    obtain ⟨r_5, hc_4, h⟩ := ob_of h
    refine zV_callS0 (n := 32) (st := []) (As := [.long a4.toInt64, .long (0 : Int64), .long (3 : Int64)]) C0 (k_X5_in a4.toInt64 (0 : Int64) (3 : Int64) _ hc_4) gX5_time_X5_in rfl (hd_X5_in) rfl ⟨rfl, rfl⟩ ⟨Nat.le_of_ble_eq_true rfl, Nat.le_of_ble_eq_true rfl⟩ rfl (Nat.le_of_ble_eq_true rfl) dX5_time_29 rfl ?_
    refine zjoin_of h (fun k_7 hk_7 h => ?_)
    have Jk_7 : ∀ (s_6 : Int32), k_7 (s_6) = some r → zV E (wM cI cZ q ad) 7 S_1 74 [] [.int s_6] := by
      intro s_6 h
      replace h := hk_7 _ h
      exact zretI hR h rfl dX5_time_74
    clear hk_7
    refine zjoin_of h (fun k_8 hk_8 h => ?_)
    have Jk_8 : k_8 () = some r → zV E (wM cI cZ q ad) 7 S_1 72 [] [] := by
      intro  h
      replace h := hk_8 _ h
      refine zV_bipush (n := 74) (v := (-2 : Int32)) C0 dX5_time_72 rfl rfl ?_
      exact Jk_7 (-2 : Int32) h
    clear hk_8
    refine zV_if_eq (tgt := 72) (n := 35) C0 dX5_time_32 rfl rfl (fun hb_15 => ?_) (fun hb_15 => ?_)
    · replace h := if_t hb_15 h
      refine zV_sub [] rfl ?_
      exact Jk_8  h
    · replace h := if_f hb_15 h
      refine zV_iload (n := 37) C0 6 dX5_time_35 rfl rfl ?_
      refine zV_i2l (n := 38) C0 dX5_time_37  rfl ?_
      refine zV_lconst (n := 39) (v := (0 : Int64)) C0 dX5_time_38 rfl rfl ?_
      refine zV_ldc2 (n := 42) (v := (3 : Int64)) C0 dX5_time_39 mX5_time_1 rfl ?_
      obtain ⟨r_10, hc_9, h⟩ := ob_of h
      refine zV_callS0 (n := 45) (st := []) (As := [.long a5.toInt64, .long (0 : Int64), .long (3 : Int64)]) C0 (k_X5_in a5.toInt64 (0 : Int64) (3 : Int64) _ hc_9) gX5_time_X5_in rfl (hd_X5_in) rfl ⟨rfl, rfl⟩ ⟨Nat.le_of_ble_eq_true rfl, Nat.le_of_ble_eq_true rfl⟩ rfl (Nat.le_of_ble_eq_true rfl) dX5_time_42 rfl ?_
      refine zV_if_eq (tgt := 72) (n := 48) C0 dX5_time_45 rfl rfl (fun hb_14 => ?_) (fun hb_14 => ?_)
      · replace h := if_t hb_14 h
        refine zV_sub [] rfl ?_
        exact Jk_8  h
      · replace h := if_f hb_14 h
        refine zV_aload_n (n := 49) C0 1 dX5_time_48 rfl rfl ?_
        refine zV_aload_n (n := 50) C0 1 dX5_time_49 rfl rfl ?_
        refine zV_get (n := 53) (ref := RX5) C0 hinX5_time_X5 0 rfl rfl 14 (Nat.le_of_ble_eq_true rfl) mX5_time_2 rfl rfl dX5_time_50 rfl ?_
        refine zV_iload_n (n := 54) C0 3 dX5_time_53 rfl rfl ?_
        refine zV_iload_n (n := 55) C0 4 dX5_time_54 rfl rfl ?_
        refine zV_iload (n := 57) C0 5 dX5_time_55 rfl rfl ?_
        refine zV_iload (n := 59) C0 6 dX5_time_57 rfl rfl ?_
        obtain ⟨r_12, hc_11, h⟩ := ob_of h
        refine zV_callVI (n := 62) (st := []) (As := [.ref (ad 14), .int a2, .int a3, .int a4, .int a5]) C0 (k_X5_timeOf 14 a2 a3 a4 a5 (by decide) S_1 _ hc_11) gX5_time_X5_timeOf rfl (hd_X5_timeOf) rfl ⟨rfl, rfl⟩ ⟨Nat.le_of_ble_eq_true rfl, Nat.le_of_ble_eq_true rfl⟩ 0 rfl rfl rfl (Nat.le_of_ble_eq_true rfl) dX5_time_59 rfl ?_
        refine zV_aload_n (n := 63) C0 1 dX5_time_62 rfl rfl ?_
        refine zV_get (n := 66) (ref := RX5) C0 hinX5_time_X5 0 rfl rfl 8 (Nat.le_of_ble_eq_true rfl) mX5_time_3 rfl rfl dX5_time_63 rfl ?_
        refine zV_iload_n (n := 67) C0 2 dX5_time_66 rfl rfl ?_
        obtain ⟨hg_13, h⟩ := gd_of h
        refine zV_iald (n := 68) C0 3 0 rfl rfl hg_13 dX5_time_67 rfl ?_
        refine zV_iadd (n := 69) C0 dX5_time_68  rfl ?_
        refine zV_goto (tgt := 74) C0 dX5_time_69 rfl ?_
        refine zV_sub [] rfl ?_
        exact Jk_7 (r_12 + (S_1.2.2 8 (a1).toNatClampNeg)) h
  · replace h := if_f hb_16 h
    refine zV_iload (n := 21) C0 0 dX5_time_19 rfl rfl ?_
    exact zretI hR h rfl dX5_time_21
