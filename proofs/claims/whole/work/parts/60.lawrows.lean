/-! ===== the law's walk: zL, the machine in the law at the world w; a row an instruction, and calls of a part of the world ===== -/
def zL (E : zE) (w : va_W) (pc : Nat) (lv : List (Nat × Value)) (st : List Value) : Prop :=
  ∀ (H : Heap) (locs : List Loc) (ls : Array Slot), va_P (eD E) vwCl w H → va_D (eA E) w → va_S (eA E) (es E).heap H locs → lv_has ls 4 lv → W (ep E) (el E) (ee E) (eR E) (es E) (em E) (ea E) (eb E) (et E) (ec E) H locs 600000 7302250 (eQ E) (F0 (em E) pc ls st)
section ZL
variable {E : zE} {cI cZ : ClassId} {w : va_W} {pc n tgt : Nat} {lv : List (Nat × Value)} {st : List Value}
theorem zL_aload (C0 : zCx E room_1 cL_law 4 RL wsL_law (zty cI cZ) zNw) (j : Nat) {i : Fin 4} {x : Nat} (hdg : decode cL_law pc = .ok (.aload_n i, 1)) (hj : lv[j]? = some ((i : Nat), .ref x)) (hn : pc + 1 = n) (k : zL E w n lv (.ref x :: st)) : zL E w pc lv st := by
  subst hn; exact fun H locs ls hP hD hS hl => lv_aload_n C0.1 C0.2.1 hdg rfl (lv_at hl j hj) (k H locs ls hP hD hS hl)
theorem zL_iload (C0 : zCx E room_1 cL_law 4 RL wsL_law (zty cI cZ) zNw) (j : Nat) {i : Fin 4} {x : Int32} (hdg : decode cL_law pc = .ok (.iload_n i, 1)) (hj : lv[j]? = some ((i : Nat), .int x)) (hn : pc + 1 = n) (k : zL E w n lv (.int x :: st)) : zL E w pc lv st := by
  subst hn; exact fun H locs ls hP hD hS hl => lv_iload_n C0.1 C0.2.1 hdg rfl (lv_at hl j hj) (k H locs ls hP hD hS hl)
theorem zL_iconst (C0 : zCx E room_1 cL_law 4 RL wsL_law (zty cI cZ) zNw) {i : Int} {v : Int32} (hdg : decode cL_law pc = .ok (.iconst i, 1)) (hv : Int32.ofInt i = v) (hn : pc + 1 = n) (k : zL E w n lv (.int v :: st)) : zL E w pc lv st := by
  subst hn; exact fun H locs ls hP hD hS hl => lv_iconst C0.1 C0.2.1 hdg hv (k H locs ls hP hD hS hl)
theorem zL_bipush (C0 : zCx E room_1 cL_law 4 RL wsL_law (zty cI cZ) zNw) {i : Int} {v : Int32} (hdg : decode cL_law pc = .ok (.bipush i, 2)) (hv : (Int8.ofInt i).toInt32 = v) (hn : pc + 2 = n) (k : zL E w n lv (.int v :: st)) : zL E w pc lv st := by
  subst hn; exact fun H locs ls hP hD hS hl => lv_bipush C0.1 C0.2.1 hdg hv (k H locs ls hP hD hS hl)
theorem zL_isub (C0 : zCx E room_1 cL_law 4 RL wsL_law (zty cI cZ) zNw) {x y : Int32} (hdg : decode cL_law pc = .ok (.isub, 1)) (hn : pc + 1 = n) (k : zL E w n lv (.int (x - y) :: st)) : zL E w pc lv (.int y :: .int x :: st) := by
  subst hn; exact fun H locs ls hP hD hS hl => lv_isub C0.1 C0.2.1 hdg (k H locs ls hP hD hS hl)
theorem zL_iand (C0 : zCx E room_1 cL_law 4 RL wsL_law (zty cI cZ) zNw) {x y : Int32} (hdg : decode cL_law pc = .ok (.iand, 1)) (hn : pc + 1 = n) (k : zL E w n lv (.int (x &&& y) :: st)) : zL E w pc lv (.int y :: .int x :: st) := by
  subst hn; exact fun H locs ls hP hD hS hl => lv_iand C0.1 C0.2.1 hdg (k H locs ls hP hD hS hl)
theorem zL_i2l (C0 : zCx E room_1 cL_law 4 RL wsL_law (zty cI cZ) zNw) {x : Int32} (hdg : decode cL_law pc = .ok (.i2l, 1)) (hn : pc + 1 = n) (k : zL E w n lv (.long x.toInt64 :: st)) : zL E w pc lv (.int x :: st) := by
  subst hn; exact fun H locs ls hP hD hS hl => lv_i2l C0.1 C0.2.1 hdg rfl (k H locs ls hP hD hS hl)
theorem zL_lshl (C0 : zCx E room_1 cL_law 4 RL wsL_law (zty cI cZ) zNw) {x : Int64} {y : Int32} (hdg : decode cL_law pc = .ok (.lshl, 1)) (hn : pc + 1 = n) (k : zL E w n lv (.long (zshlL x y) :: st)) : zL E w pc lv (.int y :: .long x :: st) := by
  subst hn; exact fun H locs ls hP hD hS hl => lv_lshl C0.1 C0.2.1 hdg rfl (k H locs ls hP hD hS hl)
theorem zL_land (C0 : zCx E room_1 cL_law 4 RL wsL_law (zty cI cZ) zNw) {x y : Int64} (hdg : decode cL_law pc = .ok (.land, 1)) (hn : pc + 1 = n) (k : zL E w n lv (.long (x &&& y) :: st)) : zL E w pc lv (.long y :: .long x :: st) := by
  subst hn; exact fun H locs ls hP hD hS hl => lv_land C0.1 C0.2.1 hdg (k H locs ls hP hD hS hl)
theorem zL_lor (C0 : zCx E room_1 cL_law 4 RL wsL_law (zty cI cZ) zNw) {x y : Int64} (hdg : decode cL_law pc = .ok (.lor, 1)) (hn : pc + 1 = n) (k : zL E w n lv (.long (x ||| y) :: st)) : zL E w pc lv (.long y :: .long x :: st) := by
  subst hn; exact fun H locs ls hP hD hS hl => lv_lor C0.1 C0.2.1 hdg (k H locs ls hP hD hS hl)
theorem zL_ldc2 (C0 : zCx E room_1 cL_law 4 RL wsL_law (zty cI cZ) zNw) {idx : Nat} {v : Int64} (hdg : decode cL_law pc = .ok (.ldc2_w idx, 3)) (hw : Cond.constantLong RL idx v ∈ wsL_law) (hn : pc + 3 = n) (k : zL E w n lv (.long v :: st)) : zL E w pc lv st := by
  subst hn; exact fun H locs ls hP hD hS hl => lv_ldc2 C0.1 C0.2.1 C0.2.2.2.1 (C0.2.2.2.2.1 _ hw) hdg (k H locs ls hP hD hS hl)
theorem zL_lcmp (C0 : zCx E room_1 cL_law 4 RL wsL_law (zty cI cZ) zNw) {x y : Int64} (hdg : decode cL_law pc = .ok (.lcmp, 1)) (hn : pc + 1 = n) (k : zL E w n lv (.int (lg_cmp x y) :: st)) : zL E w pc lv (.long y :: .long x :: st) := by
  subst hn; exact fun H locs ls hP hD hS hl => W.lcmp C0.1 C0.2.1 hdg (k H locs ls hP hD hS hl)
theorem zL_if_eqT (C0 : zCx E room_1 cL_law 4 RL wsL_law (zty cI cZ) zNw) {x : Int32} {off : Int} (hdg : decode cL_law pc = .ok (.ifCond .eq off, 3)) (ht : (pc : Int) + off = (tgt : Int)) (hx : x = 0) (k : zL E w tgt lv st) : zL E w pc lv (.int x :: st) :=
  fun H locs ls hP hD hS hl => lv_if_eq C0.1 C0.2.1 hdg ht (fun _ => k H locs ls hP hD hS hl) (fun z => absurd hx z)
theorem zL_if_eqF (C0 : zCx E room_1 cL_law 4 RL wsL_law (zty cI cZ) zNw) {x : Int32} {off : Int} (hdg : decode cL_law pc = .ok (.ifCond .eq off, 3)) (hx : ¬ x = 0) (ht : (pc : Int) + off = ((pc + off.toNat : Nat) : Int)) (hn : pc + 3 = n) (k : zL E w n lv st) : zL E w pc lv (.int x :: st) := by
  subst hn; exact fun H locs ls hP hD hS hl => lv_if_eq C0.1 C0.2.1 hdg ht (fun z => absurd z hx) (fun _ => k H locs ls hP hD hS hl)
theorem zL_goto (C0 : zCx E room_1 cL_law 4 RL wsL_law (zty cI cZ) zNw) {off : Int} (hdg : decode cL_law pc = .ok (.goto off, 3)) (ht : (pc : Int) + off = (tgt : Int)) (k : zL E w tgt lv st) : zL E w pc lv st :=
  fun H locs ls hP hD hS hl => lv_goto C0.1 C0.2.1 hdg ht (k H locs ls hP hD hS hl)
theorem zL_eq (C0 : zCx E room_1 cL_law 4 RL wsL_law (zty cI cZ) zNw) {x : Int32} {off : Int} (hdg : decode cL_law pc = .ok (.if_icmp .eq off, 3)) (ht : (pc : Int) + off = (tgt : Int)) (k : zL E w tgt lv st) : zL E w pc lv (.int x :: .int x :: st) :=
  fun H locs ls hP hD hS hl => lv_icmp_eq C0.1 C0.2.1 hdg ht (fun _ => k H locs ls hP hD hS hl) (fun z => absurd rfl z)
theorem zL_gt (C0 : zCx E room_1 cL_law 4 RL wsL_law (zty cI cZ) zNw) {x y : Int32} {off : Int} (hdg : decode cL_law pc = .ok (.if_icmp .gt off, 3)) (ht : (pc : Int) + off = (tgt : Int)) (hn : pc + 3 = n) (kt : y < x → zL E w tgt lv st) (kf : ¬ y < x → zL E w n lv st) : zL E w pc lv (.int y :: .int x :: st) := by
  subst hn; exact fun H locs ls hP hD hS hl => lv_icmp_gt C0.1 C0.2.1 hdg ht (fun z => kt z H locs ls hP hD hS hl) (fun z => kf z H locs ls hP hD hS hl)
theorem zL_tabI (C0 : zCx E room_1 cL_law 4 RL wsL_law (zty cI cZ) zNw) {dflt lo hi : Int} {offs : Array Int} {len : Nat} {x : Int32} {off : Int} (hdg : decode cL_law pc = .ok (.tableswitch dflt lo hi offs, len)) (h1 : ¬ x.toInt < lo) (h2 : ¬ hi < x.toInt) (ho : offs[(x.toInt - lo).toNat]? = some off) (ht : (pc : Int) + off = (tgt : Int)) (k : zL E w tgt lv st) : zL E w pc lv (.int x :: st) :=
  fun H locs ls hP hD hS hl => lv_tableIn C0.1 C0.2.1 hdg h1 h2 ho ht (k H locs ls hP hD hS hl)
theorem zL_tabO (C0 : zCx E room_1 cL_law 4 RL wsL_law (zty cI cZ) zNw) {dflt lo hi : Int} {offs : Array Int} {len : Nat} {x : Int32} (hdg : decode cL_law pc = .ok (.tableswitch dflt lo hi offs, len)) (h : x.toInt < lo ∨ hi < x.toInt) (ht : (pc : Int) + dflt = (tgt : Int)) (k : zL E w tgt lv st) : zL E w pc lv (.int x :: st) :=
  fun H locs ls hP hD hS hl => lv_tableOut C0.1 C0.2.1 hdg h ht (k H locs ls hP hD hS hl)
theorem zL_sld (C0 : zCx E room_1 cL_law 4 RL wsL_law (zty cI cZ) zNw) {b L : Nat} {xs : Nat → Int32} (X0 : va_X b L xs (es E) (es E).heap ∧ b < (es E).heap.size ∧ ¬ eA E b) {i : Nat} (hL : L ≤ 3072) (hi : i < L) (hdg : decode cL_law pc = .ok (.iaload, 1)) (hn : pc + 1 = n) (k : zL E w n lv (.int (xs i) :: st)) : zL E w pc lv (.int (nI i) :: .ref b :: st) := by
  subst hn
  intro H locs ls hP hD hS hl
  have e : (nI i).toNatClampNeg = i := nI_clamp (by omega)
  refine va_sld C0.1 C0.2.1 X0.1 X0.2.1 X0.2.2 hS (i := nI i) (nI_in hi (by omega)) hdg ?_
  rw [e]
  exact k H locs ls hP hD hS hl
theorem zL_slen (C0 : zCx E room_1 cL_law 4 RL wsL_law (zty cI cZ) zNw) {b L : Nat} {xs : Nat → Int32} (X0 : va_X b L xs (es E) (es E).heap ∧ b < (es E).heap.size ∧ ¬ eA E b) (hdg : decode cL_law pc = .ok (.arraylength, 1)) (hn : pc + 1 = n) (k : zL E w n lv (.int (nI L) :: st)) : zL E w pc lv (.ref b :: st) := by
  subst hn
  intro H locs ls hP hD hS hl
  exact va_slen C0.1 C0.2.1 X0.1 X0.2.1 X0.2.2 hS hdg (k H locs ls hP hD hS hl)
theorem zL_arg (C0 : zCx E room_1 cL_law 4 RL wsL_law (zty cI cZ) zNw) {b L : Nat} {xs : Nat → Int32} (X0 : va_X b L xs (es E) (es E).heap ∧ b < (es E).heap.size ∧ ¬ eA E b) {i0 k qC qM : Nat} (hL : L ≤ 3072) (hb : i0 + k < L) (d1 : decode cL_law pc = .ok (.aload_n 0, 1)) (d2 : decode cL_law (pc + 1) = .ok (.iload_n 3, 1)) (d3 : decode cL_law (pc + 1 + 1) = .ok (.iconst k, 1)) (d4 : decode cL_law (pc + 1 + 1 + 1) = .ok (.iadd, 1)) (d5 : decode cL_law (pc + 1 + 1 + 1 + 1) = .ok (.iaload, 1))
    (kk : zL E w (pc + 1 + 1 + 1 + 1 + 1) [(3, .int (nI i0)), (2, .ref qM), (1, .ref qC), (0, .ref b)] (.int (xs (i0 + k)) :: st)) : zL E w pc [(3, .int (nI i0)), (2, .ref qM), (1, .ref qC), (0, .ref b)] st := by
  refine zL_aload C0 3 d1 rfl rfl ?_
  refine zL_iload C0 0 d2 rfl rfl ?_
  refine zL_iconst C0 d3 (v := nI k) rfl rfl ?_
  intro H locs ls hP hD hS hl
  refine lv_iadd C0.1 C0.2.1 d4 ?_
  rw [nI_add]
  exact zL_sld C0 X0 hL hb d5 rfl kk H locs ls hP hD hS hl
end ZL
section ZLC
variable {E : zE} {cI cZ : ClassId} {pc n nA : Nat} {lv : List (Nat × Value)} {st st0 : List Value} {qC qM : Nat} {aC aM : Nat → Nat} {S M : zS} {y : MethodName} {ws ws2 : List Cond} {bytes : ByteArray} {maxL idx : Nat} {ret : Option FieldType} {rm2 : Room}
theorem wCM_C {D : va_G} {H : Heap} (hP : va_P D vwCl (wC cI qC aC S ++ wM cI cZ qM aM M) H) : va_P D vwCl (wC cI qC aC S) H := hP.sub [0, 1, 2, 3, 4, 5, 6, 7, 8] rfl
theorem wCM_M {D : va_G} {H : Heap} (hP : va_P D vwCl (wC cI qC aC S ++ wM cI cZ qM aM M) H) : va_P D vwCl (wM cI cZ qM aM M) H := hP.sub [9, 10, 11, 12, 13, 14, 15, 16, 17, 18, 19, 20, 21, 22, 23, 24, 25] rfl
theorem wCM_dC {A : Nat → Prop} (hD : va_D A (wC cI qC aC S ++ wM cI cZ qM aM M)) : va_D A (wC cI qC aC S) := hD.sub [0, 1, 2, 3, 4, 5, 6, 7, 8] (by decide) rfl
theorem wCM_dM {A : Nat → Prop} (hD : va_D A (wC cI qC aC S ++ wM cI cZ qM aM M)) : va_D A (wM cI cZ qM aM M) := hD.sub [9, 10, 11, 12, 13, 14, 15, 16, 17, 18, 19, 20, 21, 22, 23, 24, 25] (by decide) rfl
theorem zL_callCI (C0 : zCx E room_1 cL_law 4 RL wsL_law (zty cI cZ) zNw) {As : List Value} {r : Int32} {S2 : zS} (hc : zI (el E) y ws rm2 (eD E) (zty cI cZ) zNw (wC cI qC aC) (.ref qC :: As) S (r, S2)) (hG : GoodIn wsL_law (wsV RL idx y.cls y ws)) (hw : ws = Cond.code y bytes maxL ret :: ws2) (hd : (y.cls ≠ "java/lang/invoke/MethodHandle" ∧ y.cls ≠ "java/lang/invoke/VarHandle" ∧ (parseMethodDescriptor y.desc).map (fun d => d.parameters.length) = some nA) ∧ y.cls = RX4 ∧ rm2.cells = 0 ∧ rm2.slots = 0) (hn : As.length = nA) (hR : rm2.frames + 1 ≤ 2048 ∧ 8 + (maxL + 11) + rm2.locals ≤ 84000) (hst : st0 = As.reverse ++ .ref qC :: st) (hW : (st.map fun v => v.category).sum ≤ 8) (hdg : decode cL_law pc = .ok (.invokevirtual idx, 3)) (hpc : pc + 3 = n) (k : zL E (wC cI qC aC S2 ++ wM cI cZ qM aM M) n lv (.int r :: st)) : zL E (wC cI qC aC S ++ wM cI cZ qM aM M) pc lv st0 := by
  subst hpc
  intro H locs ls hP hD hS hl
  obtain ⟨hd, hcls, h01, h02⟩ := hd
  have hF : ∀ q, va_A (wC cI qC aC S) H.size q → eA E q := va_free hD hS C0.2.2.2.2.2.2.1 [0, 1, 2, 3, 4, 5, 6, 7, 8] rfl
  have hPc := wCM_C hP
  have hDc := wCM_dC hD
  have hrm := C0.2.2.2.2.2.2.2.2.2
  refine va_calli (va_runV (As := As) (rest := st) ⟨C0.1, C0.2.1, C0.2.2.1, C0.2.2.2.1, C0.2.2.2.2.1⟩ (hc H.size) (cwV nA C0.2.2.2.2.1 hG hw h01 h02 ⟨rfl, hd⟩ (hrm ▸ hR)) ⟨zblind C0.2.2.2.2.2.2.2.2.1, va_recv C0.2.2.2.2.2.1 hPc (ci := 4) (q0 := 0) (q := (y.cls, TX4, 10)) (by rw [hcls]; rfl) rfl, fun U hU hW => ⟨rfl, by rw [hU], by rw [hU]; exact hPc, va_K.moved hW.alike C0.2.2.2.2.2.1, hDc.weaken (fun _ _ _ _ => trivial), C0.2.2.2.2.2.2.2.2.1.2 _ _ hW C0.2.2.2.2.2.2.2.1⟩⟩ rfl hn hl.1 hst (lv_room hW) hdg ⟨by rw [hrm]; exact Nat.le_refl _, by rw [hrm]; exact Nat.le_refl _⟩) hS (fun q _ h => hF q h) hF (fun r1 u t H1 locs1 ht hvm hw hB hz1 hk1 hS1 => ?_)
  obtain ⟨rfl, rfl⟩ := hw
  obtain ⟨hP2, hD2⟩ := va_join (wr := wM cI cZ qM aM M) (w1 := wC cI qC aC u) hP hD [0, 1, 2, 3, 4, 5, 6, 7, 8] [9, 10, 11, 12, 13, 14, 15, 16, 17, 18, 19, 20, 21, 22, 23, 24, 25] rfl rfl (by decide) (by decide) hk1 hF (ht ▸ hB.1) hB.2.2
  exact k H1 locs1 ls (hP2.sub [17, 18, 19, 20, 21, 22, 23, 24, 25, 0, 1, 2, 3, 4, 5, 6, 7, 8, 9, 10, 11, 12, 13, 14, 15, 16] rfl) (hD2.sub [17, 18, 19, 20, 21, 22, 23, 24, 25, 0, 1, 2, 3, 4, 5, 6, 7, 8, 9, 10, 11, 12, 13, 14, 15, 16] (by decide) rfl) hS1 hl
theorem zL_callMI (C0 : zCx E room_1 cL_law 4 RL wsL_law (zty cI cZ) zNw) {As : List Value} {r : Int32} {S2 : zS} (hc : zI (el E) y ws rm2 (eD E) (zty cI cZ) zNw (wM cI cZ qM aM) (.ref qM :: As) M (r, S2)) (hG : GoodIn wsL_law (wsV RL idx y.cls y ws)) (hw : ws = Cond.code y bytes maxL ret :: ws2) (hd : (y.cls ≠ "java/lang/invoke/MethodHandle" ∧ y.cls ≠ "java/lang/invoke/VarHandle" ∧ (parseMethodDescriptor y.desc).map (fun d => d.parameters.length) = some nA) ∧ y.cls = RX5 ∧ rm2.cells = 0 ∧ rm2.slots = 0) (hn : As.length = nA) (hR : rm2.frames + 1 ≤ 2048 ∧ 8 + (maxL + 11) + rm2.locals ≤ 84000) (hst : st0 = As.reverse ++ .ref qM :: st) (hW : (st.map fun v => v.category).sum ≤ 8) (hdg : decode cL_law pc = .ok (.invokevirtual idx, 3)) (hpc : pc + 3 = n) (k : zL E (wC cI qC aC S ++ wM cI cZ qM aM S2) n lv (.int r :: st)) : zL E (wC cI qC aC S ++ wM cI cZ qM aM M) pc lv st0 := by
  subst hpc
  intro H locs ls hP hD hS hl
  obtain ⟨hd, hcls, h01, h02⟩ := hd
  have hF : ∀ q, va_A (wM cI cZ qM aM M) H.size q → eA E q := va_free hD hS C0.2.2.2.2.2.2.1 [9, 10, 11, 12, 13, 14, 15, 16, 17, 18, 19, 20, 21, 22, 23, 24, 25] rfl
  have hPc := wCM_M hP
  have hDc := wCM_dM hD
  have hrm := C0.2.2.2.2.2.2.2.2.2
  refine va_calli (va_runV (As := As) (rest := st) ⟨C0.1, C0.2.1, C0.2.2.1, C0.2.2.2.1, C0.2.2.2.2.1⟩ (hc H.size) (cwV nA C0.2.2.2.2.1 hG hw h01 h02 ⟨rfl, hd⟩ (hrm ▸ hR)) ⟨zblind C0.2.2.2.2.2.2.2.2.1, va_recv C0.2.2.2.2.2.1 hPc (ci := 5) (q0 := 0) (q := (y.cls, TX5, 37)) (by rw [hcls]; rfl) rfl, fun U hU hW => ⟨rfl, by rw [hU], by rw [hU]; exact hPc, va_K.moved hW.alike C0.2.2.2.2.2.1, hDc.weaken (fun _ _ _ _ => trivial), C0.2.2.2.2.2.2.2.2.1.2 _ _ hW C0.2.2.2.2.2.2.2.1⟩⟩ rfl hn hl.1 hst (lv_room hW) hdg ⟨by rw [hrm]; exact Nat.le_refl _, by rw [hrm]; exact Nat.le_refl _⟩) hS (fun q _ h => hF q h) hF (fun r1 u t H1 locs1 ht hvm hw hB hz1 hk1 hS1 => ?_)
  obtain ⟨rfl, rfl⟩ := hw
  obtain ⟨hP2, hD2⟩ := va_join (wr := wC cI qC aC S) (w1 := wM cI cZ qM aM u) hP hD [9, 10, 11, 12, 13, 14, 15, 16, 17, 18, 19, 20, 21, 22, 23, 24, 25] [0, 1, 2, 3, 4, 5, 6, 7, 8] rfl rfl (by decide) (by decide) hk1 hF (ht ▸ hB.1) hB.2.2
  exact k H1 locs1 ls hP2 hD2 hS1 hl
theorem zL_callCJ (C0 : zCx E room_1 cL_law 4 RL wsL_law (zty cI cZ) zNw) {As : List Value} {r : Int64} {S2 : zS} (hc : zJ (el E) y ws rm2 (eD E) (zty cI cZ) zNw (wC cI qC aC) (.ref qC :: As) S (r, S2)) (hG : GoodIn wsL_law (wsV RL idx y.cls y ws)) (hw : ws = Cond.code y bytes maxL ret :: ws2) (hd : (y.cls ≠ "java/lang/invoke/MethodHandle" ∧ y.cls ≠ "java/lang/invoke/VarHandle" ∧ (parseMethodDescriptor y.desc).map (fun d => d.parameters.length) = some nA) ∧ y.cls = RX4 ∧ rm2.cells = 0 ∧ rm2.slots = 0) (hn : As.length = nA) (hR : rm2.frames + 1 ≤ 2048 ∧ 8 + (maxL + 11) + rm2.locals ≤ 84000) (hst : st0 = As.reverse ++ .ref qC :: st) (hW : (st.map fun v => v.category).sum ≤ 8) (hdg : decode cL_law pc = .ok (.invokevirtual idx, 3)) (hpc : pc + 3 = n) (k : zL E (wC cI qC aC S2 ++ wM cI cZ qM aM M) n lv (.long r :: st)) : zL E (wC cI qC aC S ++ wM cI cZ qM aM M) pc lv st0 := by
  subst hpc
  intro H locs ls hP hD hS hl
  obtain ⟨hd, hcls, h01, h02⟩ := hd
  have hF : ∀ q, va_A (wC cI qC aC S) H.size q → eA E q := va_free hD hS C0.2.2.2.2.2.2.1 [0, 1, 2, 3, 4, 5, 6, 7, 8] rfl
  have hPc := wCM_C hP
  have hDc := wCM_dC hD
  have hrm := C0.2.2.2.2.2.2.2.2.2
  refine va_calll (va_runV (As := As) (rest := st) ⟨C0.1, C0.2.1, C0.2.2.1, C0.2.2.2.1, C0.2.2.2.2.1⟩ (hc H.size) (cwV nA C0.2.2.2.2.1 hG hw h01 h02 ⟨rfl, hd⟩ (hrm ▸ hR)) ⟨zblind C0.2.2.2.2.2.2.2.2.1, va_recv C0.2.2.2.2.2.1 hPc (ci := 4) (q0 := 0) (q := (y.cls, TX4, 10)) (by rw [hcls]; rfl) rfl, fun U hU hW => ⟨rfl, by rw [hU], by rw [hU]; exact hPc, va_K.moved hW.alike C0.2.2.2.2.2.1, hDc.weaken (fun _ _ _ _ => trivial), C0.2.2.2.2.2.2.2.2.1.2 _ _ hW C0.2.2.2.2.2.2.2.1⟩⟩ rfl hn hl.1 hst (lv_room hW) hdg ⟨by rw [hrm]; exact Nat.le_refl _, by rw [hrm]; exact Nat.le_refl _⟩) hS (fun q _ h => hF q h) hF (fun r1 u t H1 locs1 ht hvm hw hB hz1 hk1 hS1 => ?_)
  obtain ⟨rfl, rfl⟩ := hw
  obtain ⟨hP2, hD2⟩ := va_join (wr := wM cI cZ qM aM M) (w1 := wC cI qC aC u) hP hD [0, 1, 2, 3, 4, 5, 6, 7, 8] [9, 10, 11, 12, 13, 14, 15, 16, 17, 18, 19, 20, 21, 22, 23, 24, 25] rfl rfl (by decide) (by decide) hk1 hF (ht ▸ hB.1) hB.2.2
  exact k H1 locs1 ls (hP2.sub [17, 18, 19, 20, 21, 22, 23, 24, 25, 0, 1, 2, 3, 4, 5, 6, 7, 8, 9, 10, 11, 12, 13, 14, 15, 16] rfl) (hD2.sub [17, 18, 19, 20, 21, 22, 23, 24, 25, 0, 1, 2, 3, 4, 5, 6, 7, 8, 9, 10, 11, 12, 13, 14, 15, 16] (by decide) rfl) hS1 hl
theorem zL_callMJ (C0 : zCx E room_1 cL_law 4 RL wsL_law (zty cI cZ) zNw) {As : List Value} {r : Int64} {S2 : zS} (hc : zJ (el E) y ws rm2 (eD E) (zty cI cZ) zNw (wM cI cZ qM aM) (.ref qM :: As) M (r, S2)) (hG : GoodIn wsL_law (wsV RL idx y.cls y ws)) (hw : ws = Cond.code y bytes maxL ret :: ws2) (hd : (y.cls ≠ "java/lang/invoke/MethodHandle" ∧ y.cls ≠ "java/lang/invoke/VarHandle" ∧ (parseMethodDescriptor y.desc).map (fun d => d.parameters.length) = some nA) ∧ y.cls = RX5 ∧ rm2.cells = 0 ∧ rm2.slots = 0) (hn : As.length = nA) (hR : rm2.frames + 1 ≤ 2048 ∧ 8 + (maxL + 11) + rm2.locals ≤ 84000) (hst : st0 = As.reverse ++ .ref qM :: st) (hW : (st.map fun v => v.category).sum ≤ 8) (hdg : decode cL_law pc = .ok (.invokevirtual idx, 3)) (hpc : pc + 3 = n) (k : zL E (wC cI qC aC S ++ wM cI cZ qM aM S2) n lv (.long r :: st)) : zL E (wC cI qC aC S ++ wM cI cZ qM aM M) pc lv st0 := by
  subst hpc
  intro H locs ls hP hD hS hl
  obtain ⟨hd, hcls, h01, h02⟩ := hd
  have hF : ∀ q, va_A (wM cI cZ qM aM M) H.size q → eA E q := va_free hD hS C0.2.2.2.2.2.2.1 [9, 10, 11, 12, 13, 14, 15, 16, 17, 18, 19, 20, 21, 22, 23, 24, 25] rfl
  have hPc := wCM_M hP
  have hDc := wCM_dM hD
  have hrm := C0.2.2.2.2.2.2.2.2.2
  refine va_calll (va_runV (As := As) (rest := st) ⟨C0.1, C0.2.1, C0.2.2.1, C0.2.2.2.1, C0.2.2.2.2.1⟩ (hc H.size) (cwV nA C0.2.2.2.2.1 hG hw h01 h02 ⟨rfl, hd⟩ (hrm ▸ hR)) ⟨zblind C0.2.2.2.2.2.2.2.2.1, va_recv C0.2.2.2.2.2.1 hPc (ci := 5) (q0 := 0) (q := (y.cls, TX5, 37)) (by rw [hcls]; rfl) rfl, fun U hU hW => ⟨rfl, by rw [hU], by rw [hU]; exact hPc, va_K.moved hW.alike C0.2.2.2.2.2.1, hDc.weaken (fun _ _ _ _ => trivial), C0.2.2.2.2.2.2.2.2.1.2 _ _ hW C0.2.2.2.2.2.2.2.1⟩⟩ rfl hn hl.1 hst (lv_room hW) hdg ⟨by rw [hrm]; exact Nat.le_refl _, by rw [hrm]; exact Nat.le_refl _⟩) hS (fun q _ h => hF q h) hF (fun r1 u t H1 locs1 ht hvm hw hB hz1 hk1 hS1 => ?_)
  obtain ⟨rfl, rfl⟩ := hw
  obtain ⟨hP2, hD2⟩ := va_join (wr := wC cI qC aC S) (w1 := wM cI cZ qM aM u) hP hD [9, 10, 11, 12, 13, 14, 15, 16, 17, 18, 19, 20, 21, 22, 23, 24, 25] [0, 1, 2, 3, 4, 5, 6, 7, 8] rfl rfl (by decide) (by decide) hk1 hF (ht ▸ hB.1) hB.2.2
  exact k H1 locs1 ls hP2 hD2 hS1 hl
end ZLC
