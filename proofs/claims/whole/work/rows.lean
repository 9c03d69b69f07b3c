section
-- ===== PART A: goes FIRST, ahead of the names: the tables' words, and 'selects' of the private methods out of them =====
/-- a private method of a class that the tables say can be made, by its rows of tables_1 -/
def lw_okq (q : MethodName × Nat) : Prop := (q.1.cls ≠ "java/lang/invoke/MethodHandle" ∧ q.1.cls ≠ "java/lang/invoke/VarHandle") ∧ Cond.instantiable q.1.cls q.2 ∈ tables_1 ∧ Cond.privateMethod q.1 ∈ tables_1 ∧ Cond.instanceMethod q.1 ∈ tables_1
theorem lw_p0 : lw_okq (⟨"LeggedThrough", "readTunnel", "()V"⟩, 10) := ⟨⟨by decide +kernel, by decide +kernel⟩, List.mem_of_getElem? (i := 10) (by decide +kernel), List.mem_of_getElem? (i := 156) (by decide +kernel), List.mem_of_getElem? (i := 157) (by decide +kernel)⟩
theorem lw_p1 : lw_okq (⟨"LeggedThrough", "pairRefusal", "(III)I"⟩, 10) := ⟨⟨by decide +kernel, by decide +kernel⟩, List.mem_of_getElem? (i := 10) (by decide +kernel), List.mem_of_getElem? (i := 234) (by decide +kernel), List.mem_of_getElem? (i := 235) (by decide +kernel)⟩
theorem lw_p2 : lw_okq (⟨"LeggedThrough", "pairMinutes", "(IIIII)I"⟩, 10) := ⟨⟨by decide +kernel, by decide +kernel⟩, List.mem_of_getElem? (i := 10) (by decide +kernel), List.mem_of_getElem? (i := 249) (by decide +kernel), List.mem_of_getElem? (i := 250) (by decide +kernel)⟩
theorem lw_p3 : lw_okq (⟨"LeggedThrough", "stepMinutes", "(IIII)I"⟩, 10) := ⟨⟨by decide +kernel, by decide +kernel⟩, List.mem_of_getElem? (i := 10) (by decide +kernel), List.mem_of_getElem? (i := 253) (by decide +kernel), List.mem_of_getElem? (i := 254) (by decide +kernel)⟩
theorem lw_p4 : lw_okq (⟨"LeggedThrough", "placeRefusal", "(II)I"⟩, 10) := ⟨⟨by decide +kernel, by decide +kernel⟩, List.mem_of_getElem? (i := 10) (by decide +kernel), List.mem_of_getElem? (i := 280) (by decide +kernel), List.mem_of_getElem? (i := 281) (by decide +kernel)⟩
theorem lw_p5 : lw_okq (⟨"LeggedThrough", "aloneMinutes", "(II)I"⟩, 10) := ⟨⟨by decide +kernel, by decide +kernel⟩, List.mem_of_getElem? (i := 10) (by decide +kernel), List.mem_of_getElem? (i := 309) (by decide +kernel), List.mem_of_getElem? (i := 310) (by decide +kernel)⟩
theorem lw_p6 : lw_okq (⟨"LeggedThrough", "leastPair", "(I)I"⟩, 10) := ⟨⟨by decide +kernel, by decide +kernel⟩, List.mem_of_getElem? (i := 10) (by decide +kernel), List.mem_of_getElem? (i := 325) (by decide +kernel), List.mem_of_getElem? (i := 326) (by decide +kernel)⟩
theorem lw_p7 : lw_okq (⟨"LeggedThrough", "leastBegin", "(II)I"⟩, 10) := ⟨⟨by decide +kernel, by decide +kernel⟩, List.mem_of_getElem? (i := 10) (by decide +kernel), List.mem_of_getElem? (i := 336) (by decide +kernel), List.mem_of_getElem? (i := 337) (by decide +kernel)⟩
theorem lw_p8 : lw_okq (⟨"LeggedThrough", "soonestLegs", "()J"⟩, 10) := ⟨⟨by decide +kernel, by decide +kernel⟩, List.mem_of_getElem? (i := 10) (by decide +kernel), List.mem_of_getElem? (i := 345) (by decide +kernel), List.mem_of_getElem? (i := 346) (by decide +kernel)⟩
theorem lw_p9 : lw_okq (⟨"LeggedThrough", "leastLegs", "(IIIIJ)J"⟩, 10) := ⟨⟨by decide +kernel, by decide +kernel⟩, List.mem_of_getElem? (i := 10) (by decide +kernel), List.mem_of_getElem? (i := 355) (by decide +kernel), List.mem_of_getElem? (i := 356) (by decide +kernel)⟩
theorem lw_p10 : lw_okq (⟨"LeggedThrough", "worth", "(II)I"⟩, 10) := ⟨⟨by decide +kernel, by decide +kernel⟩, List.mem_of_getElem? (i := 10) (by decide +kernel), List.mem_of_getElem? (i := 374) (by decide +kernel), List.mem_of_getElem? (i := 375) (by decide +kernel)⟩
theorem lw_p11 : lw_okq (⟨"LeggedThrough", "ordersBehind", "(I)I"⟩, 10) := ⟨⟨by decide +kernel, by decide +kernel⟩, List.mem_of_getElem? (i := 10) (by decide +kernel), List.mem_of_getElem? (i := 384) (by decide +kernel), List.mem_of_getElem? (i := 385) (by decide +kernel)⟩
theorem lw_p12 : lw_okq (⟨"LeggedThrough", "isAsSeen", "(I)Z"⟩, 10) := ⟨⟨by decide +kernel, by decide +kernel⟩, List.mem_of_getElem? (i := 10) (by decide +kernel), List.mem_of_getElem? (i := 406) (by decide +kernel), List.mem_of_getElem? (i := 407) (by decide +kernel)⟩
theorem lw_p13 : lw_okq (⟨"LeggedThrough", "waysInTime", "(IIIII)I"⟩, 10) := ⟨⟨by decide +kernel, by decide +kernel⟩, List.mem_of_getElem? (i := 10) (by decide +kernel), List.mem_of_getElem? (i := 425) (by decide +kernel), List.mem_of_getElem? (i := 426) (by decide +kernel)⟩
theorem lw_p14 : lw_okq (⟨"LeggedThrough", "legAll", "()V"⟩, 10) := ⟨⟨by decide +kernel, by decide +kernel⟩, List.mem_of_getElem? (i := 10) (by decide +kernel), List.mem_of_getElem? (i := 441) (by decide +kernel), List.mem_of_getElem? (i := 442) (by decide +kernel)⟩
theorem lw_p15 : lw_okq (⟨"LeggedThroughModel", "readTunnel", "()I"⟩, 37) := ⟨⟨by decide +kernel, by decide +kernel⟩, List.mem_of_getElem? (i := 454) (by decide +kernel), List.mem_of_getElem? (i := 589) (by decide +kernel), List.mem_of_getElem? (i := 590) (by decide +kernel)⟩
def lw_privs_1 : List (MethodName × Nat) := [(⟨"LeggedThrough", "readTunnel", "()V"⟩, 10), (⟨"LeggedThrough", "pairRefusal", "(III)I"⟩, 10), (⟨"LeggedThrough", "pairMinutes", "(IIIII)I"⟩, 10), (⟨"LeggedThrough", "stepMinutes", "(IIII)I"⟩, 10), (⟨"LeggedThrough", "placeRefusal", "(II)I"⟩, 10), (⟨"LeggedThrough", "aloneMinutes", "(II)I"⟩, 10), (⟨"LeggedThrough", "leastPair", "(I)I"⟩, 10), (⟨"LeggedThrough", "leastBegin", "(II)I"⟩, 10), (⟨"LeggedThrough", "soonestLegs", "()J"⟩, 10), (⟨"LeggedThrough", "leastLegs", "(IIIIJ)J"⟩, 10), (⟨"LeggedThrough", "worth", "(II)I"⟩, 10), (⟨"LeggedThrough", "ordersBehind", "(I)I"⟩, 10), (⟨"LeggedThrough", "isAsSeen", "(I)Z"⟩, 10), (⟨"LeggedThrough", "waysInTime", "(IIIII)I"⟩, 10), (⟨"LeggedThrough", "legAll", "()V"⟩, 10), (⟨"LeggedThroughModel", "readTunnel", "()I"⟩, 37)]
theorem lw_r1 : ∀ q ∈ lw_privs_1, lw_okq q := List.forall_mem_cons.mpr ⟨lw_p0, List.forall_mem_cons.mpr ⟨lw_p1, List.forall_mem_cons.mpr ⟨lw_p2, List.forall_mem_cons.mpr ⟨lw_p3, List.forall_mem_cons.mpr ⟨lw_p4, List.forall_mem_cons.mpr ⟨lw_p5, List.forall_mem_cons.mpr ⟨lw_p6, List.forall_mem_cons.mpr ⟨lw_p7, List.forall_mem_cons.mpr ⟨lw_p8, List.forall_mem_cons.mpr ⟨lw_p9, List.forall_mem_cons.mpr ⟨lw_p10, List.forall_mem_cons.mpr ⟨lw_p11, List.forall_mem_cons.mpr ⟨lw_p12, List.forall_mem_cons.mpr ⟨lw_p13, List.forall_mem_cons.mpr ⟨lw_p14, List.forall_mem_cons.mpr ⟨lw_p15, fun _ h => absurd h List.not_mem_nil⟩⟩⟩⟩⟩⟩⟩⟩⟩⟩⟩⟩⟩⟩⟩⟩
theorem lw_p16 : lw_okq (⟨"LeggedThroughModel", "figure", "(II)I"⟩, 37) := ⟨⟨by decide +kernel, by decide +kernel⟩, List.mem_of_getElem? (i := 454) (by decide +kernel), List.mem_of_getElem? (i := 593) (by decide +kernel), List.mem_of_getElem? (i := 594) (by decide +kernel)⟩
theorem lw_p17 : lw_okq (⟨"LeggedThroughModel", "readPart", "()Z"⟩, 37) := ⟨⟨by decide +kernel, by decide +kernel⟩, List.mem_of_getElem? (i := 454) (by decide +kernel), List.mem_of_getElem? (i := 597) (by decide +kernel), List.mem_of_getElem? (i := 598) (by decide +kernel)⟩
theorem lw_p18 : lw_okq (⟨"LeggedThroughModel", "readLegger", "()Z"⟩, 37) := ⟨⟨by decide +kernel, by decide +kernel⟩, List.mem_of_getElem? (i := 454) (by decide +kernel), List.mem_of_getElem? (i := 601) (by decide +kernel), List.mem_of_getElem? (i := 602) (by decide +kernel)⟩
theorem lw_p19 : lw_okq (⟨"LeggedThroughModel", "noLegger", "(I)Z"⟩, 37) := ⟨⟨by decide +kernel, by decide +kernel⟩, List.mem_of_getElem? (i := 454) (by decide +kernel), List.mem_of_getElem? (i := 617) (by decide +kernel), List.mem_of_getElem? (i := 618) (by decide +kernel)⟩
theorem lw_p20 : lw_okq (⟨"LeggedThroughModel", "noBoat", "(I)Z"⟩, 37) := ⟨⟨by decide +kernel, by decide +kernel⟩, List.mem_of_getElem? (i := 454) (by decide +kernel), List.mem_of_getElem? (i := 626) (by decide +kernel), List.mem_of_getElem? (i := 627) (by decide +kernel)⟩
theorem lw_p21 : lw_okq (⟨"LeggedThroughModel", "noPair", "(III)I"⟩, 37) := ⟨⟨by decide +kernel, by decide +kernel⟩, List.mem_of_getElem? (i := 454) (by decide +kernel), List.mem_of_getElem? (i := 634) (by decide +kernel), List.mem_of_getElem? (i := 635) (by decide +kernel)⟩
theorem lw_p22 : lw_okq (⟨"LeggedThroughModel", "note", "()V"⟩, 37) := ⟨⟨by decide +kernel, by decide +kernel⟩, List.mem_of_getElem? (i := 454) (by decide +kernel), List.mem_of_getElem? (i := 641) (by decide +kernel), List.mem_of_getElem? (i := 642) (by decide +kernel)⟩
theorem lw_p23 : lw_okq (⟨"LeggedThroughModel", "goLeg", "([IIII)V"⟩, 37) := ⟨⟨by decide +kernel, by decide +kernel⟩, List.mem_of_getElem? (i := 454) (by decide +kernel), List.mem_of_getElem? (i := 645) (by decide +kernel), List.mem_of_getElem? (i := 646) (by decide +kernel)⟩
theorem lw_p24 : lw_okq (⟨"LeggedThroughModel", "timeOf", "([IIIII)I"⟩, 37) := ⟨⟨by decide +kernel, by decide +kernel⟩, List.mem_of_getElem? (i := 454) (by decide +kernel), List.mem_of_getElem? (i := 649) (by decide +kernel), List.mem_of_getElem? (i := 650) (by decide +kernel)⟩
theorem lw_p25 : lw_okq (⟨"LeggedThroughModel", "takes", "([IIII)I"⟩, 37) := ⟨⟨by decide +kernel, by decide +kernel⟩, List.mem_of_getElem? (i := 454) (by decide +kernel), List.mem_of_getElem? (i := 653) (by decide +kernel), List.mem_of_getElem? (i := 654) (by decide +kernel)⟩
theorem lw_p26 : lw_okq (⟨"LeggedThroughModel", "findBest", "(II)V"⟩, 37) := ⟨⟨by decide +kernel, by decide +kernel⟩, List.mem_of_getElem? (i := 454) (by decide +kernel), List.mem_of_getElem? (i := 691) (by decide +kernel), List.mem_of_getElem? (i := 692) (by decide +kernel)⟩
theorem lw_p27 : lw_okq (⟨"LeggedThroughModel", "findBegin", "(III)V"⟩, 37) := ⟨⟨by decide +kernel, by decide +kernel⟩, List.mem_of_getElem? (i := 454) (by decide +kernel), List.mem_of_getElem? (i := 699) (by decide +kernel), List.mem_of_getElem? (i := 700) (by decide +kernel)⟩
theorem lw_p28 : lw_okq (⟨"LeggedThroughModel", "findSoonest", "()V"⟩, 37) := ⟨⟨by decide +kernel, by decide +kernel⟩, List.mem_of_getElem? (i := 454) (by decide +kernel), List.mem_of_getElem? (i := 710) (by decide +kernel), List.mem_of_getElem? (i := 711) (by decide +kernel)⟩
theorem lw_p29 : lw_okq (⟨"LeggedThroughModel", "layPairs", "()V"⟩, 37) := ⟨⟨by decide +kernel, by decide +kernel⟩, List.mem_of_getElem? (i := 454) (by decide +kernel), List.mem_of_getElem? (i := 714) (by decide +kernel), List.mem_of_getElem? (i := 715) (by decide +kernel)⟩
theorem lw_p30 : lw_okq (⟨"LeggedThroughModel", "isSeen", "(I)Z"⟩, 37) := ⟨⟨by decide +kernel, by decide +kernel⟩, List.mem_of_getElem? (i := 454) (by decide +kernel), List.mem_of_getElem? (i := 755) (by decide +kernel), List.mem_of_getElem? (i := 756) (by decide +kernel)⟩
theorem lw_p31 : lw_okq (⟨"LeggedThroughModel", "findRests", "(II)V"⟩, 37) := ⟨⟨by decide +kernel, by decide +kernel⟩, List.mem_of_getElem? (i := 454) (by decide +kernel), List.mem_of_getElem? (i := 763) (by decide +kernel), List.mem_of_getElem? (i := 764) (by decide +kernel)⟩
def lw_privs_2 : List (MethodName × Nat) := [(⟨"LeggedThroughModel", "figure", "(II)I"⟩, 37), (⟨"LeggedThroughModel", "readPart", "()Z"⟩, 37), (⟨"LeggedThroughModel", "readLegger", "()Z"⟩, 37), (⟨"LeggedThroughModel", "noLegger", "(I)Z"⟩, 37), (⟨"LeggedThroughModel", "noBoat", "(I)Z"⟩, 37), (⟨"LeggedThroughModel", "noPair", "(III)I"⟩, 37), (⟨"LeggedThroughModel", "note", "()V"⟩, 37), (⟨"LeggedThroughModel", "goLeg", "([IIII)V"⟩, 37), (⟨"LeggedThroughModel", "timeOf", "([IIIII)I"⟩, 37), (⟨"LeggedThroughModel", "takes", "([IIII)I"⟩, 37), (⟨"LeggedThroughModel", "findBest", "(II)V"⟩, 37), (⟨"LeggedThroughModel", "findBegin", "(III)V"⟩, 37), (⟨"LeggedThroughModel", "findSoonest", "()V"⟩, 37), (⟨"LeggedThroughModel", "layPairs", "()V"⟩, 37), (⟨"LeggedThroughModel", "isSeen", "(I)Z"⟩, 37), (⟨"LeggedThroughModel", "findRests", "(II)V"⟩, 37)]
theorem lw_r2 : ∀ q ∈ lw_privs_2, lw_okq q := List.forall_mem_cons.mpr ⟨lw_p16, List.forall_mem_cons.mpr ⟨lw_p17, List.forall_mem_cons.mpr ⟨lw_p18, List.forall_mem_cons.mpr ⟨lw_p19, List.forall_mem_cons.mpr ⟨lw_p20, List.forall_mem_cons.mpr ⟨lw_p21, List.forall_mem_cons.mpr ⟨lw_p22, List.forall_mem_cons.mpr ⟨lw_p23, List.forall_mem_cons.mpr ⟨lw_p24, List.forall_mem_cons.mpr ⟨lw_p25, List.forall_mem_cons.mpr ⟨lw_p26, List.forall_mem_cons.mpr ⟨lw_p27, List.forall_mem_cons.mpr ⟨lw_p28, List.forall_mem_cons.mpr ⟨lw_p29, List.forall_mem_cons.mpr ⟨lw_p30, List.forall_mem_cons.mpr ⟨lw_p31, fun _ h => absurd h List.not_mem_nil⟩⟩⟩⟩⟩⟩⟩⟩⟩⟩⟩⟩⟩⟩⟩⟩
theorem lw_p32 : lw_okq (⟨"LeggedThroughModel", "goSoonest", "()V"⟩, 37) := ⟨⟨by decide +kernel, by decide +kernel⟩, List.mem_of_getElem? (i := 454) (by decide +kernel), List.mem_of_getElem? (i := 788) (by decide +kernel), List.mem_of_getElem? (i := 789) (by decide +kernel)⟩
def lw_privs_3 : List (MethodName × Nat) := [(⟨"LeggedThroughModel", "goSoonest", "()V"⟩, 37)]
theorem lw_r3 : ∀ q ∈ lw_privs_3, lw_okq q := List.forall_mem_cons.mpr ⟨lw_p32, fun _ h => absurd h List.not_mem_nil⟩
def lw_privs : List (MethodName × Nat) := lw_privs_1 ++ (lw_privs_2 ++ (lw_privs_3))
def lw_tbl : List Cond := k2_sels lw_privs ++ tables_1
theorem lw_privs_ok : ∀ q ∈ lw_privs, lw_okq q := by
  show ∀ q ∈ lw_privs_1 ++ (lw_privs_2 ++ (lw_privs_3)), lw_okq q
  exact List.forall_mem_append.mpr ⟨lw_r1, List.forall_mem_append.mpr ⟨lw_r2, lw_r3⟩⟩
-- ===== end of PART A; then your names; then what follows =====
end
section
/-! ===== BEGIN words of one list among another's, by their places ===== -/
theorem goodIn_r {big : List Cond} (ws : List Cond) (ps : List Nat) (hp : ws = ps.filterMap (fun i => big[i]?)) (h : ws.all goodWord = true) : GoodIn big ws := by
  intro w hw
  have h1 := List.all_eq_true.mp h w hw
  rw [hp] at hw
  obtain ⟨i, -, hi⟩ := List.mem_filterMap.mp hw
  have hm : w ∈ big := by first | exact List.mem_of_getElem? hi | exact List.getElem?_mem hi
  exact ⟨hm, good_of_word h1⟩
theorem goodIn_app {big a b : List Cond} (ha : GoodIn big a) (hb : GoodIn big b) : GoodIn big (a ++ b) := fun w h => (List.mem_append.mp h).elim (ha w) (hb w)
theorem goodIn_ca {big a b : List Cond} {c : Cond} (ha : GoodIn big (c :: a)) (hb : GoodIn big b) : GoodIn big (c :: (a ++ b)) := fun w h => (List.mem_cons.mp h).elim (fun e => ha w (List.mem_cons.mpr (Or.inl e))) (fun h => (List.mem_append.mp h).elim (fun h => ha w (List.mem_cons.mpr (Or.inr h))) (hb w))
theorem goodIn_sub {big ws : List Cond} (hm : ∀ w ∈ ws, w ∈ big) (h : ws.all goodWord = true) : GoodIn big ws := fun w hw => ⟨hm w hw, good_of_word (List.all_eq_true.mp h w hw)⟩
/-! ===== END ===== -/

/-! ===== BEGIN printed: names, fields, word lists, decode rows ===== -/
def RX0 : String := "LeggedThrough$Acts"
def TX0 : u_T := fun k => match k with
  | 0 => ("LeggedThrough$Acts", "ring", "[I", true)
  | 1 => ("LeggedThrough$Acts", "first", "I", false)
  | _ => ("LeggedThrough$Acts", "many", "I", false)
def tyX0 : Nat → FieldType := fun k => match k with
  | 0 => .array .int
  | 1 => .int
  | _ => .int
abbrev wsX00 : List Cond := u_ws RX0 TX0 3
theorem nmX0 : ∀ a, a < 3 → ∀ b, b < 3 → a ≠ b → (TX0 a).2.1 ≠ (TX0 b).2.1 := by decide +kernel
theorem tyX0_ok : ∀ k, k < 3 → parseFieldDescriptor (TX0 k).2.2.1 = some (tyX0 k) := by decide +kernel
abbrev cX0_init : ByteArray := prog_2_method_1_code
def yX0_init : MethodName := ⟨RX0, "<init>", "()V"⟩
abbrev cX0_forgetAll : ByteArray := prog_2_method_2_code
def yX0_forgetAll : MethodName := ⟨RX0, "forgetAll", "()V"⟩
abbrev cX0_remember : ByteArray := prog_2_method_3_code
def yX0_remember : MethodName := ⟨RX0, "remember", "(LLeggedThrough$State;)V"⟩
abbrev cX0_takeBack : ByteArray := prog_2_method_4_code
def yX0_takeBack : MethodName := ⟨RX0, "takeBack", "(LLeggedThrough$State;)V"⟩
def RX1 : String := "LeggedThrough$Plan"
def TX1 : u_T := fun k => match k with
  | 0 => ("LeggedThrough$Plan", "steps", "I", false)
  | 1 => ("LeggedThrough$Plan", "leggers", "I", false)
  | 2 => ("LeggedThrough$Plan", "boats", "I", false)
  | 3 => ("LeggedThrough$Plan", "kinds", "I", false)
  | _ => ("LeggedThrough$Plan", "loads", "I", false)
def tyX1 : Nat → FieldType := fun k => match k with
  | 0 => .int
  | 1 => .int
  | 2 => .int
  | 3 => .int
  | _ => .int
abbrev wsX10 : List Cond := u_ws RX1 TX1 5
theorem nmX1 : ∀ a, a < 5 → ∀ b, b < 5 → a ≠ b → (TX1 a).2.1 ≠ (TX1 b).2.1 := by decide +kernel
theorem tyX1_ok : ∀ k, k < 5 → parseFieldDescriptor (TX1 k).2.2.1 = some (tyX1 k) := by decide +kernel
abbrev cX1_init : ByteArray := prog_3_method_1_code
def yX1_init : MethodName := ⟨RX1, "<init>", "()V"⟩
abbrev cX1_layOut : ByteArray := prog_3_method_2_code
def yX1_layOut : MethodName := ⟨RX1, "layOut", "(I)V"⟩
abbrev cX1_addLegger : ByteArray := prog_3_method_3_code
def yX1_addLegger : MethodName := ⟨RX1, "addLegger", "(I)V"⟩
abbrev cX1_addBoat : ByteArray := prog_3_method_4_code
def yX1_addBoat : MethodName := ⟨RX1, "addBoat", "(I)V"⟩
abbrev cX1_hasLegger : ByteArray := prog_3_method_5_code
def yX1_hasLegger : MethodName := ⟨RX1, "hasLegger", "(I)Z"⟩
abbrev cX1_hasBoat : ByteArray := prog_3_method_6_code
def yX1_hasBoat : MethodName := ⟨RX1, "hasBoat", "(I)Z"⟩
abbrev cX1_allLeggers : ByteArray := prog_3_method_7_code
def yX1_allLeggers : MethodName := ⟨RX1, "allLeggers", "()I"⟩
abbrev cX1_allBoats : ByteArray := prog_3_method_8_code
def yX1_allBoats : MethodName := ⟨RX1, "allBoats", "()I"⟩
abbrev cX1_kindOf : ByteArray := prog_3_method_9_code
def yX1_kindOf : MethodName := ⟨RX1, "kindOf", "(I)I"⟩
abbrev cX1_loadOf : ByteArray := prog_3_method_10_code
def yX1_loadOf : MethodName := ⟨RX1, "loadOf", "(I)I"⟩
def RX2 : String := "LeggedThrough$State"
def TX2 : u_T := fun k => match k with
  | 0 => ("LeggedThrough$State", "grounds", "I", false)
  | 1 => ("LeggedThrough$State", "tired", "I", false)
  | 2 => ("LeggedThrough$State", "through", "I", false)
  | _ => ("LeggedThrough$State", "clock", "I", false)
def tyX2 : Nat → FieldType := fun k => match k with
  | 0 => .int
  | 1 => .int
  | 2 => .int
  | _ => .int
abbrev wsX20 : List Cond := u_ws RX2 TX2 4
theorem nmX2 : ∀ a, a < 4 → ∀ b, b < 4 → a ≠ b → (TX2 a).2.1 ≠ (TX2 b).2.1 := by decide +kernel
theorem tyX2_ok : ∀ k, k < 4 → parseFieldDescriptor (TX2 k).2.2.1 = some (tyX2 k) := by decide +kernel
abbrev cX2_init : ByteArray := prog_4_method_1_code
def yX2_init : MethodName := ⟨RX2, "<init>", "()V"⟩
abbrev cX2_clear : ByteArray := prog_4_method_2_code
def yX2_clear : MethodName := ⟨RX2, "clear", "()V"⟩
abbrev cX2_groundAt : ByteArray := prog_4_method_3_code
def yX2_groundAt : MethodName := ⟨RX2, "groundAt", "(II)I"⟩
abbrev cX2_cover : ByteArray := prog_4_method_4_code
def yX2_cover : MethodName := ⟨RX2, "cover", "(III)V"⟩
abbrev cX2_wetPlaces : ByteArray := prog_4_method_5_code
def yX2_wetPlaces : MethodName := ⟨RX2, "wetPlaces", "(I)I"⟩
abbrev cX2_storeIn : ByteArray := prog_4_method_6_code
def yX2_storeIn : MethodName := ⟨RX2, "storeIn", "([II)V"⟩
abbrev cX2_fetchFrom : ByteArray := prog_4_method_7_code
def yX2_fetchFrom : MethodName := ⟨RX2, "fetchFrom", "([II)V"⟩
def RX3 : String := "LeggedThrough$Text"
def TX3 : u_T := fun k => match k with
  | 0 => ("LeggedThrough$Text", "letters", "[I", true)
  | _ => ("LeggedThrough$Text", "length", "I", false)
def tyX3 : Nat → FieldType := fun k => match k with
  | 0 => .array .int
  | _ => .int
abbrev wsX30 : List Cond := u_ws RX3 TX3 2
theorem nmX3 : ∀ a, a < 2 → ∀ b, b < 2 → a ≠ b → (TX3 a).2.1 ≠ (TX3 b).2.1 := by decide +kernel
theorem tyX3_ok : ∀ k, k < 2 → parseFieldDescriptor (TX3 k).2.2.1 = some (tyX3 k) := by decide +kernel
abbrev cX3_init : ByteArray := prog_5_method_1_code
def yX3_init : MethodName := ⟨RX3, "<init>", "()V"⟩
abbrev cX3_append : ByteArray := prog_5_method_2_code
def yX3_append : MethodName := ⟨RX3, "append", "(I)Z"⟩
abbrev cX3_letterAt : ByteArray := prog_5_method_3_code
def yX3_letterAt : MethodName := ⟨RX3, "letterAt", "(I)I"⟩
abbrev cX3_figureAt : ByteArray := prog_5_method_4_code
def yX3_figureAt : MethodName := ⟨RX3, "figureAt", "(I)I"⟩
abbrev cX3_firstFault : ByteArray := prog_5_method_5_code
def yX3_firstFault : MethodName := ⟨RX3, "firstFault", "()I"⟩
def RX4 : String := "LeggedThrough"
def TX4 : u_T := fun k => match k with
  | 0 => ("LeggedThrough", "text", "LLeggedThrough$Text;", true)
  | 1 => ("LeggedThrough", "plan", "LLeggedThrough$Plan;", true)
  | 2 => ("LeggedThrough", "state", "LLeggedThrough$State;", true)
  | 3 => ("LeggedThrough", "acts", "LLeggedThrough$Acts;", true)
  | 4 => ("LeggedThrough", "slots", "[I", true)
  | 5 => ("LeggedThrough", "aside", "[I", true)
  | 6 => ("LeggedThrough", "slotsKept", "I", false)
  | 7 => ("LeggedThrough", "seenMinutes", "I", false)
  | 8 => ("LeggedThrough", "seenMany", "I", false)
  | _ => ("LeggedThrough", "theSeed", "J", false)
def tyX4 : Nat → FieldType := fun k => match k with
  | 0 => .object "LeggedThrough$Text"
  | 1 => .object "LeggedThrough$Plan"
  | 2 => .object "LeggedThrough$State"
  | 3 => .object "LeggedThrough$Acts"
  | 4 => .array .int
  | 5 => .array .int
  | 6 => .int
  | 7 => .int
  | 8 => .int
  | _ => .long
abbrev wsX40 : List Cond := u_ws RX4 TX4 10
theorem nmX4 : ∀ a, a < 10 → ∀ b, b < 10 → a ≠ b → (TX4 a).2.1 ≠ (TX4 b).2.1 := by decide +kernel
theorem tyX4_ok : ∀ k, k < 10 → parseFieldDescriptor (TX4 k).2.2.1 = some (tyX4 k) := by decide +kernel
abbrev cX4_init : ByteArray := prog_1_method_1_code
def yX4_init : MethodName := ⟨RX4, "<init>", "()V"⟩
abbrev cX4_write : ByteArray := prog_1_method_2_code
def yX4_write : MethodName := ⟨RX4, "write", "(I)I"⟩
abbrev cX4_wipe : ByteArray := prog_1_method_3_code
def yX4_wipe : MethodName := ⟨RX4, "wipe", "()I"⟩
abbrev cX4_fault : ByteArray := prog_1_method_4_code
def yX4_fault : MethodName := ⟨RX4, "fault", "()I"⟩
abbrev cX4_tunnel : ByteArray := prog_1_method_5_code
def yX4_tunnel : MethodName := ⟨RX4, "tunnel", "()I"⟩
abbrev cX4_about : ByteArray := prog_1_method_6_code
def yX4_about : MethodName := ⟨RX4, "about", "(I)I"⟩
abbrev cX4_legger : ByteArray := prog_1_method_7_code
def yX4_legger : MethodName := ⟨RX4, "legger", "(II)I"⟩
abbrev cX4_load : ByteArray := prog_1_method_8_code
def yX4_load : MethodName := ⟨RX4, "load", "(I)I"⟩
abbrev cX4_leg : ByteArray := prog_1_method_9_code
def yX4_leg : MethodName := ⟨RX4, "leg", "(III)I"⟩
abbrev cX4_rest : ByteArray := prog_1_method_10_code
def yX4_rest : MethodName := ⟨RX4, "rest", "(I)I"⟩
abbrev cX4_wet : ByteArray := prog_1_method_11_code
def yX4_wet : MethodName := ⟨RX4, "wet", "(II)I"⟩
abbrev cX4_dry : ByteArray := prog_1_method_12_code
def yX4_dry : MethodName := ⟨RX4, "dry", "(II)I"⟩
abbrev cX4_undo : ByteArray := prog_1_method_13_code
def yX4_undo : MethodName := ⟨RX4, "undo", "()I"⟩
abbrev cX4_alone : ByteArray := prog_1_method_14_code
def yX4_alone : MethodName := ⟨RX4, "alone", "(II)I"⟩
abbrev cX4_time : ByteArray := prog_1_method_15_code
def yX4_time : MethodName := ⟨RX4, "time", "(IIIII)I"⟩
abbrev cX4_best : ByteArray := prog_1_method_16_code
def yX4_best : MethodName := ⟨RX4, "best", "(II)I"⟩
abbrev cX4_begin : ByteArray := prog_1_method_17_code
def yX4_begin : MethodName := ⟨RX4, "begin", "(IIII)I"⟩
abbrev cX4_soonest : ByteArray := prog_1_method_18_code
def yX4_soonest : MethodName := ⟨RX4, "soonest", "(Z)I"⟩
abbrev cX4_judge : ByteArray := prog_1_method_19_code
def yX4_judge : MethodName := ⟨RX4, "judge", "(II)I"⟩
abbrev cX4_share : ByteArray := prog_1_method_20_code
def yX4_share : MethodName := ⟨RX4, "share", "(IIZ)I"⟩
abbrev cX4_see : ByteArray := prog_1_method_21_code
def yX4_see : MethodName := ⟨RX4, "see", "(II)I"⟩
abbrev cX4_unsee : ByteArray := prog_1_method_22_code
def yX4_unsee : MethodName := ⟨RX4, "unsee", "()I"⟩
abbrev cX4_lives : ByteArray := prog_1_method_23_code
def yX4_lives : MethodName := ⟨RX4, "lives", "(I)I"⟩
abbrev cX4_rests : ByteArray := prog_1_method_24_code
def yX4_rests : MethodName := ⟨RX4, "rests", "(III)I"⟩
abbrev cX4_chance : ByteArray := prog_1_method_25_code
def yX4_chance : MethodName := ⟨RX4, "chance", "(IIIZ)I"⟩
abbrev cX4_seed : ByteArray := prog_1_method_26_code
def yX4_seed : MethodName := ⟨RX4, "seed", "(J)J"⟩
abbrev cX4_days : ByteArray := prog_1_method_27_code
def yX4_days : MethodName := ⟨RX4, "days", "(I)I"⟩
abbrev cX4_keep : ByteArray := prog_1_method_28_code
def yX4_keep : MethodName := ⟨RX4, "keep", "(I)I"⟩
abbrev cX4_again : ByteArray := prog_1_method_29_code
def yX4_again : MethodName := ⟨RX4, "again", "(I)I"⟩
abbrev cX4_pairRefusal : ByteArray := prog_1_method_30_code
def yX4_pairRefusal : MethodName := ⟨RX4, "pairRefusal", "(III)I"⟩
abbrev cX4_placeRefusal : ByteArray := prog_1_method_31_code
def yX4_placeRefusal : MethodName := ⟨RX4, "placeRefusal", "(II)I"⟩
abbrev cX4_isPlace : ByteArray := prog_1_method_32_code
def yX4_isPlace : MethodName := ⟨RX4, "isPlace", "(I)Z"⟩
abbrev cX4_isIn : ByteArray := prog_1_method_33_code
def yX4_isIn : MethodName := ⟨RX4, "isIn", "(II)Z"⟩
abbrev cX4_groundIn : ByteArray := prog_1_method_34_code
def yX4_groundIn : MethodName := ⟨RX4, "groundIn", "(II)I"⟩
abbrev cX4_timesTired : ByteArray := prog_1_method_35_code
def yX4_timesTired : MethodName := ⟨RX4, "timesTired", "(II)I"⟩
abbrev cX4_tireOne : ByteArray := prog_1_method_36_code
def yX4_tireOne : MethodName := ⟨RX4, "tireOne", "(II)I"⟩
abbrev cX4_tireBoth : ByteArray := prog_1_method_37_code
def yX4_tireBoth : MethodName := ⟨RX4, "tireBoth", "(III)I"⟩
abbrev cX4_legTold : ByteArray := prog_1_method_38_code
def yX4_legTold : MethodName := ⟨RX4, "legTold", "(II)I"⟩
abbrev cX4_factorial : ByteArray := prog_1_method_39_code
def yX4_factorial : MethodName := ⟨RX4, "factorial", "(I)I"⟩
abbrev cX4_fraction : ByteArray := prog_1_method_40_code
def yX4_fraction : MethodName := ⟨RX4, "fraction", "(IIZ)I"⟩
abbrev cX4_readTunnel : ByteArray := prog_1_method_41_code
def yX4_readTunnel : MethodName := ⟨RX4, "readTunnel", "()V"⟩
abbrev cX4_minutesOver : ByteArray := prog_1_method_42_code
def yX4_minutesOver : MethodName := ⟨RX4, "minutesOver", "(I)I"⟩
abbrev cX4_placeBehind : ByteArray := prog_1_method_43_code
def yX4_placeBehind : MethodName := ⟨RX4, "placeBehind", "(II)I"⟩
abbrev cX4_stepMinutes : ByteArray := prog_1_method_44_code
def yX4_stepMinutes : MethodName := ⟨RX4, "stepMinutes", "(IIII)I"⟩
abbrev cX4_aloneMinutes : ByteArray := prog_1_method_45_code
def yX4_aloneMinutes : MethodName := ⟨RX4, "aloneMinutes", "(II)I"⟩
abbrev cX4_pairMinutes : ByteArray := prog_1_method_46_code
def yX4_pairMinutes : MethodName := ⟨RX4, "pairMinutes", "(IIIII)I"⟩
abbrev cX4_leastPair : ByteArray := prog_1_method_47_code
def yX4_leastPair : MethodName := ⟨RX4, "leastPair", "(I)I"⟩
abbrev cX4_leastBegin : ByteArray := prog_1_method_48_code
def yX4_leastBegin : MethodName := ⟨RX4, "leastBegin", "(II)I"⟩
abbrev cX4_soonestLegs : ByteArray := prog_1_method_49_code
def yX4_soonestLegs : MethodName := ⟨RX4, "soonestLegs", "()J"⟩
abbrev cX4_leastLegs : ByteArray := prog_1_method_50_code
def yX4_leastLegs : MethodName := ⟨RX4, "leastLegs", "(IIIIJ)J"⟩
abbrev cX4_worth : ByteArray := prog_1_method_51_code
def yX4_worth : MethodName := ⟨RX4, "worth", "(II)I"⟩
abbrev cX4_ordersBehind : ByteArray := prog_1_method_52_code
def yX4_ordersBehind : MethodName := ⟨RX4, "ordersBehind", "(I)I"⟩
abbrev cX4_isAsSeen : ByteArray := prog_1_method_53_code
def yX4_isAsSeen : MethodName := ⟨RX4, "isAsSeen", "(I)Z"⟩
abbrev cX4_loss : ByteArray := prog_1_method_54_code
def yX4_loss : MethodName := ⟨RX4, "loss", "(III)I"⟩
abbrev cX4_staysWith : ByteArray := prog_1_method_55_code
def yX4_staysWith : MethodName := ⟨RX4, "staysWith", "(III)Z"⟩
abbrev cX4_waysInTime : ByteArray := prog_1_method_56_code
def yX4_waysInTime : MethodName := ⟨RX4, "waysInTime", "(IIIII)I"⟩
abbrev cX4_legAll : ByteArray := prog_1_method_57_code
def yX4_legAll : MethodName := ⟨RX4, "legAll", "()V"⟩
def RX5 : String := "LeggedThroughModel"
def TX5 : u_T := fun k => match k with
  | 0 => ("LeggedThroughModel", "thrown", "I", false)
  | 1 => ("LeggedThroughModel", "text", "[I", true)
  | 2 => ("LeggedThroughModel", "textSize", "I", false)
  | 3 => ("LeggedThroughModel", "place", "I", false)
  | 4 => ("LeggedThroughModel", "steps", "I", false)
  | 5 => ("LeggedThroughModel", "leggers", "I", false)
  | 6 => ("LeggedThroughModel", "kind", "[I", true)
  | 7 => ("LeggedThroughModel", "boats", "I", false)
  | 8 => ("LeggedThroughModel", "load", "[I", true)
  | 9 => ("LeggedThroughModel", "readSteps", "I", false)
  | 10 => ("LeggedThroughModel", "readLeggers", "I", false)
  | 11 => ("LeggedThroughModel", "readLegger", "[I", true)
  | 12 => ("LeggedThroughModel", "readBoats", "I", false)
  | 13 => ("LeggedThroughModel", "readBoat", "[I", true)
  | 14 => ("LeggedThroughModel", "page", "[I", true)
  | 15 => ("LeggedThroughModel", "trial", "[I", true)
  | 16 => ("LeggedThroughModel", "base", "[I", true)
  | 17 => ("LeggedThroughModel", "book", "[I", true)
  | 18 => ("LeggedThroughModel", "acts", "I", false)
  | 19 => ("LeggedThroughModel", "kept", "[I", true)
  | 20 => ("LeggedThroughModel", "isKept", "[Z", true)
  | 21 => ("LeggedThroughModel", "seen", "I", false)
  | 22 => ("LeggedThroughModel", "seenStep", "[I", true)
  | 23 => ("LeggedThroughModel", "seenTime", "[I", true)
  | 24 => ("LeggedThroughModel", "seed", "J", false)
  | 25 => ("LeggedThroughModel", "bestPair", "I", false)
  | 26 => ("LeggedThroughModel", "bestTime", "I", false)
  | 27 => ("LeggedThroughModel", "beginAt", "I", false)
  | 28 => ("LeggedThroughModel", "beginTime", "I", false)
  | 29 => ("LeggedThroughModel", "soonTime", "I", false)
  | 30 => ("LeggedThroughModel", "soonRow", "I", false)
  | 31 => ("LeggedThroughModel", "restMany", "I", false)
  | 32 => ("LeggedThroughModel", "restFirst", "I", false)
  | 33 => ("LeggedThroughModel", "value", "[I", true)
  | 34 => ("LeggedThroughModel", "pairOne", "[I", true)
  | 35 => ("LeggedThroughModel", "pairTwo", "[I", true)
  | _ => ("LeggedThroughModel", "pairs", "I", false)
def tyX5 : Nat → FieldType := fun k => match k with
  | 0 => .int
  | 1 => .array .int
  | 2 => .int
  | 3 => .int
  | 4 => .int
  | 5 => .int
  | 6 => .array .int
  | 7 => .int
  | 8 => .array .int
  | 9 => .int
  | 10 => .int
  | 11 => .array .int
  | 12 => .int
  | 13 => .array .int
  | 14 => .array .int
  | 15 => .array .int
  | 16 => .array .int
  | 17 => .array .int
  | 18 => .int
  | 19 => .array .int
  | 20 => .array .boolean
  | 21 => .int
  | 22 => .array .int
  | 23 => .array .int
  | 24 => .long
  | 25 => .int
  | 26 => .int
  | 27 => .int
  | 28 => .int
  | 29 => .int
  | 30 => .int
  | 31 => .int
  | 32 => .int
  | 33 => .array .int
  | 34 => .array .int
  | 35 => .array .int
  | _ => .int
abbrev wsX50 : List Cond := u_ws RX5 TX5 37
theorem nmX5 : ∀ a, a < 37 → ∀ b, b < 37 → a ≠ b → (TX5 a).2.1 ≠ (TX5 b).2.1 := by decide +kernel
theorem tyX5_ok : ∀ k, k < 37 → parseFieldDescriptor (TX5 k).2.2.1 = some (tyX5 k) := by decide +kernel
abbrev cX5_init : ByteArray := prog_7_method_1_code
def yX5_init : MethodName := ⟨RX5, "<init>", "()V"⟩
abbrev cX5_in : ByteArray := prog_7_method_3_code
def yX5_in : MethodName := ⟨RX5, "in", "(JJJ)Z"⟩
abbrev cX5_has : ByteArray := prog_7_method_4_code
def yX5_has : MethodName := ⟨RX5, "has", "(II)Z"⟩
abbrev cX5_many : ByteArray := prog_7_method_5_code
def yX5_many : MethodName := ⟨RX5, "many", "(I)I"⟩
abbrev cX5_noLegger : ByteArray := prog_7_method_6_code
def yX5_noLegger : MethodName := ⟨RX5, "noLegger", "(I)Z"⟩
abbrev cX5_noBoat : ByteArray := prog_7_method_7_code
def yX5_noBoat : MethodName := ⟨RX5, "noBoat", "(I)Z"⟩
abbrev cX5_write : ByteArray := prog_7_method_8_code
def yX5_write : MethodName := ⟨RX5, "write", "(I)I"⟩
abbrev cX5_wipe : ByteArray := prog_7_method_9_code
def yX5_wipe : MethodName := ⟨RX5, "wipe", "()I"⟩
abbrev cX5_figure : ByteArray := prog_7_method_10_code
def yX5_figure : MethodName := ⟨RX5, "figure", "(II)I"⟩
abbrev cX5_readLegger : ByteArray := prog_7_method_11_code
def yX5_readLegger : MethodName := ⟨RX5, "readLegger", "()Z"⟩
abbrev cX5_readPart : ByteArray := prog_7_method_12_code
def yX5_readPart : MethodName := ⟨RX5, "readPart", "()Z"⟩
abbrev cX5_readTunnel : ByteArray := prog_7_method_13_code
def yX5_readTunnel : MethodName := ⟨RX5, "readTunnel", "()I"⟩
abbrev cX5_fault : ByteArray := prog_7_method_14_code
def yX5_fault : MethodName := ⟨RX5, "fault", "()I"⟩
abbrev cX5_tunnel : ByteArray := prog_7_method_15_code
def yX5_tunnel : MethodName := ⟨RX5, "tunnel", "()I"⟩
abbrev cX5_minutes : ByteArray := prog_7_method_16_code
def yX5_minutes : MethodName := ⟨RX5, "minutes", "(I)I"⟩
abbrev cX5_takes : ByteArray := prog_7_method_17_code
def yX5_takes : MethodName := ⟨RX5, "takes", "([IIII)I"⟩
abbrev cX5_next : ByteArray := prog_7_method_18_code
def yX5_next : MethodName := ⟨RX5, "next", "(II)I"⟩
abbrev cX5_timeOf : ByteArray := prog_7_method_19_code
def yX5_timeOf : MethodName := ⟨RX5, "timeOf", "([IIIII)I"⟩
abbrev cX5_about : ByteArray := prog_7_method_20_code
def yX5_about : MethodName := ⟨RX5, "about", "(I)I"⟩
abbrev cX5_legger : ByteArray := prog_7_method_21_code
def yX5_legger : MethodName := ⟨RX5, "legger", "(II)I"⟩
abbrev cX5_load : ByteArray := prog_7_method_22_code
def yX5_load : MethodName := ⟨RX5, "load", "(I)I"⟩
abbrev cX5_note : ByteArray := prog_7_method_23_code
def yX5_note : MethodName := ⟨RX5, "note", "()V"⟩
abbrev cX5_goLeg : ByteArray := prog_7_method_24_code
def yX5_goLeg : MethodName := ⟨RX5, "goLeg", "([IIII)V"⟩
abbrev cX5_noPair : ByteArray := prog_7_method_25_code
def yX5_noPair : MethodName := ⟨RX5, "noPair", "(III)I"⟩
abbrev cX5_leg : ByteArray := prog_7_method_26_code
def yX5_leg : MethodName := ⟨RX5, "leg", "(III)I"⟩
abbrev cX5_rest : ByteArray := prog_7_method_27_code
def yX5_rest : MethodName := ⟨RX5, "rest", "(I)I"⟩
abbrev cX5_wet : ByteArray := prog_7_method_28_code
def yX5_wet : MethodName := ⟨RX5, "wet", "(II)I"⟩
abbrev cX5_dry : ByteArray := prog_7_method_29_code
def yX5_dry : MethodName := ⟨RX5, "dry", "(II)I"⟩
abbrev cX5_undo : ByteArray := prog_7_method_30_code
def yX5_undo : MethodName := ⟨RX5, "undo", "()I"⟩
abbrev cX5_copy : ByteArray := prog_7_method_31_code
def yX5_copy : MethodName := ⟨RX5, "copy", "([I[I)V"⟩
abbrev cX5_alone : ByteArray := prog_7_method_32_code
def yX5_alone : MethodName := ⟨RX5, "alone", "(II)I"⟩
abbrev cX5_time : ByteArray := prog_7_method_33_code
def yX5_time : MethodName := ⟨RX5, "time", "(IIIII)I"⟩
abbrev cX5_findBest : ByteArray := prog_7_method_34_code
def yX5_findBest : MethodName := ⟨RX5, "findBest", "(II)V"⟩
abbrev cX5_best : ByteArray := prog_7_method_35_code
def yX5_best : MethodName := ⟨RX5, "best", "(II)I"⟩
abbrev cX5_findBegin : ByteArray := prog_7_method_36_code
def yX5_findBegin : MethodName := ⟨RX5, "findBegin", "(III)V"⟩
abbrev cX5_begin : ByteArray := prog_7_method_37_code
def yX5_begin : MethodName := ⟨RX5, "begin", "(IIII)I"⟩
abbrev cX5_power : ByteArray := prog_7_method_38_code
def yX5_power : MethodName := ⟨RX5, "power", "(II)I"⟩
abbrev cX5_layPairs : ByteArray := prog_7_method_39_code
def yX5_layPairs : MethodName := ⟨RX5, "layPairs", "()V"⟩
abbrev cX5_findSoonest : ByteArray := prog_7_method_40_code
def yX5_findSoonest : MethodName := ⟨RX5, "findSoonest", "()V"⟩
abbrev cX5_soonest : ByteArray := prog_7_method_41_code
def yX5_soonest : MethodName := ⟨RX5, "soonest", "(Z)I"⟩
abbrev cX5_judge : ByteArray := prog_7_method_42_code
def yX5_judge : MethodName := ⟨RX5, "judge", "(II)I"⟩
abbrev cX5_ways : ByteArray := prog_7_method_43_code
def yX5_ways : MethodName := ⟨RX5, "ways", "(I)I"⟩
abbrev cX5_divisor : ByteArray := prog_7_method_44_code
def yX5_divisor : MethodName := ⟨RX5, "divisor", "(II)I"⟩
abbrev cX5_fraction : ByteArray := prog_7_method_45_code
def yX5_fraction : MethodName := ⟨RX5, "fraction", "(IIZ)I"⟩
abbrev cX5_share : ByteArray := prog_7_method_46_code
def yX5_share : MethodName := ⟨RX5, "share", "(IIZ)I"⟩
abbrev cX5_see : ByteArray := prog_7_method_47_code
def yX5_see : MethodName := ⟨RX5, "see", "(II)I"⟩
abbrev cX5_unsee : ByteArray := prog_7_method_48_code
def yX5_unsee : MethodName := ⟨RX5, "unsee", "()I"⟩
abbrev cX5_isSeen : ByteArray := prog_7_method_49_code
def yX5_isSeen : MethodName := ⟨RX5, "isSeen", "(I)Z"⟩
abbrev cX5_lives : ByteArray := prog_7_method_50_code
def yX5_lives : MethodName := ⟨RX5, "lives", "(I)I"⟩
abbrev cX5_loss : ByteArray := prog_7_method_51_code
def yX5_loss : MethodName := ⟨RX5, "loss", "(III)I"⟩
abbrev cX5_findRests : ByteArray := prog_7_method_52_code
def yX5_findRests : MethodName := ⟨RX5, "findRests", "(II)V"⟩
abbrev cX5_rests : ByteArray := prog_7_method_53_code
def yX5_rests : MethodName := ⟨RX5, "rests", "(III)I"⟩
abbrev cX5_chance : ByteArray := prog_7_method_54_code
def yX5_chance : MethodName := ⟨RX5, "chance", "(IIIZ)I"⟩
abbrev cX5_seed : ByteArray := prog_7_method_55_code
def yX5_seed : MethodName := ⟨RX5, "seed", "(J)J"⟩
abbrev cX5_days : ByteArray := prog_7_method_56_code
def yX5_days : MethodName := ⟨RX5, "days", "(I)I"⟩
abbrev cX5_goSoonest : ByteArray := prog_7_method_57_code
def yX5_goSoonest : MethodName := ⟨RX5, "goSoonest", "()V"⟩
abbrev cX5_keep : ByteArray := prog_7_method_58_code
def yX5_keep : MethodName := ⟨RX5, "keep", "(I)I"⟩
abbrev cX5_again : ByteArray := prog_7_method_59_code
def yX5_again : MethodName := ⟨RX5, "again", "(I)I"⟩
def RJ6 : String := "java/lang/Integer"
def TJ6 : u_T := fun k => match k with
  | _ => ("", "", "", false)
def tyJ6 : Nat → FieldType := fun k => match k with
  | _ => .int
abbrev wsJ60 : List Cond := u_ws RJ6 TJ6 0
theorem nmJ6 : ∀ a, a < 0 → ∀ b, b < 0 → a ≠ b → (TJ6 a).2.1 ≠ (TJ6 b).2.1 := by decide +kernel
theorem tyJ6_ok : ∀ k, k < 0 → parseFieldDescriptor (TJ6 k).2.2.1 = some (tyJ6 k) := by decide +kernel
abbrev cJ6_bitCount_0f7a4 : ByteArray := prog_8_method_49_code
def yJ6_bitCount_0f7a4 : MethodName := ⟨RJ6, "bitCount", "(I)I"⟩
def RJ9 : String := "java/lang/Math"
def TJ9 : u_T := fun k => match k with
  | _ => ("", "", "", false)
def tyJ9 : Nat → FieldType := fun k => match k with
  | _ => .int
abbrev wsJ90 : List Cond := u_ws RJ9 TJ9 0
theorem nmJ9 : ∀ a, a < 0 → ∀ b, b < 0 → a ≠ b → (TJ9 a).2.1 ≠ (TJ9 b).2.1 := by decide +kernel
theorem tyJ9_ok : ∀ k, k < 0 → parseFieldDescriptor (TJ9 k).2.2.1 = some (tyJ9 k) := by decide +kernel
abbrev cJ9_max_7cf53 : ByteArray := prog_9_method_65_code
def yJ9_max_7cf53 : MethodName := ⟨RJ9, "max", "(II)I"⟩
abbrev cJ9_min_7cf53 : ByteArray := prog_9_method_69_code
def yJ9_min_7cf53 : MethodName := ⟨RJ9, "min", "(II)I"⟩
abbrev cJ9_min_f86c9 : ByteArray := prog_9_method_70_code
def yJ9_min_f86c9 : MethodName := ⟨RJ9, "min", "(JJ)J"⟩
def RL : String := "LeggedThroughLaw"
abbrev cL_law : ByteArray := code
def yL_law : MethodName := ⟨RL, "law", "([I)Z"⟩
def wsX0_init : List Cond := .code yX0_init cX0_init 1 none :: ([.methodLink RX0 3 objectInit, .instanceMethod objectInit, .code objectInit ⟨#[0xb1]⟩ 1 none, .arrayClass .int, .fieldLink RX0 11 "LeggedThrough$Acts" "ring" "[I"] ++ wsX00)
def wsX0_forgetAll : List Cond := .code yX0_forgetAll cX0_forgetAll 1 none :: ([.fieldLink RX0 17 "LeggedThrough$Acts" "many" "I"] ++ wsX00)
def wsX2_storeIn : List Cond := .code yX2_storeIn cX2_storeIn 4 none :: ([.fieldLink RX2 9 "LeggedThrough$State" "grounds" "I", .fieldLink RX2 15 "LeggedThrough$State" "tired" "I", .fieldLink RX2 18 "LeggedThrough$State" "through" "I", .fieldLink RX2 21 "LeggedThrough$State" "clock" "I"] ++ wsX20)
def wsX0_remember : List Cond := .code yX0_remember cX0_remember 2 none :: ([.fieldLink RX0 17 "LeggedThrough$Acts" "many" "I", .fieldLink RX0 21 "LeggedThrough$Acts" "first" "I", .fieldLink RX0 11 "LeggedThrough$Acts" "ring" "[I", .methodLink RX0 24 yX2_storeIn, .instanceMethod yX2_storeIn, .selects RX2 yX2_storeIn yX2_storeIn, .initialized RX2, .code yX2_storeIn cX2_storeIn 4 none, .fieldLink RX2 9 "LeggedThrough$State" "grounds" "I", .fieldLink RX2 15 "LeggedThrough$State" "tired" "I", .fieldLink RX2 18 "LeggedThrough$State" "through" "I", .fieldLink RX2 21 "LeggedThrough$State" "clock" "I"] ++ wsX00 ++ wsX20)
def wsX2_fetchFrom : List Cond := .code yX2_fetchFrom cX2_fetchFrom 4 none :: ([.fieldLink RX2 9 "LeggedThrough$State" "grounds" "I", .fieldLink RX2 15 "LeggedThrough$State" "tired" "I", .fieldLink RX2 18 "LeggedThrough$State" "through" "I", .fieldLink RX2 21 "LeggedThrough$State" "clock" "I"] ++ wsX20)
def wsX0_takeBack : List Cond := .code yX0_takeBack cX0_takeBack 2 none :: ([.fieldLink RX0 17 "LeggedThrough$Acts" "many" "I", .fieldLink RX0 11 "LeggedThrough$Acts" "ring" "[I", .fieldLink RX0 21 "LeggedThrough$Acts" "first" "I", .methodLink RX0 28 yX2_fetchFrom, .instanceMethod yX2_fetchFrom, .selects RX2 yX2_fetchFrom yX2_fetchFrom, .initialized RX2, .code yX2_fetchFrom cX2_fetchFrom 4 none, .fieldLink RX2 9 "LeggedThrough$State" "grounds" "I", .fieldLink RX2 15 "LeggedThrough$State" "tired" "I", .fieldLink RX2 18 "LeggedThrough$State" "through" "I", .fieldLink RX2 21 "LeggedThrough$State" "clock" "I"] ++ wsX00 ++ wsX20)
def wsX1_init : List Cond := .code yX1_init cX1_init 1 none :: ([.methodLink RX1 1 objectInit, .instanceMethod objectInit, .code objectInit ⟨#[0xb1]⟩ 1 none, .fieldLink RX1 7 "LeggedThrough$Plan" "steps" "I"] ++ wsX10)
def wsX1_layOut : List Cond := .code yX1_layOut cX1_layOut 2 none :: ([.fieldLink RX1 7 "LeggedThrough$Plan" "steps" "I", .fieldLink RX1 13 "LeggedThrough$Plan" "leggers" "I", .fieldLink RX1 16 "LeggedThrough$Plan" "boats" "I", .fieldLink RX1 19 "LeggedThrough$Plan" "kinds" "I", .fieldLink RX1 22 "LeggedThrough$Plan" "loads" "I"] ++ wsX10)
def wsX1_addLegger : List Cond := .code yX1_addLegger cX1_addLegger 2 none :: ([.fieldLink RX1 19 "LeggedThrough$Plan" "kinds" "I", .fieldLink RX1 13 "LeggedThrough$Plan" "leggers" "I"] ++ wsX10)
def wsX1_addBoat : List Cond := .code yX1_addBoat cX1_addBoat 2 none :: ([.fieldLink RX1 22 "LeggedThrough$Plan" "loads" "I", .fieldLink RX1 16 "LeggedThrough$Plan" "boats" "I"] ++ wsX10)
def wsX1_hasLegger : List Cond := .code yX1_hasLegger cX1_hasLegger 2 (some .boolean) :: ([.fieldLink RX1 13 "LeggedThrough$Plan" "leggers" "I"] ++ wsX10)
def wsX1_hasBoat : List Cond := .code yX1_hasBoat cX1_hasBoat 2 (some .boolean) :: ([.fieldLink RX1 16 "LeggedThrough$Plan" "boats" "I"] ++ wsX10)
def wsX1_allLeggers : List Cond := .code yX1_allLeggers cX1_allLeggers 1 (some .int) :: ([.fieldLink RX1 13 "LeggedThrough$Plan" "leggers" "I"] ++ wsX10)
def wsX1_allBoats : List Cond := .code yX1_allBoats cX1_allBoats 1 (some .int) :: ([.fieldLink RX1 16 "LeggedThrough$Plan" "boats" "I"] ++ wsX10)
def wsX1_kindOf : List Cond := .code yX1_kindOf cX1_kindOf 2 (some .int) :: ([.fieldLink RX1 19 "LeggedThrough$Plan" "kinds" "I"] ++ wsX10)
def wsX1_loadOf : List Cond := .code yX1_loadOf cX1_loadOf 2 (some .int) :: ([.fieldLink RX1 22 "LeggedThrough$Plan" "loads" "I"] ++ wsX10)
def wsX2_init : List Cond := .code yX2_init cX2_init 1 none :: ([.methodLink RX2 3 objectInit, .instanceMethod objectInit, .code objectInit ⟨#[0xb1]⟩ 1 none])
def wsX2_clear : List Cond := .code yX2_clear cX2_clear 1 none :: ([.fieldLink RX2 9 "LeggedThrough$State" "grounds" "I", .fieldLink RX2 15 "LeggedThrough$State" "tired" "I", .fieldLink RX2 18 "LeggedThrough$State" "through" "I", .fieldLink RX2 21 "LeggedThrough$State" "clock" "I"] ++ wsX20)
def wsX4_groundIn : List Cond := .code yX4_groundIn cX4_groundIn 2 (some .int) :: ([])
def wsX2_groundAt : List Cond := .code yX2_groundAt cX2_groundAt 3 (some .int) :: ([.fieldLink RX2 9 "LeggedThrough$State" "grounds" "I", .static yX4_groundIn, .initialized RX4, .code yX4_groundIn cX4_groundIn 2 (some .int)] ++ wsX20)
def wsX2_cover : List Cond := .code yX2_cover cX2_cover 5 none :: ([.fieldLink RX2 9 "LeggedThrough$State" "grounds" "I"] ++ wsX20)
def wsX2_wetPlaces : List Cond := .code yX2_wetPlaces cX2_wetPlaces 4 (some .int) :: ([.methodLink RX2 28 yX2_groundAt, .instanceMethod yX2_groundAt, .selects RX2 yX2_groundAt yX2_groundAt, .initialized RX2, .code yX2_groundAt cX2_groundAt 3 (some .int), .fieldLink RX2 9 "LeggedThrough$State" "grounds" "I", .static yX4_groundIn, .initialized RX4, .code yX4_groundIn cX4_groundIn 2 (some .int)] ++ wsX20)
def wsX3_init : List Cond := .code yX3_init cX3_init 1 none :: ([.methodLink RX3 3 objectInit, .instanceMethod objectInit, .code objectInit ⟨#[0xb1]⟩ 1 none, .arrayClass .int, .fieldLink RX3 9 "LeggedThrough$Text" "letters" "[I"] ++ wsX30)
def wsX3_append : List Cond := .code yX3_append cX3_append 2 (some .boolean) :: ([.fieldLink RX3 15 "LeggedThrough$Text" "length" "I", .fieldLink RX3 9 "LeggedThrough$Text" "letters" "[I"] ++ wsX30)
def wsX3_letterAt : List Cond := .code yX3_letterAt cX3_letterAt 2 (some .int) :: ([.fieldLink RX3 15 "LeggedThrough$Text" "length" "I", .fieldLink RX3 9 "LeggedThrough$Text" "letters" "[I"] ++ wsX30)
def wsX3_figureAt : List Cond := .code yX3_figureAt cX3_figureAt 2 (some .int) :: ([.methodLink RX3 19 yX3_letterAt, .instanceMethod yX3_letterAt, .selects RX3 yX3_letterAt yX3_letterAt, .initialized RX3, .code yX3_letterAt cX3_letterAt 2 (some .int), .fieldLink RX3 15 "LeggedThrough$Text" "length" "I", .fieldLink RX3 9 "LeggedThrough$Text" "letters" "[I"] ++ wsX30)
def wsX3_firstFault : List Cond := .code yX3_firstFault cX3_firstFault 8 (some .int) :: ([.fieldLink RX3 15 "LeggedThrough$Text" "length" "I", .methodLink RX3 19 yX3_letterAt, .instanceMethod yX3_letterAt, .selects RX3 yX3_letterAt yX3_letterAt, .initialized RX3, .code yX3_letterAt cX3_letterAt 2 (some .int), .fieldLink RX3 9 "LeggedThrough$Text" "letters" "[I"] ++ wsX30)
def wsX4_init_r1 : List Cond := [Cond.methodLink RX4 1 objectInit, Cond.instanceMethod objectInit, Cond.code objectInit ⟨#[0xb1]⟩ 1 none, Cond.classLink RX4 7 RX3, Cond.instantiable RX3 2, Cond.initialized RX3, Cond.fieldLink RX4 10 "LeggedThrough" "text" "LLeggedThrough$Text;", Cond.classLink RX4 16 RX1, Cond.instantiable RX1 5, Cond.initialized RX1, Cond.fieldLink RX4 19 "LeggedThrough" "plan" "LLeggedThrough$Plan;", Cond.classLink RX4 23 RX2, Cond.instantiable RX2 4, Cond.initialized RX2, Cond.fieldLink RX4 26 "LeggedThrough" "state" "LLeggedThrough$State;", Cond.classLink RX4 30 RX0, Cond.instantiable RX0 3, Cond.initialized RX0, Cond.fieldLink RX4 33 "LeggedThrough" "acts" "LLeggedThrough$Acts;", Cond.arrayClass .int, Cond.fieldLink RX4 37 "LeggedThrough" "slots" "[I", Cond.fieldLink RX4 41 "LeggedThrough" "aside" "[I", Cond.instanceMethod yX3_init, Cond.code yX3_init cX3_init 1 none]
def wsX4_init_r2 : List Cond := [Cond.methodLink RX3 3 objectInit, Cond.fieldLink RX3 9 "LeggedThrough$Text" "letters" "[I", Cond.instanceMethod yX1_init, Cond.code yX1_init cX1_init 1 none, Cond.methodLink RX1 1 objectInit, Cond.fieldLink RX1 7 "LeggedThrough$Plan" "steps" "I", Cond.instanceMethod yX2_init, Cond.code yX2_init cX2_init 1 none, Cond.methodLink RX2 3 objectInit, Cond.instanceMethod yX0_init, Cond.code yX0_init cX0_init 1 none, Cond.methodLink RX0 3 objectInit, Cond.fieldLink RX0 11 "LeggedThrough$Acts" "ring" "[I"]
def wsX4_init : List Cond := .code yX4_init cX4_init 1 none :: ((wsX4_init_r1 ++ wsX4_init_r2) ++ wsX30 ++ wsX40 ++ wsX10 ++ wsX20 ++ wsX00)
def wsX4_write : List Cond := .code yX4_write cX4_write 2 (some .int) :: ([.fieldLink RX4 10 "LeggedThrough" "text" "LLeggedThrough$Text;", .methodLink RX4 44 yX3_append, .instanceMethod yX3_append, .selects RX3 yX3_append yX3_append, .initialized RX3, .code yX3_append cX3_append 2 (some .boolean), .fieldLink RX3 15 "LeggedThrough$Text" "length" "I", .fieldLink RX3 9 "LeggedThrough$Text" "letters" "[I"] ++ wsX40 ++ wsX30)
def wsX4_wipe : List Cond := .code yX4_wipe cX4_wipe 2 (some .int) :: ([.fieldLink RX4 10 "LeggedThrough" "text" "LLeggedThrough$Text;"] ++ wsX40 ++ wsX30)
def wsX4_fault : List Cond := .code yX4_fault cX4_fault 1 (some .int) :: ([.fieldLink RX4 10 "LeggedThrough" "text" "LLeggedThrough$Text;", .methodLink RX4 52 yX3_firstFault, .instanceMethod yX3_firstFault, .selects RX3 yX3_firstFault yX3_firstFault, .initialized RX3, .code yX3_firstFault cX3_firstFault 8 (some .int), .fieldLink RX3 15 "LeggedThrough$Text" "length" "I", .methodLink RX3 19 yX3_letterAt, .instanceMethod yX3_letterAt, .selects RX3 yX3_letterAt yX3_letterAt, .code yX3_letterAt cX3_letterAt 2 (some .int), .fieldLink RX3 9 "LeggedThrough$Text" "letters" "[I"] ++ wsX40 ++ wsX30)
def wsX4_readTunnel_r1 : List Cond := [Cond.fieldLink RX4 19 "LeggedThrough" "plan" "LLeggedThrough$Plan;", Cond.fieldLink RX4 10 "LeggedThrough" "text" "LLeggedThrough$Text;", Cond.fieldLink RX4 26 "LeggedThrough" "state" "LLeggedThrough$State;", Cond.methodLink RX4 224 yX3_figureAt, Cond.instanceMethod yX3_figureAt, Cond.selects RX3 yX3_figureAt yX3_figureAt, Cond.initialized RX3, Cond.code yX3_figureAt cX3_figureAt 2 (some .int), Cond.methodLink RX3 19 yX3_letterAt, Cond.instanceMethod yX3_letterAt, Cond.selects RX3 yX3_letterAt yX3_letterAt, Cond.code yX3_letterAt cX3_letterAt 2 (some .int), Cond.fieldLink RX3 15 "LeggedThrough$Text" "length" "I", Cond.fieldLink RX3 9 "LeggedThrough$Text" "letters" "[I", Cond.methodLink RX4 227 yX1_layOut, Cond.instanceMethod yX1_layOut, Cond.selects RX1 yX1_layOut yX1_layOut, Cond.initialized RX1, Cond.code yX1_layOut cX1_layOut 2 none, Cond.fieldLink RX1 7 "LeggedThrough$Plan" "steps" "I", Cond.fieldLink RX1 13 "LeggedThrough$Plan" "leggers" "I", Cond.fieldLink RX1 16 "LeggedThrough$Plan" "boats" "I", Cond.fieldLink RX1 19 "LeggedThrough$Plan" "kinds" "I", Cond.fieldLink RX1 22 "LeggedThrough$Plan" "loads" "I"]
def wsX4_readTunnel_r2 : List Cond := [Cond.methodLink RX4 231 yX2_clear, Cond.instanceMethod yX2_clear, Cond.selects RX2 yX2_clear yX2_clear, Cond.initialized RX2, Cond.code yX2_clear cX2_clear 1 none, Cond.fieldLink RX2 9 "LeggedThrough$State" "grounds" "I", Cond.fieldLink RX2 15 "LeggedThrough$State" "tired" "I", Cond.fieldLink RX2 18 "LeggedThrough$State" "through" "I", Cond.fieldLink RX2 21 "LeggedThrough$State" "clock" "I", Cond.methodLink RX4 234 yX3_letterAt, Cond.methodLink RX4 134 yX2_cover, Cond.instanceMethod yX2_cover, Cond.selects RX2 yX2_cover yX2_cover, Cond.code yX2_cover cX2_cover 5 none, Cond.methodLink RX4 237 yX1_addLegger, Cond.instanceMethod yX1_addLegger, Cond.selects RX1 yX1_addLegger yX1_addLegger, Cond.code yX1_addLegger cX1_addLegger 2 none, Cond.methodLink RX4 240 yX1_addBoat, Cond.instanceMethod yX1_addBoat, Cond.selects RX1 yX1_addBoat yX1_addBoat, Cond.code yX1_addBoat cX1_addBoat 2 none]
def wsX4_readTunnel : List Cond := .code yX4_readTunnel cX4_readTunnel 3 none :: ((wsX4_readTunnel_r1 ++ wsX4_readTunnel_r2) ++ wsX40 ++ wsX30 ++ wsX10 ++ wsX20)
def wsX4_tunnel_r1 : List Cond := [Cond.fieldLink RX4 10 "LeggedThrough" "text" "LLeggedThrough$Text;", Cond.fieldLink RX4 33 "LeggedThrough" "acts" "LLeggedThrough$Acts;", Cond.fieldLink RX4 62 "LeggedThrough" "slotsKept" "I", Cond.fieldLink RX4 19 "LeggedThrough" "plan" "LLeggedThrough$Plan;", Cond.methodLink RX4 52 yX3_firstFault, Cond.instanceMethod yX3_firstFault, Cond.selects RX3 yX3_firstFault yX3_firstFault, Cond.initialized RX3, Cond.code yX3_firstFault cX3_firstFault 8 (some .int), Cond.fieldLink RX3 15 "LeggedThrough$Text" "length" "I", Cond.methodLink RX3 19 yX3_letterAt, Cond.instanceMethod yX3_letterAt, Cond.selects RX3 yX3_letterAt yX3_letterAt, Cond.code yX3_letterAt cX3_letterAt 2 (some .int), Cond.fieldLink RX3 9 "LeggedThrough$Text" "letters" "[I", Cond.methodLink RX4 56 yX4_readTunnel, Cond.instanceMethod yX4_readTunnel, Cond.selects RX4 yX4_readTunnel yX4_readTunnel, Cond.initialized RX4, Cond.code yX4_readTunnel cX4_readTunnel 3 none, Cond.fieldLink RX4 26 "LeggedThrough" "state" "LLeggedThrough$State;", Cond.methodLink RX4 224 yX3_figureAt, Cond.instanceMethod yX3_figureAt, Cond.selects RX3 yX3_figureAt yX3_figureAt]
def wsX4_tunnel_r2 : List Cond := [Cond.code yX3_figureAt cX3_figureAt 2 (some .int), Cond.methodLink RX4 227 yX1_layOut, Cond.instanceMethod yX1_layOut, Cond.selects RX1 yX1_layOut yX1_layOut, Cond.initialized RX1, Cond.code yX1_layOut cX1_layOut 2 none, Cond.fieldLink RX1 7 "LeggedThrough$Plan" "steps" "I", Cond.fieldLink RX1 13 "LeggedThrough$Plan" "leggers" "I", Cond.fieldLink RX1 16 "LeggedThrough$Plan" "boats" "I", Cond.fieldLink RX1 19 "LeggedThrough$Plan" "kinds" "I", Cond.fieldLink RX1 22 "LeggedThrough$Plan" "loads" "I", Cond.methodLink RX4 231 yX2_clear, Cond.instanceMethod yX2_clear, Cond.selects RX2 yX2_clear yX2_clear, Cond.initialized RX2, Cond.code yX2_clear cX2_clear 1 none, Cond.fieldLink RX2 9 "LeggedThrough$State" "grounds" "I", Cond.fieldLink RX2 15 "LeggedThrough$State" "tired" "I", Cond.fieldLink RX2 18 "LeggedThrough$State" "through" "I", Cond.fieldLink RX2 21 "LeggedThrough$State" "clock" "I", Cond.methodLink RX4 234 yX3_letterAt, Cond.methodLink RX4 134 yX2_cover, Cond.instanceMethod yX2_cover, Cond.selects RX2 yX2_cover yX2_cover]
def wsX4_tunnel_r3 : List Cond := [Cond.code yX2_cover cX2_cover 5 none, Cond.methodLink RX4 237 yX1_addLegger, Cond.instanceMethod yX1_addLegger, Cond.selects RX1 yX1_addLegger yX1_addLegger, Cond.code yX1_addLegger cX1_addLegger 2 none, Cond.methodLink RX4 240 yX1_addBoat, Cond.instanceMethod yX1_addBoat, Cond.selects RX1 yX1_addBoat yX1_addBoat, Cond.code yX1_addBoat cX1_addBoat 2 none, Cond.methodLink RX4 59 yX0_forgetAll, Cond.instanceMethod yX0_forgetAll, Cond.selects RX0 yX0_forgetAll yX0_forgetAll, Cond.initialized RX0, Cond.code yX0_forgetAll cX0_forgetAll 1 none, Cond.fieldLink RX0 17 "LeggedThrough$Acts" "many" "I"]
def wsX4_tunnel : List Cond := .code yX4_tunnel cX4_tunnel 1 (some .int) :: ((wsX4_tunnel_r1 ++ (wsX4_tunnel_r2 ++ wsX4_tunnel_r3)) ++ wsX40 ++ wsX10 ++ wsX30 ++ wsX20 ++ wsX00)
def wsX4_about : List Cond := .code yX4_about cX4_about 2 (some .int) :: ([.fieldLink RX4 19 "LeggedThrough" "plan" "LLeggedThrough$Plan;", .fieldLink RX4 26 "LeggedThrough" "state" "LLeggedThrough$State;", .fieldLink RX4 33 "LeggedThrough" "acts" "LLeggedThrough$Acts;", .fieldLink RX4 83 "LeggedThrough" "seenMany" "I", .fieldLink RX4 10 "LeggedThrough" "text" "LLeggedThrough$Text;"] ++ wsX40 ++ wsX10 ++ wsX20 ++ wsX00 ++ wsX30)
def wsX4_isPlace : List Cond := .code yX4_isPlace cX4_isPlace 1 (some .boolean) :: ([])
def wsX4_timesTired : List Cond := .code yX4_timesTired cX4_timesTired 2 (some .int) :: ([])
def wsX4_legger_r1 : List Cond := [Cond.fieldLink RX4 19 "LeggedThrough" "plan" "LLeggedThrough$Plan;", Cond.fieldLink RX4 26 "LeggedThrough" "state" "LLeggedThrough$State;", Cond.methodLink RX4 86 yX1_hasLegger, Cond.instanceMethod yX1_hasLegger, Cond.selects RX1 yX1_hasLegger yX1_hasLegger, Cond.initialized RX1, Cond.code yX1_hasLegger cX1_hasLegger 2 (some .boolean), Cond.fieldLink RX1 13 "LeggedThrough$Plan" "leggers" "I", Cond.methodLink RX4 89 yX4_isPlace, Cond.static yX4_isPlace, Cond.initialized RX4, Cond.code yX4_isPlace cX4_isPlace 1 (some .boolean), Cond.methodLink RX4 92 yX2_groundAt, Cond.instanceMethod yX2_groundAt, Cond.selects RX2 yX2_groundAt yX2_groundAt, Cond.initialized RX2, Cond.code yX2_groundAt cX2_groundAt 3 (some .int), Cond.fieldLink RX2 9 "LeggedThrough$State" "grounds" "I", Cond.static yX4_groundIn, Cond.code yX4_groundIn cX4_groundIn 2 (some .int), Cond.methodLink RX4 96 yX1_kindOf, Cond.instanceMethod yX1_kindOf, Cond.selects RX1 yX1_kindOf yX1_kindOf, Cond.code yX1_kindOf cX1_kindOf 2 (some .int)]
def wsX4_legger_r2 : List Cond := [Cond.fieldLink RX1 19 "LeggedThrough$Plan" "kinds" "I", Cond.methodLink RX4 103 yX4_timesTired, Cond.static yX4_timesTired, Cond.code yX4_timesTired cX4_timesTired 2 (some .int)]
def wsX4_legger : List Cond := .code yX4_legger cX4_legger 3 (some .int) :: ((wsX4_legger_r1 ++ wsX4_legger_r2) ++ wsX40 ++ wsX20 ++ wsX10)
def wsX4_load : List Cond := .code yX4_load cX4_load 2 (some .int) :: ([.fieldLink RX4 19 "LeggedThrough" "plan" "LLeggedThrough$Plan;", .methodLink RX4 106 yX1_hasBoat, .instanceMethod yX1_hasBoat, .selects RX1 yX1_hasBoat yX1_hasBoat, .initialized RX1, .code yX1_hasBoat cX1_hasBoat 2 (some .boolean), .fieldLink RX1 16 "LeggedThrough$Plan" "boats" "I", .methodLink RX4 109 yX1_loadOf, .instanceMethod yX1_loadOf, .selects RX1 yX1_loadOf yX1_loadOf, .code yX1_loadOf cX1_loadOf 2 (some .int), .fieldLink RX1 22 "LeggedThrough$Plan" "loads" "I"] ++ wsX40 ++ wsX10)
def wsX4_pairRefusal : List Cond := .code yX4_pairRefusal cX4_pairRefusal 4 (some .int) :: ([.fieldLink RX4 19 "LeggedThrough" "plan" "LLeggedThrough$Plan;", .methodLink RX4 106 yX1_hasBoat, .instanceMethod yX1_hasBoat, .selects RX1 yX1_hasBoat yX1_hasBoat, .initialized RX1, .code yX1_hasBoat cX1_hasBoat 2 (some .boolean), .fieldLink RX1 16 "LeggedThrough$Plan" "boats" "I", .methodLink RX4 86 yX1_hasLegger, .instanceMethod yX1_hasLegger, .selects RX1 yX1_hasLegger yX1_hasLegger, .code yX1_hasLegger cX1_hasLegger 2 (some .boolean), .fieldLink RX1 13 "LeggedThrough$Plan" "leggers" "I"] ++ wsX40 ++ wsX10)
def wsX4_isIn : List Cond := .code yX4_isIn cX4_isIn 2 (some .boolean) :: ([])
def wsX4_minutesOver : List Cond := .code yX4_minutesOver cX4_minutesOver 1 (some .int) :: ([])
def wsX4_stepMinutes : List Cond := .code yX4_stepMinutes cX4_stepMinutes 6 (some .int) :: ([.fieldLink RX4 19 "LeggedThrough" "plan" "LLeggedThrough$Plan;", .methodLink RX4 246 Lib.Math.max.name, .static Lib.Math.max.name, .initialized "java/lang/Math", .code Lib.Math.max.name Lib.Math.max.code 2 (some .int), .methodLink RX4 243 yX4_minutesOver, .static yX4_minutesOver, .initialized RX4, .code yX4_minutesOver cX4_minutesOver 1 (some .int), .methodLink RX4 96 yX1_kindOf, .instanceMethod yX1_kindOf, .selects RX1 yX1_kindOf yX1_kindOf, .initialized RX1, .code yX1_kindOf cX1_kindOf 2 (some .int), .fieldLink RX1 19 "LeggedThrough$Plan" "kinds" "I", .methodLink RX4 103 yX4_timesTired, .static yX4_timesTired, .code yX4_timesTired cX4_timesTired 2 (some .int)] ++ wsX40 ++ wsX10)
def wsX4_placeBehind : List Cond := .code yX4_placeBehind cX4_placeBehind 2 (some .int) :: ([])
def wsX4_pairMinutes_r1 : List Cond := [Cond.fieldLink RX4 19 "LeggedThrough" "plan" "LLeggedThrough$Plan;", Cond.fieldLink RX4 26 "LeggedThrough" "state" "LLeggedThrough$State;", Cond.methodLink RX4 246 Lib.Math.max.name, Cond.static Lib.Math.max.name, Cond.initialized "java/lang/Math", Cond.code Lib.Math.max.name Lib.Math.max.code 2 (some .int), Cond.methodLink RX4 92 yX2_groundAt, Cond.instanceMethod yX2_groundAt, Cond.selects RX2 yX2_groundAt yX2_groundAt, Cond.initialized RX2, Cond.code yX2_groundAt cX2_groundAt 3 (some .int), Cond.fieldLink RX2 9 "LeggedThrough$State" "grounds" "I", Cond.static yX4_groundIn, Cond.initialized RX4, Cond.code yX4_groundIn cX4_groundIn 2 (some .int), Cond.methodLink RX4 251 yX4_stepMinutes, Cond.instanceMethod yX4_stepMinutes, Cond.selects RX4 yX4_stepMinutes yX4_stepMinutes, Cond.code yX4_stepMinutes cX4_stepMinutes 6 (some .int), Cond.methodLink RX4 243 yX4_minutesOver, Cond.static yX4_minutesOver, Cond.code yX4_minutesOver cX4_minutesOver 1 (some .int), Cond.methodLink RX4 96 yX1_kindOf, Cond.instanceMethod yX1_kindOf]
def wsX4_pairMinutes_r2 : List Cond := [Cond.selects RX1 yX1_kindOf yX1_kindOf, Cond.initialized RX1, Cond.code yX1_kindOf cX1_kindOf 2 (some .int), Cond.fieldLink RX1 19 "LeggedThrough$Plan" "kinds" "I", Cond.methodLink RX4 103 yX4_timesTired, Cond.static yX4_timesTired, Cond.code yX4_timesTired cX4_timesTired 2 (some .int), Cond.methodLink RX4 255 yX4_placeBehind, Cond.static yX4_placeBehind, Cond.code yX4_placeBehind cX4_placeBehind 2 (some .int)]
def wsX4_pairMinutes : List Cond := .code yX4_pairMinutes cX4_pairMinutes 12 (some .int) :: ((wsX4_pairMinutes_r1 ++ wsX4_pairMinutes_r2) ++ wsX40 ++ wsX10 ++ wsX20)
def wsX4_tireOne : List Cond := .code yX4_tireOne cX4_tireOne 2 (some .int) :: ([.methodLink RX4 103 yX4_timesTired, .static yX4_timesTired, .initialized RX4, .code yX4_timesTired cX4_timesTired 2 (some .int)])
def wsX4_tireBoth : List Cond := .code yX4_tireBoth cX4_tireBoth 3 (some .int) :: ([.methodLink RX4 221 yX4_tireOne, .static yX4_tireOne, .initialized RX4, .code yX4_tireOne cX4_tireOne 2 (some .int), .methodLink RX4 103 yX4_timesTired, .static yX4_timesTired, .code yX4_timesTired cX4_timesTired 2 (some .int)])
def wsX4_leg_r1 : List Cond := [Cond.fieldLink RX4 26 "LeggedThrough" "state" "LLeggedThrough$State;", Cond.fieldLink RX4 33 "LeggedThrough" "acts" "LLeggedThrough$Acts;", Cond.fieldLink RX4 19 "LeggedThrough" "plan" "LLeggedThrough$Plan;", Cond.methodLink RX4 112 yX4_pairRefusal, Cond.instanceMethod yX4_pairRefusal, Cond.selects RX4 yX4_pairRefusal yX4_pairRefusal, Cond.initialized RX4, Cond.code yX4_pairRefusal cX4_pairRefusal 4 (some .int), Cond.methodLink RX4 106 yX1_hasBoat, Cond.instanceMethod yX1_hasBoat, Cond.selects RX1 yX1_hasBoat yX1_hasBoat, Cond.initialized RX1, Cond.code yX1_hasBoat cX1_hasBoat 2 (some .boolean), Cond.fieldLink RX1 16 "LeggedThrough$Plan" "boats" "I", Cond.methodLink RX4 86 yX1_hasLegger, Cond.instanceMethod yX1_hasLegger, Cond.selects RX1 yX1_hasLegger yX1_hasLegger, Cond.code yX1_hasLegger cX1_hasLegger 2 (some .boolean), Cond.fieldLink RX1 13 "LeggedThrough$Plan" "leggers" "I", Cond.methodLink RX4 116 yX4_isIn, Cond.static yX4_isIn, Cond.code yX4_isIn cX4_isIn 2 (some .boolean), Cond.methodLink RX4 120 yX0_remember, Cond.instanceMethod yX0_remember]
def wsX4_leg_r2 : List Cond := [Cond.selects RX0 yX0_remember yX0_remember, Cond.initialized RX0, Cond.code yX0_remember cX0_remember 2 none, Cond.fieldLink RX0 17 "LeggedThrough$Acts" "many" "I", Cond.fieldLink RX0 21 "LeggedThrough$Acts" "first" "I", Cond.fieldLink RX0 11 "LeggedThrough$Acts" "ring" "[I", Cond.methodLink RX0 24 yX2_storeIn, Cond.instanceMethod yX2_storeIn, Cond.selects RX2 yX2_storeIn yX2_storeIn, Cond.initialized RX2, Cond.code yX2_storeIn cX2_storeIn 4 none, Cond.fieldLink RX2 9 "LeggedThrough$State" "grounds" "I", Cond.fieldLink RX2 15 "LeggedThrough$State" "tired" "I", Cond.fieldLink RX2 18 "LeggedThrough$State" "through" "I", Cond.fieldLink RX2 21 "LeggedThrough$State" "clock" "I", Cond.methodLink RX4 124 yX4_pairMinutes, Cond.instanceMethod yX4_pairMinutes, Cond.selects RX4 yX4_pairMinutes yX4_pairMinutes, Cond.code yX4_pairMinutes cX4_pairMinutes 12 (some .int), Cond.methodLink RX4 246 Lib.Math.max.name, Cond.static Lib.Math.max.name, Cond.initialized "java/lang/Math", Cond.code Lib.Math.max.name Lib.Math.max.code 2 (some .int), Cond.methodLink RX4 92 yX2_groundAt]
def wsX4_leg_r3 : List Cond := [Cond.instanceMethod yX2_groundAt, Cond.selects RX2 yX2_groundAt yX2_groundAt, Cond.code yX2_groundAt cX2_groundAt 3 (some .int), Cond.static yX4_groundIn, Cond.code yX4_groundIn cX4_groundIn 2 (some .int), Cond.methodLink RX4 251 yX4_stepMinutes, Cond.instanceMethod yX4_stepMinutes, Cond.selects RX4 yX4_stepMinutes yX4_stepMinutes, Cond.code yX4_stepMinutes cX4_stepMinutes 6 (some .int), Cond.methodLink RX4 243 yX4_minutesOver, Cond.static yX4_minutesOver, Cond.code yX4_minutesOver cX4_minutesOver 1 (some .int), Cond.methodLink RX4 96 yX1_kindOf, Cond.instanceMethod yX1_kindOf, Cond.selects RX1 yX1_kindOf yX1_kindOf, Cond.code yX1_kindOf cX1_kindOf 2 (some .int), Cond.fieldLink RX1 19 "LeggedThrough$Plan" "kinds" "I", Cond.methodLink RX4 103 yX4_timesTired, Cond.static yX4_timesTired, Cond.code yX4_timesTired cX4_timesTired 2 (some .int), Cond.methodLink RX4 255 yX4_placeBehind, Cond.static yX4_placeBehind, Cond.code yX4_placeBehind cX4_placeBehind 2 (some .int), Cond.methodLink RX4 109 yX1_loadOf]
def wsX4_leg_r4 : List Cond := [Cond.instanceMethod yX1_loadOf, Cond.selects RX1 yX1_loadOf yX1_loadOf, Cond.code yX1_loadOf cX1_loadOf 2 (some .int), Cond.fieldLink RX1 22 "LeggedThrough$Plan" "loads" "I", Cond.methodLink RX4 128 yX4_tireBoth, Cond.static yX4_tireBoth, Cond.code yX4_tireBoth cX4_tireBoth 3 (some .int), Cond.methodLink RX4 221 yX4_tireOne, Cond.static yX4_tireOne, Cond.code yX4_tireOne cX4_tireOne 2 (some .int)]
def wsX4_leg : List Cond := .code yX4_leg cX4_leg 5 (some .int) :: ((wsX4_leg_r1 ++ (wsX4_leg_r2 ++ (wsX4_leg_r3 ++ wsX4_leg_r4))) ++ wsX40 ++ wsX20 ++ wsX10 ++ wsX00)
def wsX4_rest_r1 : List Cond := [Cond.fieldLink RX4 19 "LeggedThrough" "plan" "LLeggedThrough$Plan;", Cond.fieldLink RX4 26 "LeggedThrough" "state" "LLeggedThrough$State;", Cond.fieldLink RX4 33 "LeggedThrough" "acts" "LLeggedThrough$Acts;", Cond.methodLink RX4 86 yX1_hasLegger, Cond.instanceMethod yX1_hasLegger, Cond.selects RX1 yX1_hasLegger yX1_hasLegger, Cond.initialized RX1, Cond.code yX1_hasLegger cX1_hasLegger 2 (some .boolean), Cond.fieldLink RX1 13 "LeggedThrough$Plan" "leggers" "I", Cond.methodLink RX4 103 yX4_timesTired, Cond.static yX4_timesTired, Cond.initialized RX4, Cond.code yX4_timesTired cX4_timesTired 2 (some .int), Cond.methodLink RX4 120 yX0_remember, Cond.instanceMethod yX0_remember, Cond.selects RX0 yX0_remember yX0_remember, Cond.initialized RX0, Cond.code yX0_remember cX0_remember 2 none, Cond.fieldLink RX0 17 "LeggedThrough$Acts" "many" "I", Cond.fieldLink RX0 21 "LeggedThrough$Acts" "first" "I", Cond.fieldLink RX0 11 "LeggedThrough$Acts" "ring" "[I", Cond.methodLink RX0 24 yX2_storeIn, Cond.instanceMethod yX2_storeIn, Cond.selects RX2 yX2_storeIn yX2_storeIn]
def wsX4_rest_r2 : List Cond := [Cond.initialized RX2, Cond.code yX2_storeIn cX2_storeIn 4 none, Cond.fieldLink RX2 9 "LeggedThrough$State" "grounds" "I", Cond.fieldLink RX2 15 "LeggedThrough$State" "tired" "I", Cond.fieldLink RX2 18 "LeggedThrough$State" "through" "I", Cond.fieldLink RX2 21 "LeggedThrough$State" "clock" "I"]
def wsX4_rest : List Cond := .code yX4_rest cX4_rest 2 (some .int) :: ((wsX4_rest_r1 ++ wsX4_rest_r2) ++ wsX40 ++ wsX20 ++ wsX10 ++ wsX00)
def wsX4_placeRefusal : List Cond := .code yX4_placeRefusal cX4_placeRefusal 3 (some .int) :: ([.fieldLink RX4 19 "LeggedThrough" "plan" "LLeggedThrough$Plan;", .methodLink RX4 86 yX1_hasLegger, .instanceMethod yX1_hasLegger, .selects RX1 yX1_hasLegger yX1_hasLegger, .initialized RX1, .code yX1_hasLegger cX1_hasLegger 2 (some .boolean), .fieldLink RX1 13 "LeggedThrough$Plan" "leggers" "I", .methodLink RX4 89 yX4_isPlace, .static yX4_isPlace, .initialized RX4, .code yX4_isPlace cX4_isPlace 1 (some .boolean)] ++ wsX40 ++ wsX10)
def wsX4_wet_r1 : List Cond := [Cond.fieldLink RX4 26 "LeggedThrough" "state" "LLeggedThrough$State;", Cond.fieldLink RX4 33 "LeggedThrough" "acts" "LLeggedThrough$Acts;", Cond.methodLink RX4 131 yX4_placeRefusal, Cond.instanceMethod yX4_placeRefusal, Cond.selects RX4 yX4_placeRefusal yX4_placeRefusal, Cond.initialized RX4, Cond.code yX4_placeRefusal cX4_placeRefusal 3 (some .int), Cond.fieldLink RX4 19 "LeggedThrough" "plan" "LLeggedThrough$Plan;", Cond.methodLink RX4 86 yX1_hasLegger, Cond.instanceMethod yX1_hasLegger, Cond.selects RX1 yX1_hasLegger yX1_hasLegger, Cond.initialized RX1, Cond.code yX1_hasLegger cX1_hasLegger 2 (some .boolean), Cond.fieldLink RX1 13 "LeggedThrough$Plan" "leggers" "I", Cond.methodLink RX4 89 yX4_isPlace, Cond.static yX4_isPlace, Cond.code yX4_isPlace cX4_isPlace 1 (some .boolean), Cond.methodLink RX4 92 yX2_groundAt, Cond.instanceMethod yX2_groundAt, Cond.selects RX2 yX2_groundAt yX2_groundAt, Cond.initialized RX2, Cond.code yX2_groundAt cX2_groundAt 3 (some .int), Cond.fieldLink RX2 9 "LeggedThrough$State" "grounds" "I", Cond.static yX4_groundIn]
def wsX4_wet_r2 : List Cond := [Cond.code yX4_groundIn cX4_groundIn 2 (some .int), Cond.methodLink RX4 120 yX0_remember, Cond.instanceMethod yX0_remember, Cond.selects RX0 yX0_remember yX0_remember, Cond.initialized RX0, Cond.code yX0_remember cX0_remember 2 none, Cond.fieldLink RX0 17 "LeggedThrough$Acts" "many" "I", Cond.fieldLink RX0 21 "LeggedThrough$Acts" "first" "I", Cond.fieldLink RX0 11 "LeggedThrough$Acts" "ring" "[I", Cond.methodLink RX0 24 yX2_storeIn, Cond.instanceMethod yX2_storeIn, Cond.selects RX2 yX2_storeIn yX2_storeIn, Cond.code yX2_storeIn cX2_storeIn 4 none, Cond.fieldLink RX2 15 "LeggedThrough$State" "tired" "I", Cond.fieldLink RX2 18 "LeggedThrough$State" "through" "I", Cond.fieldLink RX2 21 "LeggedThrough$State" "clock" "I", Cond.methodLink RX4 134 yX2_cover, Cond.instanceMethod yX2_cover, Cond.selects RX2 yX2_cover yX2_cover, Cond.code yX2_cover cX2_cover 5 none]
def wsX4_wet : List Cond := .code yX4_wet cX4_wet 5 (some .int) :: ((wsX4_wet_r1 ++ wsX4_wet_r2) ++ wsX40 ++ wsX10 ++ wsX20 ++ wsX00)
def wsX4_dry_r1 : List Cond := [Cond.fieldLink RX4 26 "LeggedThrough" "state" "LLeggedThrough$State;", Cond.fieldLink RX4 33 "LeggedThrough" "acts" "LLeggedThrough$Acts;", Cond.methodLink RX4 131 yX4_placeRefusal, Cond.instanceMethod yX4_placeRefusal, Cond.selects RX4 yX4_placeRefusal yX4_placeRefusal, Cond.initialized RX4, Cond.code yX4_placeRefusal cX4_placeRefusal 3 (some .int), Cond.fieldLink RX4 19 "LeggedThrough" "plan" "LLeggedThrough$Plan;", Cond.methodLink RX4 86 yX1_hasLegger, Cond.instanceMethod yX1_hasLegger, Cond.selects RX1 yX1_hasLegger yX1_hasLegger, Cond.initialized RX1, Cond.code yX1_hasLegger cX1_hasLegger 2 (some .boolean), Cond.fieldLink RX1 13 "LeggedThrough$Plan" "leggers" "I", Cond.methodLink RX4 89 yX4_isPlace, Cond.static yX4_isPlace, Cond.code yX4_isPlace cX4_isPlace 1 (some .boolean), Cond.methodLink RX4 92 yX2_groundAt, Cond.instanceMethod yX2_groundAt, Cond.selects RX2 yX2_groundAt yX2_groundAt, Cond.initialized RX2, Cond.code yX2_groundAt cX2_groundAt 3 (some .int), Cond.fieldLink RX2 9 "LeggedThrough$State" "grounds" "I", Cond.static yX4_groundIn]
def wsX4_dry_r2 : List Cond := [Cond.code yX4_groundIn cX4_groundIn 2 (some .int), Cond.methodLink RX4 120 yX0_remember, Cond.instanceMethod yX0_remember, Cond.selects RX0 yX0_remember yX0_remember, Cond.initialized RX0, Cond.code yX0_remember cX0_remember 2 none, Cond.fieldLink RX0 17 "LeggedThrough$Acts" "many" "I", Cond.fieldLink RX0 21 "LeggedThrough$Acts" "first" "I", Cond.fieldLink RX0 11 "LeggedThrough$Acts" "ring" "[I", Cond.methodLink RX0 24 yX2_storeIn, Cond.instanceMethod yX2_storeIn, Cond.selects RX2 yX2_storeIn yX2_storeIn, Cond.code yX2_storeIn cX2_storeIn 4 none, Cond.fieldLink RX2 15 "LeggedThrough$State" "tired" "I", Cond.fieldLink RX2 18 "LeggedThrough$State" "through" "I", Cond.fieldLink RX2 21 "LeggedThrough$State" "clock" "I", Cond.methodLink RX4 134 yX2_cover, Cond.instanceMethod yX2_cover, Cond.selects RX2 yX2_cover yX2_cover, Cond.code yX2_cover cX2_cover 5 none, Cond.methodLink RX4 138 yX2_wetPlaces, Cond.instanceMethod yX2_wetPlaces, Cond.selects RX2 yX2_wetPlaces yX2_wetPlaces, Cond.code yX2_wetPlaces cX2_wetPlaces 4 (some .int)]
def wsX4_dry_r3 : List Cond := [Cond.methodLink RX2 28 yX2_groundAt]
def wsX4_dry : List Cond := .code yX4_dry cX4_dry 4 (some .int) :: ((wsX4_dry_r1 ++ (wsX4_dry_r2 ++ wsX4_dry_r3)) ++ wsX40 ++ wsX10 ++ wsX20 ++ wsX00)
def wsX4_undo : List Cond := .code yX4_undo cX4_undo 1 (some .int) :: ([.fieldLink RX4 33 "LeggedThrough" "acts" "LLeggedThrough$Acts;", .fieldLink RX4 26 "LeggedThrough" "state" "LLeggedThrough$State;", .methodLink RX4 141 yX0_takeBack, .instanceMethod yX0_takeBack, .selects RX0 yX0_takeBack yX0_takeBack, .initialized RX0, .code yX0_takeBack cX0_takeBack 2 none, .fieldLink RX0 17 "LeggedThrough$Acts" "many" "I", .fieldLink RX0 11 "LeggedThrough$Acts" "ring" "[I", .fieldLink RX0 21 "LeggedThrough$Acts" "first" "I", .methodLink RX0 28 yX2_fetchFrom, .instanceMethod yX2_fetchFrom, .selects RX2 yX2_fetchFrom yX2_fetchFrom, .initialized RX2, .code yX2_fetchFrom cX2_fetchFrom 4 none, .fieldLink RX2 9 "LeggedThrough$State" "grounds" "I", .fieldLink RX2 15 "LeggedThrough$State" "tired" "I", .fieldLink RX2 18 "LeggedThrough$State" "through" "I", .fieldLink RX2 21 "LeggedThrough$State" "clock" "I"] ++ wsX40 ++ wsX00 ++ wsX20)
def wsX4_aloneMinutes_r1 : List Cond := [Cond.fieldLink RX4 19 "LeggedThrough" "plan" "LLeggedThrough$Plan;", Cond.fieldLink RX4 26 "LeggedThrough" "state" "LLeggedThrough$State;", Cond.methodLink RX4 92 yX2_groundAt, Cond.instanceMethod yX2_groundAt, Cond.selects RX2 yX2_groundAt yX2_groundAt, Cond.initialized RX2, Cond.code yX2_groundAt cX2_groundAt 3 (some .int), Cond.fieldLink RX2 9 "LeggedThrough$State" "grounds" "I", Cond.static yX4_groundIn, Cond.initialized RX4, Cond.code yX4_groundIn cX4_groundIn 2 (some .int), Cond.methodLink RX4 251 yX4_stepMinutes, Cond.instanceMethod yX4_stepMinutes, Cond.selects RX4 yX4_stepMinutes yX4_stepMinutes, Cond.code yX4_stepMinutes cX4_stepMinutes 6 (some .int), Cond.methodLink RX4 246 Lib.Math.max.name, Cond.static Lib.Math.max.name, Cond.initialized "java/lang/Math", Cond.code Lib.Math.max.name Lib.Math.max.code 2 (some .int), Cond.methodLink RX4 243 yX4_minutesOver, Cond.static yX4_minutesOver, Cond.code yX4_minutesOver cX4_minutesOver 1 (some .int), Cond.methodLink RX4 96 yX1_kindOf, Cond.instanceMethod yX1_kindOf]
def wsX4_aloneMinutes_r2 : List Cond := [Cond.selects RX1 yX1_kindOf yX1_kindOf, Cond.initialized RX1, Cond.code yX1_kindOf cX1_kindOf 2 (some .int), Cond.fieldLink RX1 19 "LeggedThrough$Plan" "kinds" "I", Cond.methodLink RX4 103 yX4_timesTired, Cond.static yX4_timesTired, Cond.code yX4_timesTired cX4_timesTired 2 (some .int), Cond.methodLink RX4 255 yX4_placeBehind, Cond.static yX4_placeBehind, Cond.code yX4_placeBehind cX4_placeBehind 2 (some .int)]
def wsX4_aloneMinutes : List Cond := .code yX4_aloneMinutes cX4_aloneMinutes 7 (some .int) :: ((wsX4_aloneMinutes_r1 ++ wsX4_aloneMinutes_r2) ++ wsX40 ++ wsX10 ++ wsX20)
def wsX4_alone_r1 : List Cond := [Cond.methodLink RX4 131 yX4_placeRefusal, Cond.instanceMethod yX4_placeRefusal, Cond.selects RX4 yX4_placeRefusal yX4_placeRefusal, Cond.initialized RX4, Cond.code yX4_placeRefusal cX4_placeRefusal 3 (some .int), Cond.fieldLink RX4 19 "LeggedThrough" "plan" "LLeggedThrough$Plan;", Cond.methodLink RX4 86 yX1_hasLegger, Cond.instanceMethod yX1_hasLegger, Cond.selects RX1 yX1_hasLegger yX1_hasLegger, Cond.initialized RX1, Cond.code yX1_hasLegger cX1_hasLegger 2 (some .boolean), Cond.fieldLink RX1 13 "LeggedThrough$Plan" "leggers" "I", Cond.methodLink RX4 89 yX4_isPlace, Cond.static yX4_isPlace, Cond.code yX4_isPlace cX4_isPlace 1 (some .boolean), Cond.methodLink RX4 144 yX4_aloneMinutes, Cond.instanceMethod yX4_aloneMinutes, Cond.selects RX4 yX4_aloneMinutes yX4_aloneMinutes, Cond.code yX4_aloneMinutes cX4_aloneMinutes 7 (some .int), Cond.fieldLink RX4 26 "LeggedThrough" "state" "LLeggedThrough$State;", Cond.methodLink RX4 92 yX2_groundAt, Cond.instanceMethod yX2_groundAt, Cond.selects RX2 yX2_groundAt yX2_groundAt, Cond.initialized RX2]
def wsX4_alone_r2 : List Cond := [Cond.code yX2_groundAt cX2_groundAt 3 (some .int), Cond.fieldLink RX2 9 "LeggedThrough$State" "grounds" "I", Cond.static yX4_groundIn, Cond.code yX4_groundIn cX4_groundIn 2 (some .int), Cond.methodLink RX4 251 yX4_stepMinutes, Cond.instanceMethod yX4_stepMinutes, Cond.selects RX4 yX4_stepMinutes yX4_stepMinutes, Cond.code yX4_stepMinutes cX4_stepMinutes 6 (some .int), Cond.methodLink RX4 246 Lib.Math.max.name, Cond.static Lib.Math.max.name, Cond.initialized "java/lang/Math", Cond.code Lib.Math.max.name Lib.Math.max.code 2 (some .int), Cond.methodLink RX4 243 yX4_minutesOver, Cond.static yX4_minutesOver, Cond.code yX4_minutesOver cX4_minutesOver 1 (some .int), Cond.methodLink RX4 96 yX1_kindOf, Cond.instanceMethod yX1_kindOf, Cond.selects RX1 yX1_kindOf yX1_kindOf, Cond.code yX1_kindOf cX1_kindOf 2 (some .int), Cond.fieldLink RX1 19 "LeggedThrough$Plan" "kinds" "I", Cond.methodLink RX4 103 yX4_timesTired, Cond.static yX4_timesTired, Cond.code yX4_timesTired cX4_timesTired 2 (some .int), Cond.methodLink RX4 255 yX4_placeBehind]
def wsX4_alone_r3 : List Cond := [Cond.static yX4_placeBehind, Cond.code yX4_placeBehind cX4_placeBehind 2 (some .int)]
def wsX4_alone : List Cond := .code yX4_alone cX4_alone 4 (some .int) :: ((wsX4_alone_r1 ++ (wsX4_alone_r2 ++ wsX4_alone_r3)) ++ wsX40 ++ wsX10 ++ wsX20)
def wsX4_time_r1 : List Cond := [Cond.fieldLink RX4 26 "LeggedThrough" "state" "LLeggedThrough$State;", Cond.fieldLink RX4 19 "LeggedThrough" "plan" "LLeggedThrough$Plan;", Cond.methodLink RX4 112 yX4_pairRefusal, Cond.instanceMethod yX4_pairRefusal, Cond.selects RX4 yX4_pairRefusal yX4_pairRefusal, Cond.initialized RX4, Cond.code yX4_pairRefusal cX4_pairRefusal 4 (some .int), Cond.methodLink RX4 106 yX1_hasBoat, Cond.instanceMethod yX1_hasBoat, Cond.selects RX1 yX1_hasBoat yX1_hasBoat, Cond.initialized RX1, Cond.code yX1_hasBoat cX1_hasBoat 2 (some .boolean), Cond.fieldLink RX1 16 "LeggedThrough$Plan" "boats" "I", Cond.methodLink RX4 86 yX1_hasLegger, Cond.instanceMethod yX1_hasLegger, Cond.selects RX1 yX1_hasLegger yX1_hasLegger, Cond.code yX1_hasLegger cX1_hasLegger 2 (some .boolean), Cond.fieldLink RX1 13 "LeggedThrough$Plan" "leggers" "I", Cond.methodLink RX4 89 yX4_isPlace, Cond.static yX4_isPlace, Cond.code yX4_isPlace cX4_isPlace 1 (some .boolean), Cond.methodLink RX4 124 yX4_pairMinutes, Cond.instanceMethod yX4_pairMinutes, Cond.selects RX4 yX4_pairMinutes yX4_pairMinutes]
def wsX4_time_r2 : List Cond := [Cond.code yX4_pairMinutes cX4_pairMinutes 12 (some .int), Cond.methodLink RX4 246 Lib.Math.max.name, Cond.static Lib.Math.max.name, Cond.initialized "java/lang/Math", Cond.code Lib.Math.max.name Lib.Math.max.code 2 (some .int), Cond.methodLink RX4 92 yX2_groundAt, Cond.instanceMethod yX2_groundAt, Cond.selects RX2 yX2_groundAt yX2_groundAt, Cond.initialized RX2, Cond.code yX2_groundAt cX2_groundAt 3 (some .int), Cond.fieldLink RX2 9 "LeggedThrough$State" "grounds" "I", Cond.static yX4_groundIn, Cond.code yX4_groundIn cX4_groundIn 2 (some .int), Cond.methodLink RX4 251 yX4_stepMinutes, Cond.instanceMethod yX4_stepMinutes, Cond.selects RX4 yX4_stepMinutes yX4_stepMinutes, Cond.code yX4_stepMinutes cX4_stepMinutes 6 (some .int), Cond.methodLink RX4 243 yX4_minutesOver, Cond.static yX4_minutesOver, Cond.code yX4_minutesOver cX4_minutesOver 1 (some .int), Cond.methodLink RX4 96 yX1_kindOf, Cond.instanceMethod yX1_kindOf, Cond.selects RX1 yX1_kindOf yX1_kindOf, Cond.code yX1_kindOf cX1_kindOf 2 (some .int)]
def wsX4_time_r3 : List Cond := [Cond.fieldLink RX1 19 "LeggedThrough$Plan" "kinds" "I", Cond.methodLink RX4 103 yX4_timesTired, Cond.static yX4_timesTired, Cond.code yX4_timesTired cX4_timesTired 2 (some .int), Cond.methodLink RX4 255 yX4_placeBehind, Cond.static yX4_placeBehind, Cond.code yX4_placeBehind cX4_placeBehind 2 (some .int), Cond.methodLink RX4 109 yX1_loadOf, Cond.instanceMethod yX1_loadOf, Cond.selects RX1 yX1_loadOf yX1_loadOf, Cond.code yX1_loadOf cX1_loadOf 2 (some .int), Cond.fieldLink RX1 22 "LeggedThrough$Plan" "loads" "I"]
def wsX4_time : List Cond := .code yX4_time cX4_time 7 (some .int) :: ((wsX4_time_r1 ++ (wsX4_time_r2 ++ wsX4_time_r3)) ++ wsX40 ++ wsX20 ++ wsX10)
def wsX4_leastPair_r1 : List Cond := [Cond.fieldLink RX4 19 "LeggedThrough" "plan" "LLeggedThrough$Plan;", Cond.fieldLink RX4 26 "LeggedThrough" "state" "LLeggedThrough$State;", Cond.methodLink RX4 258 Lib.Math.min.name, Cond.static Lib.Math.min.name, Cond.initialized "java/lang/Math", Cond.code Lib.Math.min.name Lib.Math.min.code 2 (some .int), Cond.methodLink RX4 116 yX4_isIn, Cond.static yX4_isIn, Cond.initialized RX4, Cond.code yX4_isIn cX4_isIn 2 (some .boolean), Cond.methodLink RX4 124 yX4_pairMinutes, Cond.instanceMethod yX4_pairMinutes, Cond.selects RX4 yX4_pairMinutes yX4_pairMinutes, Cond.code yX4_pairMinutes cX4_pairMinutes 12 (some .int), Cond.methodLink RX4 246 Lib.Math.max.name, Cond.static Lib.Math.max.name, Cond.code Lib.Math.max.name Lib.Math.max.code 2 (some .int), Cond.methodLink RX4 92 yX2_groundAt, Cond.instanceMethod yX2_groundAt, Cond.selects RX2 yX2_groundAt yX2_groundAt, Cond.initialized RX2, Cond.code yX2_groundAt cX2_groundAt 3 (some .int), Cond.fieldLink RX2 9 "LeggedThrough$State" "grounds" "I", Cond.static yX4_groundIn]
def wsX4_leastPair_r2 : List Cond := [Cond.code yX4_groundIn cX4_groundIn 2 (some .int), Cond.methodLink RX4 251 yX4_stepMinutes, Cond.instanceMethod yX4_stepMinutes, Cond.selects RX4 yX4_stepMinutes yX4_stepMinutes, Cond.code yX4_stepMinutes cX4_stepMinutes 6 (some .int), Cond.methodLink RX4 243 yX4_minutesOver, Cond.static yX4_minutesOver, Cond.code yX4_minutesOver cX4_minutesOver 1 (some .int), Cond.methodLink RX4 96 yX1_kindOf, Cond.instanceMethod yX1_kindOf, Cond.selects RX1 yX1_kindOf yX1_kindOf, Cond.initialized RX1, Cond.code yX1_kindOf cX1_kindOf 2 (some .int), Cond.fieldLink RX1 19 "LeggedThrough$Plan" "kinds" "I", Cond.methodLink RX4 103 yX4_timesTired, Cond.static yX4_timesTired, Cond.code yX4_timesTired cX4_timesTired 2 (some .int), Cond.methodLink RX4 255 yX4_placeBehind, Cond.static yX4_placeBehind, Cond.code yX4_placeBehind cX4_placeBehind 2 (some .int)]
def wsX4_leastPair : List Cond := .code yX4_leastPair cX4_leastPair 7 (some .int) :: ((wsX4_leastPair_r1 ++ wsX4_leastPair_r2) ++ wsX40 ++ wsX10 ++ wsX20)
def wsX4_best_r1 : List Cond := [Cond.fieldLink RX4 19 "LeggedThrough" "plan" "LLeggedThrough$Plan;", Cond.methodLink RX4 106 yX1_hasBoat, Cond.instanceMethod yX1_hasBoat, Cond.selects RX1 yX1_hasBoat yX1_hasBoat, Cond.initialized RX1, Cond.code yX1_hasBoat cX1_hasBoat 2 (some .boolean), Cond.fieldLink RX1 16 "LeggedThrough$Plan" "boats" "I", Cond.methodLink RX4 147 yX1_allLeggers, Cond.instanceMethod yX1_allLeggers, Cond.selects RX1 yX1_allLeggers yX1_allLeggers, Cond.code yX1_allLeggers cX1_allLeggers 1 (some .int), Cond.fieldLink RX1 13 "LeggedThrough$Plan" "leggers" "I", Cond.methodLink RX4 150 yX4_leastPair, Cond.instanceMethod yX4_leastPair, Cond.selects RX4 yX4_leastPair yX4_leastPair, Cond.initialized RX4, Cond.code yX4_leastPair cX4_leastPair 7 (some .int), Cond.fieldLink RX4 26 "LeggedThrough" "state" "LLeggedThrough$State;", Cond.methodLink RX4 258 Lib.Math.min.name, Cond.static Lib.Math.min.name, Cond.initialized "java/lang/Math", Cond.code Lib.Math.min.name Lib.Math.min.code 2 (some .int), Cond.methodLink RX4 116 yX4_isIn, Cond.static yX4_isIn]
def wsX4_best_r2 : List Cond := [Cond.code yX4_isIn cX4_isIn 2 (some .boolean), Cond.methodLink RX4 124 yX4_pairMinutes, Cond.instanceMethod yX4_pairMinutes, Cond.selects RX4 yX4_pairMinutes yX4_pairMinutes, Cond.code yX4_pairMinutes cX4_pairMinutes 12 (some .int), Cond.methodLink RX4 246 Lib.Math.max.name, Cond.static Lib.Math.max.name, Cond.code Lib.Math.max.name Lib.Math.max.code 2 (some .int), Cond.methodLink RX4 92 yX2_groundAt, Cond.instanceMethod yX2_groundAt, Cond.selects RX2 yX2_groundAt yX2_groundAt, Cond.initialized RX2, Cond.code yX2_groundAt cX2_groundAt 3 (some .int), Cond.fieldLink RX2 9 "LeggedThrough$State" "grounds" "I", Cond.static yX4_groundIn, Cond.code yX4_groundIn cX4_groundIn 2 (some .int), Cond.methodLink RX4 251 yX4_stepMinutes, Cond.instanceMethod yX4_stepMinutes, Cond.selects RX4 yX4_stepMinutes yX4_stepMinutes, Cond.code yX4_stepMinutes cX4_stepMinutes 6 (some .int), Cond.methodLink RX4 243 yX4_minutesOver, Cond.static yX4_minutesOver, Cond.code yX4_minutesOver cX4_minutesOver 1 (some .int), Cond.methodLink RX4 96 yX1_kindOf]
def wsX4_best_r3 : List Cond := [Cond.instanceMethod yX1_kindOf, Cond.selects RX1 yX1_kindOf yX1_kindOf, Cond.code yX1_kindOf cX1_kindOf 2 (some .int), Cond.fieldLink RX1 19 "LeggedThrough$Plan" "kinds" "I", Cond.methodLink RX4 103 yX4_timesTired, Cond.static yX4_timesTired, Cond.code yX4_timesTired cX4_timesTired 2 (some .int), Cond.methodLink RX4 255 yX4_placeBehind, Cond.static yX4_placeBehind, Cond.code yX4_placeBehind cX4_placeBehind 2 (some .int), Cond.methodLink RX4 109 yX1_loadOf, Cond.instanceMethod yX1_loadOf, Cond.selects RX1 yX1_loadOf yX1_loadOf, Cond.code yX1_loadOf cX1_loadOf 2 (some .int), Cond.fieldLink RX1 22 "LeggedThrough$Plan" "loads" "I"]
def wsX4_best : List Cond := .code yX4_best cX4_best 4 (some .int) :: ((wsX4_best_r1 ++ (wsX4_best_r2 ++ wsX4_best_r3)) ++ wsX40 ++ wsX10 ++ wsX20)
def wsX4_leastBegin_r1 : List Cond := [Cond.constant RX4 261 (2147483647), Cond.fieldLink RX4 26 "LeggedThrough" "state" "LLeggedThrough$State;", Cond.methodLink RX4 258 Lib.Math.min.name, Cond.static Lib.Math.min.name, Cond.initialized "java/lang/Math", Cond.code Lib.Math.min.name Lib.Math.min.code 2 (some .int), Cond.methodLink RX4 124 yX4_pairMinutes, Cond.instanceMethod yX4_pairMinutes, Cond.selects RX4 yX4_pairMinutes yX4_pairMinutes, Cond.initialized RX4, Cond.code yX4_pairMinutes cX4_pairMinutes 12 (some .int), Cond.fieldLink RX4 19 "LeggedThrough" "plan" "LLeggedThrough$Plan;", Cond.methodLink RX4 246 Lib.Math.max.name, Cond.static Lib.Math.max.name, Cond.code Lib.Math.max.name Lib.Math.max.code 2 (some .int), Cond.methodLink RX4 92 yX2_groundAt, Cond.instanceMethod yX2_groundAt, Cond.selects RX2 yX2_groundAt yX2_groundAt, Cond.initialized RX2, Cond.code yX2_groundAt cX2_groundAt 3 (some .int), Cond.fieldLink RX2 9 "LeggedThrough$State" "grounds" "I", Cond.static yX4_groundIn, Cond.code yX4_groundIn cX4_groundIn 2 (some .int), Cond.methodLink RX4 251 yX4_stepMinutes]
def wsX4_leastBegin_r2 : List Cond := [Cond.instanceMethod yX4_stepMinutes, Cond.selects RX4 yX4_stepMinutes yX4_stepMinutes, Cond.code yX4_stepMinutes cX4_stepMinutes 6 (some .int), Cond.methodLink RX4 243 yX4_minutesOver, Cond.static yX4_minutesOver, Cond.code yX4_minutesOver cX4_minutesOver 1 (some .int), Cond.methodLink RX4 96 yX1_kindOf, Cond.instanceMethod yX1_kindOf, Cond.selects RX1 yX1_kindOf yX1_kindOf, Cond.initialized RX1, Cond.code yX1_kindOf cX1_kindOf 2 (some .int), Cond.fieldLink RX1 19 "LeggedThrough$Plan" "kinds" "I", Cond.methodLink RX4 103 yX4_timesTired, Cond.static yX4_timesTired, Cond.code yX4_timesTired cX4_timesTired 2 (some .int), Cond.methodLink RX4 255 yX4_placeBehind, Cond.static yX4_placeBehind, Cond.code yX4_placeBehind cX4_placeBehind 2 (some .int)]
def wsX4_leastBegin : List Cond := .code yX4_leastBegin cX4_leastBegin 7 (some .int) :: ((wsX4_leastBegin_r1 ++ wsX4_leastBegin_r2) ++ wsX40 ++ wsX20 ++ wsX10)
def wsX4_begin_r1 : List Cond := [Cond.fieldLink RX4 19 "LeggedThrough" "plan" "LLeggedThrough$Plan;", Cond.methodLink RX4 112 yX4_pairRefusal, Cond.instanceMethod yX4_pairRefusal, Cond.selects RX4 yX4_pairRefusal yX4_pairRefusal, Cond.initialized RX4, Cond.code yX4_pairRefusal cX4_pairRefusal 4 (some .int), Cond.methodLink RX4 106 yX1_hasBoat, Cond.instanceMethod yX1_hasBoat, Cond.selects RX1 yX1_hasBoat yX1_hasBoat, Cond.initialized RX1, Cond.code yX1_hasBoat cX1_hasBoat 2 (some .boolean), Cond.fieldLink RX1 16 "LeggedThrough$Plan" "boats" "I", Cond.methodLink RX4 86 yX1_hasLegger, Cond.instanceMethod yX1_hasLegger, Cond.selects RX1 yX1_hasLegger yX1_hasLegger, Cond.code yX1_hasLegger cX1_hasLegger 2 (some .boolean), Cond.fieldLink RX1 13 "LeggedThrough$Plan" "leggers" "I", Cond.methodLink RX4 153 yX4_leastBegin, Cond.instanceMethod yX4_leastBegin, Cond.selects RX4 yX4_leastBegin yX4_leastBegin, Cond.code yX4_leastBegin cX4_leastBegin 7 (some .int), Cond.constant RX4 261 (2147483647), Cond.fieldLink RX4 26 "LeggedThrough" "state" "LLeggedThrough$State;", Cond.methodLink RX4 258 Lib.Math.min.name]
def wsX4_begin_r2 : List Cond := [Cond.static Lib.Math.min.name, Cond.initialized "java/lang/Math", Cond.code Lib.Math.min.name Lib.Math.min.code 2 (some .int), Cond.methodLink RX4 124 yX4_pairMinutes, Cond.instanceMethod yX4_pairMinutes, Cond.selects RX4 yX4_pairMinutes yX4_pairMinutes, Cond.code yX4_pairMinutes cX4_pairMinutes 12 (some .int), Cond.methodLink RX4 246 Lib.Math.max.name, Cond.static Lib.Math.max.name, Cond.code Lib.Math.max.name Lib.Math.max.code 2 (some .int), Cond.methodLink RX4 92 yX2_groundAt, Cond.instanceMethod yX2_groundAt, Cond.selects RX2 yX2_groundAt yX2_groundAt, Cond.initialized RX2, Cond.code yX2_groundAt cX2_groundAt 3 (some .int), Cond.fieldLink RX2 9 "LeggedThrough$State" "grounds" "I", Cond.static yX4_groundIn, Cond.code yX4_groundIn cX4_groundIn 2 (some .int), Cond.methodLink RX4 251 yX4_stepMinutes, Cond.instanceMethod yX4_stepMinutes, Cond.selects RX4 yX4_stepMinutes yX4_stepMinutes, Cond.code yX4_stepMinutes cX4_stepMinutes 6 (some .int), Cond.methodLink RX4 243 yX4_minutesOver, Cond.static yX4_minutesOver]
def wsX4_begin_r3 : List Cond := [Cond.code yX4_minutesOver cX4_minutesOver 1 (some .int), Cond.methodLink RX4 96 yX1_kindOf, Cond.instanceMethod yX1_kindOf, Cond.selects RX1 yX1_kindOf yX1_kindOf, Cond.code yX1_kindOf cX1_kindOf 2 (some .int), Cond.fieldLink RX1 19 "LeggedThrough$Plan" "kinds" "I", Cond.methodLink RX4 103 yX4_timesTired, Cond.static yX4_timesTired, Cond.code yX4_timesTired cX4_timesTired 2 (some .int), Cond.methodLink RX4 255 yX4_placeBehind, Cond.static yX4_placeBehind, Cond.code yX4_placeBehind cX4_placeBehind 2 (some .int), Cond.methodLink RX4 109 yX1_loadOf, Cond.instanceMethod yX1_loadOf, Cond.selects RX1 yX1_loadOf yX1_loadOf, Cond.code yX1_loadOf cX1_loadOf 2 (some .int), Cond.fieldLink RX1 22 "LeggedThrough$Plan" "loads" "I"]
def wsX4_begin : List Cond := .code yX4_begin cX4_begin 7 (some .int) :: ((wsX4_begin_r1 ++ (wsX4_begin_r2 ++ wsX4_begin_r3)) ++ wsX40 ++ wsX10 ++ wsX20)
def wsX4_leastLegs_r1 : List Cond := [Cond.constantLong RX4 162 (1000000000), Cond.fieldLink RX4 19 "LeggedThrough" "plan" "LLeggedThrough$Plan;", Cond.methodLink RX4 273 Lib.MathLoose.min_long.x, Cond.static Lib.MathLoose.min_long.x, Cond.initialized "java/lang/Math", Cond.code Lib.MathLoose.min_long.x Lib.MathLoose.min_long.code 4 (some .long), Cond.fieldLink RX4 26 "LeggedThrough" "state" "LLeggedThrough$State;", Cond.methodLink RX4 116 yX4_isIn, Cond.static yX4_isIn, Cond.initialized RX4, Cond.code yX4_isIn cX4_isIn 2 (some .boolean), Cond.methodLink RX4 269 yX4_leastLegs, Cond.instanceMethod yX4_leastLegs, Cond.selects RX4 yX4_leastLegs yX4_leastLegs, Cond.methodLink RX4 124 yX4_pairMinutes, Cond.instanceMethod yX4_pairMinutes, Cond.selects RX4 yX4_pairMinutes yX4_pairMinutes, Cond.code yX4_pairMinutes cX4_pairMinutes 12 (some .int), Cond.methodLink RX4 246 Lib.Math.max.name, Cond.static Lib.Math.max.name, Cond.code Lib.Math.max.name Lib.Math.max.code 2 (some .int), Cond.methodLink RX4 92 yX2_groundAt, Cond.instanceMethod yX2_groundAt, Cond.selects RX2 yX2_groundAt yX2_groundAt]
def wsX4_leastLegs_r2 : List Cond := [Cond.initialized RX2, Cond.code yX2_groundAt cX2_groundAt 3 (some .int), Cond.fieldLink RX2 9 "LeggedThrough$State" "grounds" "I", Cond.static yX4_groundIn, Cond.code yX4_groundIn cX4_groundIn 2 (some .int), Cond.methodLink RX4 251 yX4_stepMinutes, Cond.instanceMethod yX4_stepMinutes, Cond.selects RX4 yX4_stepMinutes yX4_stepMinutes, Cond.code yX4_stepMinutes cX4_stepMinutes 6 (some .int), Cond.methodLink RX4 243 yX4_minutesOver, Cond.static yX4_minutesOver, Cond.code yX4_minutesOver cX4_minutesOver 1 (some .int), Cond.methodLink RX4 96 yX1_kindOf, Cond.instanceMethod yX1_kindOf, Cond.selects RX1 yX1_kindOf yX1_kindOf, Cond.initialized RX1, Cond.code yX1_kindOf cX1_kindOf 2 (some .int), Cond.fieldLink RX1 19 "LeggedThrough$Plan" "kinds" "I", Cond.methodLink RX4 103 yX4_timesTired, Cond.static yX4_timesTired, Cond.code yX4_timesTired cX4_timesTired 2 (some .int), Cond.methodLink RX4 255 yX4_placeBehind, Cond.static yX4_placeBehind, Cond.code yX4_placeBehind cX4_placeBehind 2 (some .int)]
def wsX4_leastLegs_r3 : List Cond := [Cond.methodLink RX4 109 yX1_loadOf, Cond.instanceMethod yX1_loadOf, Cond.selects RX1 yX1_loadOf yX1_loadOf, Cond.code yX1_loadOf cX1_loadOf 2 (some .int), Cond.fieldLink RX1 22 "LeggedThrough$Plan" "loads" "I", Cond.methodLink RX4 128 yX4_tireBoth, Cond.static yX4_tireBoth, Cond.code yX4_tireBoth cX4_tireBoth 3 (some .int), Cond.methodLink RX4 221 yX4_tireOne, Cond.static yX4_tireOne, Cond.code yX4_tireOne cX4_tireOne 2 (some .int)]
def wsX4_leastLegs : List Cond := .code yX4_leastLegs cX4_leastLegs 15 (some .long) :: ((wsX4_leastLegs_r1 ++ (wsX4_leastLegs_r2 ++ wsX4_leastLegs_r3)) ++ wsX40 ++ wsX10 ++ wsX20)
def wsX4_soonestLegs_r1 : List Cond := [Cond.fieldLink RX4 19 "LeggedThrough" "plan" "LLeggedThrough$Plan;", Cond.fieldLink RX4 26 "LeggedThrough" "state" "LLeggedThrough$State;", Cond.constantLong RX4 160 (-9), Cond.constantLong RX4 267 (9223372036854775807), Cond.methodLink RX4 262 yX1_allBoats, Cond.instanceMethod yX1_allBoats, Cond.selects RX1 yX1_allBoats yX1_allBoats, Cond.initialized RX1, Cond.code yX1_allBoats cX1_allBoats 1 (some .int), Cond.fieldLink RX1 16 "LeggedThrough$Plan" "boats" "I", Cond.methodLink RX4 269 yX4_leastLegs, Cond.instanceMethod yX4_leastLegs, Cond.selects RX4 yX4_leastLegs yX4_leastLegs, Cond.initialized RX4, Cond.code yX4_leastLegs cX4_leastLegs 15 (some .long), Cond.constantLong RX4 162 (1000000000), Cond.methodLink RX4 273 Lib.MathLoose.min_long.x, Cond.static Lib.MathLoose.min_long.x, Cond.initialized "java/lang/Math", Cond.code Lib.MathLoose.min_long.x Lib.MathLoose.min_long.code 4 (some .long), Cond.methodLink RX4 116 yX4_isIn, Cond.static yX4_isIn, Cond.code yX4_isIn cX4_isIn 2 (some .boolean), Cond.methodLink RX4 124 yX4_pairMinutes]
def wsX4_soonestLegs_r2 : List Cond := [Cond.instanceMethod yX4_pairMinutes, Cond.selects RX4 yX4_pairMinutes yX4_pairMinutes, Cond.code yX4_pairMinutes cX4_pairMinutes 12 (some .int), Cond.methodLink RX4 246 Lib.Math.max.name, Cond.static Lib.Math.max.name, Cond.code Lib.Math.max.name Lib.Math.max.code 2 (some .int), Cond.methodLink RX4 92 yX2_groundAt, Cond.instanceMethod yX2_groundAt, Cond.selects RX2 yX2_groundAt yX2_groundAt, Cond.initialized RX2, Cond.code yX2_groundAt cX2_groundAt 3 (some .int), Cond.fieldLink RX2 9 "LeggedThrough$State" "grounds" "I", Cond.static yX4_groundIn, Cond.code yX4_groundIn cX4_groundIn 2 (some .int), Cond.methodLink RX4 251 yX4_stepMinutes, Cond.instanceMethod yX4_stepMinutes, Cond.selects RX4 yX4_stepMinutes yX4_stepMinutes, Cond.code yX4_stepMinutes cX4_stepMinutes 6 (some .int), Cond.methodLink RX4 243 yX4_minutesOver, Cond.static yX4_minutesOver, Cond.code yX4_minutesOver cX4_minutesOver 1 (some .int), Cond.methodLink RX4 96 yX1_kindOf, Cond.instanceMethod yX1_kindOf, Cond.selects RX1 yX1_kindOf yX1_kindOf]
def wsX4_soonestLegs_r3 : List Cond := [Cond.code yX1_kindOf cX1_kindOf 2 (some .int), Cond.fieldLink RX1 19 "LeggedThrough$Plan" "kinds" "I", Cond.methodLink RX4 103 yX4_timesTired, Cond.static yX4_timesTired, Cond.code yX4_timesTired cX4_timesTired 2 (some .int), Cond.methodLink RX4 255 yX4_placeBehind, Cond.static yX4_placeBehind, Cond.code yX4_placeBehind cX4_placeBehind 2 (some .int), Cond.methodLink RX4 109 yX1_loadOf, Cond.instanceMethod yX1_loadOf, Cond.selects RX1 yX1_loadOf yX1_loadOf, Cond.code yX1_loadOf cX1_loadOf 2 (some .int), Cond.fieldLink RX1 22 "LeggedThrough$Plan" "loads" "I", Cond.methodLink RX4 128 yX4_tireBoth, Cond.static yX4_tireBoth, Cond.code yX4_tireBoth cX4_tireBoth 3 (some .int), Cond.methodLink RX4 221 yX4_tireOne, Cond.static yX4_tireOne, Cond.code yX4_tireOne cX4_tireOne 2 (some .int)]
def wsX4_soonestLegs : List Cond := .code yX4_soonestLegs cX4_soonestLegs 2 (some .long) :: ((wsX4_soonestLegs_r1 ++ (wsX4_soonestLegs_r2 ++ wsX4_soonestLegs_r3)) ++ wsX40 ++ wsX20 ++ wsX10)
def wsX4_soonest_r1 : List Cond := [Cond.constantLong RX4 160 (-9), Cond.constantLong RX4 162 (1000000000), Cond.methodLink RX4 156 yX4_soonestLegs, Cond.instanceMethod yX4_soonestLegs, Cond.selects RX4 yX4_soonestLegs yX4_soonestLegs, Cond.initialized RX4, Cond.code yX4_soonestLegs cX4_soonestLegs 2 (some .long), Cond.fieldLink RX4 19 "LeggedThrough" "plan" "LLeggedThrough$Plan;", Cond.fieldLink RX4 26 "LeggedThrough" "state" "LLeggedThrough$State;", Cond.constantLong RX4 267 (9223372036854775807), Cond.methodLink RX4 262 yX1_allBoats, Cond.instanceMethod yX1_allBoats, Cond.selects RX1 yX1_allBoats yX1_allBoats, Cond.initialized RX1, Cond.code yX1_allBoats cX1_allBoats 1 (some .int), Cond.fieldLink RX1 16 "LeggedThrough$Plan" "boats" "I", Cond.methodLink RX4 269 yX4_leastLegs, Cond.instanceMethod yX4_leastLegs, Cond.selects RX4 yX4_leastLegs yX4_leastLegs, Cond.code yX4_leastLegs cX4_leastLegs 15 (some .long), Cond.methodLink RX4 273 Lib.MathLoose.min_long.x, Cond.static Lib.MathLoose.min_long.x, Cond.initialized "java/lang/Math", Cond.code Lib.MathLoose.min_long.x Lib.MathLoose.min_long.code 4 (some .long)]
def wsX4_soonest_r2 : List Cond := [Cond.methodLink RX4 116 yX4_isIn, Cond.static yX4_isIn, Cond.code yX4_isIn cX4_isIn 2 (some .boolean), Cond.methodLink RX4 124 yX4_pairMinutes, Cond.instanceMethod yX4_pairMinutes, Cond.selects RX4 yX4_pairMinutes yX4_pairMinutes, Cond.code yX4_pairMinutes cX4_pairMinutes 12 (some .int), Cond.methodLink RX4 246 Lib.Math.max.name, Cond.static Lib.Math.max.name, Cond.code Lib.Math.max.name Lib.Math.max.code 2 (some .int), Cond.methodLink RX4 92 yX2_groundAt, Cond.instanceMethod yX2_groundAt, Cond.selects RX2 yX2_groundAt yX2_groundAt, Cond.initialized RX2, Cond.code yX2_groundAt cX2_groundAt 3 (some .int), Cond.fieldLink RX2 9 "LeggedThrough$State" "grounds" "I", Cond.static yX4_groundIn, Cond.code yX4_groundIn cX4_groundIn 2 (some .int), Cond.methodLink RX4 251 yX4_stepMinutes, Cond.instanceMethod yX4_stepMinutes, Cond.selects RX4 yX4_stepMinutes yX4_stepMinutes, Cond.code yX4_stepMinutes cX4_stepMinutes 6 (some .int), Cond.methodLink RX4 243 yX4_minutesOver, Cond.static yX4_minutesOver]
def wsX4_soonest_r3 : List Cond := [Cond.code yX4_minutesOver cX4_minutesOver 1 (some .int), Cond.methodLink RX4 96 yX1_kindOf, Cond.instanceMethod yX1_kindOf, Cond.selects RX1 yX1_kindOf yX1_kindOf, Cond.code yX1_kindOf cX1_kindOf 2 (some .int), Cond.fieldLink RX1 19 "LeggedThrough$Plan" "kinds" "I", Cond.methodLink RX4 103 yX4_timesTired, Cond.static yX4_timesTired, Cond.code yX4_timesTired cX4_timesTired 2 (some .int), Cond.methodLink RX4 255 yX4_placeBehind, Cond.static yX4_placeBehind, Cond.code yX4_placeBehind cX4_placeBehind 2 (some .int), Cond.methodLink RX4 109 yX1_loadOf, Cond.instanceMethod yX1_loadOf, Cond.selects RX1 yX1_loadOf yX1_loadOf, Cond.code yX1_loadOf cX1_loadOf 2 (some .int), Cond.fieldLink RX1 22 "LeggedThrough$Plan" "loads" "I", Cond.methodLink RX4 128 yX4_tireBoth, Cond.static yX4_tireBoth, Cond.code yX4_tireBoth cX4_tireBoth 3 (some .int), Cond.methodLink RX4 221 yX4_tireOne, Cond.static yX4_tireOne, Cond.code yX4_tireOne cX4_tireOne 2 (some .int)]
def wsX4_soonest : List Cond := .code yX4_soonest cX4_soonest 4 (some .int) :: ((wsX4_soonest_r1 ++ (wsX4_soonest_r2 ++ wsX4_soonest_r3)) ++ wsX40 ++ wsX20 ++ wsX10)
def wsX4_legTold : List Cond := .code yX4_legTold cX4_legTold 4 (some .int) :: ([])
def wsX4_judge : List Cond := .code yX4_judge cX4_judge 7 (some .int) :: ([.fieldLink RX4 26 "LeggedThrough" "state" "LLeggedThrough$State;", .methodLink RX4 164 yX4_legTold, .static yX4_legTold, .initialized RX4, .code yX4_legTold cX4_legTold 4 (some .int), .methodLink RX4 112 yX4_pairRefusal, .instanceMethod yX4_pairRefusal, .selects RX4 yX4_pairRefusal yX4_pairRefusal, .code yX4_pairRefusal cX4_pairRefusal 4 (some .int), .fieldLink RX4 19 "LeggedThrough" "plan" "LLeggedThrough$Plan;", .methodLink RX4 106 yX1_hasBoat, .instanceMethod yX1_hasBoat, .selects RX1 yX1_hasBoat yX1_hasBoat, .initialized RX1, .code yX1_hasBoat cX1_hasBoat 2 (some .boolean), .fieldLink RX1 16 "LeggedThrough$Plan" "boats" "I", .methodLink RX4 86 yX1_hasLegger, .instanceMethod yX1_hasLegger, .selects RX1 yX1_hasLegger yX1_hasLegger, .code yX1_hasLegger cX1_hasLegger 2 (some .boolean), .fieldLink RX1 13 "LeggedThrough$Plan" "leggers" "I", .methodLink RX4 116 yX4_isIn, .static yX4_isIn, .code yX4_isIn cX4_isIn 2 (some .boolean)] ++ wsX40 ++ wsX20 ++ wsX10)
def wsX4_worth_r1 : List Cond := [Cond.fieldLink RX4 19 "LeggedThrough" "plan" "LLeggedThrough$Plan;", Cond.methodLink RX4 150 yX4_leastPair, Cond.instanceMethod yX4_leastPair, Cond.selects RX4 yX4_leastPair yX4_leastPair, Cond.initialized RX4, Cond.code yX4_leastPair cX4_leastPair 7 (some .int), Cond.fieldLink RX4 26 "LeggedThrough" "state" "LLeggedThrough$State;", Cond.methodLink RX4 258 Lib.Math.min.name, Cond.static Lib.Math.min.name, Cond.initialized "java/lang/Math", Cond.code Lib.Math.min.name Lib.Math.min.code 2 (some .int), Cond.methodLink RX4 116 yX4_isIn, Cond.static yX4_isIn, Cond.code yX4_isIn cX4_isIn 2 (some .boolean), Cond.methodLink RX4 124 yX4_pairMinutes, Cond.instanceMethod yX4_pairMinutes, Cond.selects RX4 yX4_pairMinutes yX4_pairMinutes, Cond.code yX4_pairMinutes cX4_pairMinutes 12 (some .int), Cond.methodLink RX4 246 Lib.Math.max.name, Cond.static Lib.Math.max.name, Cond.code Lib.Math.max.name Lib.Math.max.code 2 (some .int), Cond.methodLink RX4 92 yX2_groundAt, Cond.instanceMethod yX2_groundAt, Cond.selects RX2 yX2_groundAt yX2_groundAt]
def wsX4_worth_r2 : List Cond := [Cond.initialized RX2, Cond.code yX2_groundAt cX2_groundAt 3 (some .int), Cond.fieldLink RX2 9 "LeggedThrough$State" "grounds" "I", Cond.static yX4_groundIn, Cond.code yX4_groundIn cX4_groundIn 2 (some .int), Cond.methodLink RX4 251 yX4_stepMinutes, Cond.instanceMethod yX4_stepMinutes, Cond.selects RX4 yX4_stepMinutes yX4_stepMinutes, Cond.code yX4_stepMinutes cX4_stepMinutes 6 (some .int), Cond.methodLink RX4 243 yX4_minutesOver, Cond.static yX4_minutesOver, Cond.code yX4_minutesOver cX4_minutesOver 1 (some .int), Cond.methodLink RX4 96 yX1_kindOf, Cond.instanceMethod yX1_kindOf, Cond.selects RX1 yX1_kindOf yX1_kindOf, Cond.initialized RX1, Cond.code yX1_kindOf cX1_kindOf 2 (some .int), Cond.fieldLink RX1 19 "LeggedThrough$Plan" "kinds" "I", Cond.methodLink RX4 103 yX4_timesTired, Cond.static yX4_timesTired, Cond.code yX4_timesTired cX4_timesTired 2 (some .int), Cond.methodLink RX4 255 yX4_placeBehind, Cond.static yX4_placeBehind, Cond.code yX4_placeBehind cX4_placeBehind 2 (some .int)]
def wsX4_worth_r3 : List Cond := [Cond.methodLink RX4 109 yX1_loadOf, Cond.instanceMethod yX1_loadOf, Cond.selects RX1 yX1_loadOf yX1_loadOf, Cond.code yX1_loadOf cX1_loadOf 2 (some .int), Cond.fieldLink RX1 22 "LeggedThrough$Plan" "loads" "I"]
def wsX4_worth : List Cond := .code yX4_worth cX4_worth 4 (some .int) :: ((wsX4_worth_r1 ++ (wsX4_worth_r2 ++ wsX4_worth_r3)) ++ wsX40 ++ wsX10 ++ wsX20)
def wsJ6_bitCount_0f7a4 : List Cond := .code yJ6_bitCount_0f7a4 cJ6_bitCount_0f7a4 1 (some .int) :: ([.constant RJ6 265 (1431655765), .constant RJ6 266 (858993459), .constant RJ6 267 (252645135)])
def wsX4_factorial : List Cond := .code yX4_factorial cX4_factorial 3 (some .int) :: ([])
def wsX4_ordersBehind : List Cond := .code yX4_ordersBehind cX4_ordersBehind 2 (some .int) :: ([.fieldLink RX4 19 "LeggedThrough" "plan" "LLeggedThrough$Plan;", .methodLink RX4 178 yX4_factorial, .static yX4_factorial, .initialized RX4, .code yX4_factorial cX4_factorial 3 (some .int)] ++ wsX40 ++ wsX10)
def wsX4_fraction : List Cond := .code yX4_fraction cX4_fraction 7 (some .int) :: ([])
def wsX4_share_r1 : List Cond := [Cond.fieldLink RX4 19 "LeggedThrough" "plan" "LLeggedThrough$Plan;", Cond.methodLink RX4 86 yX1_hasLegger, Cond.instanceMethod yX1_hasLegger, Cond.selects RX1 yX1_hasLegger yX1_hasLegger, Cond.initialized RX1, Cond.code yX1_hasLegger cX1_hasLegger 2 (some .boolean), Cond.fieldLink RX1 13 "LeggedThrough$Plan" "leggers" "I", Cond.methodLink RX4 106 yX1_hasBoat, Cond.instanceMethod yX1_hasBoat, Cond.selects RX1 yX1_hasBoat yX1_hasBoat, Cond.code yX1_hasBoat cX1_hasBoat 2 (some .boolean), Cond.fieldLink RX1 16 "LeggedThrough$Plan" "boats" "I", Cond.methodLink RX4 147 yX1_allLeggers, Cond.instanceMethod yX1_allLeggers, Cond.selects RX1 yX1_allLeggers yX1_allLeggers, Cond.code yX1_allLeggers cX1_allLeggers 1 (some .int), Cond.methodLink RX4 116 yX4_isIn, Cond.static yX4_isIn, Cond.initialized RX4, Cond.code yX4_isIn cX4_isIn 2 (some .boolean), Cond.methodLink RX4 167 yX4_worth, Cond.instanceMethod yX4_worth, Cond.selects RX4 yX4_worth yX4_worth, Cond.code yX4_worth cX4_worth 4 (some .int)]
def wsX4_share_r2 : List Cond := [Cond.methodLink RX4 150 yX4_leastPair, Cond.instanceMethod yX4_leastPair, Cond.selects RX4 yX4_leastPair yX4_leastPair, Cond.code yX4_leastPair cX4_leastPair 7 (some .int), Cond.fieldLink RX4 26 "LeggedThrough" "state" "LLeggedThrough$State;", Cond.methodLink RX4 258 Lib.Math.min.name, Cond.static Lib.Math.min.name, Cond.initialized "java/lang/Math", Cond.code Lib.Math.min.name Lib.Math.min.code 2 (some .int), Cond.methodLink RX4 124 yX4_pairMinutes, Cond.instanceMethod yX4_pairMinutes, Cond.selects RX4 yX4_pairMinutes yX4_pairMinutes, Cond.code yX4_pairMinutes cX4_pairMinutes 12 (some .int), Cond.methodLink RX4 246 Lib.Math.max.name, Cond.static Lib.Math.max.name, Cond.code Lib.Math.max.name Lib.Math.max.code 2 (some .int), Cond.methodLink RX4 92 yX2_groundAt, Cond.instanceMethod yX2_groundAt, Cond.selects RX2 yX2_groundAt yX2_groundAt, Cond.initialized RX2, Cond.code yX2_groundAt cX2_groundAt 3 (some .int), Cond.fieldLink RX2 9 "LeggedThrough$State" "grounds" "I", Cond.static yX4_groundIn, Cond.code yX4_groundIn cX4_groundIn 2 (some .int)]
def wsX4_share_r3 : List Cond := [Cond.methodLink RX4 251 yX4_stepMinutes, Cond.instanceMethod yX4_stepMinutes, Cond.selects RX4 yX4_stepMinutes yX4_stepMinutes, Cond.code yX4_stepMinutes cX4_stepMinutes 6 (some .int), Cond.methodLink RX4 243 yX4_minutesOver, Cond.static yX4_minutesOver, Cond.code yX4_minutesOver cX4_minutesOver 1 (some .int), Cond.methodLink RX4 96 yX1_kindOf, Cond.instanceMethod yX1_kindOf, Cond.selects RX1 yX1_kindOf yX1_kindOf, Cond.code yX1_kindOf cX1_kindOf 2 (some .int), Cond.fieldLink RX1 19 "LeggedThrough$Plan" "kinds" "I", Cond.methodLink RX4 103 yX4_timesTired, Cond.static yX4_timesTired, Cond.code yX4_timesTired cX4_timesTired 2 (some .int), Cond.methodLink RX4 255 yX4_placeBehind, Cond.static yX4_placeBehind, Cond.code yX4_placeBehind cX4_placeBehind 2 (some .int), Cond.methodLink RX4 109 yX1_loadOf, Cond.instanceMethod yX1_loadOf, Cond.selects RX1 yX1_loadOf yX1_loadOf, Cond.code yX1_loadOf cX1_loadOf 2 (some .int), Cond.fieldLink RX1 22 "LeggedThrough$Plan" "loads" "I", Cond.methodLink RX4 170 yJ6_bitCount_0f7a4]
def wsX4_share_r4 : List Cond := [Cond.static yJ6_bitCount_0f7a4, Cond.initialized RJ6, Cond.code yJ6_bitCount_0f7a4 cJ6_bitCount_0f7a4 1 (some .int), Cond.constant RJ6 265 (1431655765), Cond.constant RJ6 266 (858993459), Cond.constant RJ6 267 (252645135), Cond.methodLink RX4 175 yX4_ordersBehind, Cond.instanceMethod yX4_ordersBehind, Cond.selects RX4 yX4_ordersBehind yX4_ordersBehind, Cond.code yX4_ordersBehind cX4_ordersBehind 2 (some .int), Cond.methodLink RX4 178 yX4_factorial, Cond.static yX4_factorial, Cond.code yX4_factorial cX4_factorial 3 (some .int), Cond.methodLink RX4 181 yX4_fraction, Cond.static yX4_fraction, Cond.code yX4_fraction cX4_fraction 7 (some .int)]
def wsX4_share : List Cond := .code yX4_share cX4_share 7 (some .int) :: ((wsX4_share_r1 ++ (wsX4_share_r2 ++ (wsX4_share_r3 ++ wsX4_share_r4))) ++ wsX40 ++ wsX10 ++ wsX20)
def wsX4_see : List Cond := .code yX4_see cX4_see 3 (some .int) :: ([.fieldLink RX4 83 "LeggedThrough" "seenMany" "I", .fieldLink RX4 185 "LeggedThrough" "seenMinutes" "I"] ++ wsX40)
def wsX4_unsee : List Cond := .code yX4_unsee cX4_unsee 2 (some .int) :: ([.fieldLink RX4 83 "LeggedThrough" "seenMany" "I", .fieldLink RX4 185 "LeggedThrough" "seenMinutes" "I"] ++ wsX40)
def wsX4_isAsSeen : List Cond := .code yX4_isAsSeen cX4_isAsSeen 6 (some .boolean) :: ([.fieldLink RX4 185 "LeggedThrough" "seenMinutes" "I", .methodLink RX4 191 yX4_groundIn, .static yX4_groundIn, .initialized RX4, .code yX4_groundIn cX4_groundIn 2 (some .int), .methodLink RX4 243 yX4_minutesOver, .static yX4_minutesOver, .code yX4_minutesOver cX4_minutesOver 1 (some .int), .methodLink RX4 255 yX4_placeBehind, .static yX4_placeBehind, .code yX4_placeBehind cX4_placeBehind 2 (some .int)] ++ wsX40)
def wsX4_lives : List Cond := .code yX4_lives cX4_lives 5 (some .int) :: ([.methodLink RX4 89 yX4_isPlace, .static yX4_isPlace, .initialized RX4, .code yX4_isPlace cX4_isPlace 1 (some .boolean), .methodLink RX4 188 yX4_isAsSeen, .instanceMethod yX4_isAsSeen, .selects RX4 yX4_isAsSeen yX4_isAsSeen, .code yX4_isAsSeen cX4_isAsSeen 6 (some .boolean), .fieldLink RX4 185 "LeggedThrough" "seenMinutes" "I", .methodLink RX4 191 yX4_groundIn, .static yX4_groundIn, .code yX4_groundIn cX4_groundIn 2 (some .int), .methodLink RX4 243 yX4_minutesOver, .static yX4_minutesOver, .code yX4_minutesOver cX4_minutesOver 1 (some .int), .methodLink RX4 255 yX4_placeBehind, .static yX4_placeBehind, .code yX4_placeBehind cX4_placeBehind 2 (some .int)] ++ wsX40)
def wsX4_loss : List Cond := .code yX4_loss cX4_loss 3 (some .int) :: ([])
def wsX4_staysWith : List Cond := .code yX4_staysWith cX4_staysWith 4 (some .boolean) :: ([.methodLink RX4 276 yX4_loss, .static yX4_loss, .initialized RX4, .code yX4_loss cX4_loss 3 (some .int)])
def wsX4_rests : List Cond := .code yX4_rests cX4_rests 8 (some .int) :: ([.fieldLink RX4 19 "LeggedThrough" "plan" "LLeggedThrough$Plan;", .methodLink RX4 106 yX1_hasBoat, .instanceMethod yX1_hasBoat, .selects RX1 yX1_hasBoat yX1_hasBoat, .initialized RX1, .code yX1_hasBoat cX1_hasBoat 2 (some .boolean), .fieldLink RX1 16 "LeggedThrough$Plan" "boats" "I", .methodLink RX4 109 yX1_loadOf, .instanceMethod yX1_loadOf, .selects RX1 yX1_loadOf yX1_loadOf, .code yX1_loadOf cX1_loadOf 2 (some .int), .fieldLink RX1 22 "LeggedThrough$Plan" "loads" "I", .methodLink RX4 194 yX4_staysWith, .static yX4_staysWith, .initialized RX4, .code yX4_staysWith cX4_staysWith 4 (some .boolean), .methodLink RX4 276 yX4_loss, .static yX4_loss, .code yX4_loss cX4_loss 3 (some .int)] ++ wsX40 ++ wsX10)
def wsX4_waysInTime_r1 : List Cond := [Cond.fieldLink RX4 19 "LeggedThrough" "plan" "LLeggedThrough$Plan;", Cond.fieldLink RX4 26 "LeggedThrough" "state" "LLeggedThrough$State;", Cond.methodLink RX4 92 yX2_groundAt, Cond.instanceMethod yX2_groundAt, Cond.selects RX2 yX2_groundAt yX2_groundAt, Cond.initialized RX2, Cond.code yX2_groundAt cX2_groundAt 3 (some .int), Cond.fieldLink RX2 9 "LeggedThrough$State" "grounds" "I", Cond.static yX4_groundIn, Cond.initialized RX4, Cond.code yX4_groundIn cX4_groundIn 2 (some .int), Cond.methodLink RX4 251 yX4_stepMinutes, Cond.instanceMethod yX4_stepMinutes, Cond.selects RX4 yX4_stepMinutes yX4_stepMinutes, Cond.code yX4_stepMinutes cX4_stepMinutes 6 (some .int), Cond.methodLink RX4 246 Lib.Math.max.name, Cond.static Lib.Math.max.name, Cond.initialized "java/lang/Math", Cond.code Lib.Math.max.name Lib.Math.max.code 2 (some .int), Cond.methodLink RX4 243 yX4_minutesOver, Cond.static yX4_minutesOver, Cond.code yX4_minutesOver cX4_minutesOver 1 (some .int), Cond.methodLink RX4 96 yX1_kindOf, Cond.instanceMethod yX1_kindOf]
def wsX4_waysInTime_r2 : List Cond := [Cond.selects RX1 yX1_kindOf yX1_kindOf, Cond.initialized RX1, Cond.code yX1_kindOf cX1_kindOf 2 (some .int), Cond.fieldLink RX1 19 "LeggedThrough$Plan" "kinds" "I", Cond.methodLink RX4 103 yX4_timesTired, Cond.static yX4_timesTired, Cond.code yX4_timesTired cX4_timesTired 2 (some .int), Cond.methodLink RX4 198 yX4_waysInTime, Cond.instanceMethod yX4_waysInTime, Cond.selects RX4 yX4_waysInTime yX4_waysInTime]
def wsX4_waysInTime : List Cond := .code yX4_waysInTime cX4_waysInTime 11 (some .int) :: ((wsX4_waysInTime_r1 ++ wsX4_waysInTime_r2) ++ wsX40 ++ wsX10 ++ wsX20)
def wsX4_chance_r1 : List Cond := [Cond.fieldLink RX4 19 "LeggedThrough" "plan" "LLeggedThrough$Plan;", Cond.methodLink RX4 86 yX1_hasLegger, Cond.instanceMethod yX1_hasLegger, Cond.selects RX1 yX1_hasLegger yX1_hasLegger, Cond.initialized RX1, Cond.code yX1_hasLegger cX1_hasLegger 2 (some .boolean), Cond.fieldLink RX1 13 "LeggedThrough$Plan" "leggers" "I", Cond.methodLink RX4 198 yX4_waysInTime, Cond.instanceMethod yX4_waysInTime, Cond.selects RX4 yX4_waysInTime yX4_waysInTime, Cond.initialized RX4, Cond.code yX4_waysInTime cX4_waysInTime 11 (some .int), Cond.fieldLink RX4 26 "LeggedThrough" "state" "LLeggedThrough$State;", Cond.methodLink RX4 92 yX2_groundAt, Cond.instanceMethod yX2_groundAt, Cond.selects RX2 yX2_groundAt yX2_groundAt, Cond.initialized RX2, Cond.code yX2_groundAt cX2_groundAt 3 (some .int), Cond.fieldLink RX2 9 "LeggedThrough$State" "grounds" "I", Cond.static yX4_groundIn, Cond.code yX4_groundIn cX4_groundIn 2 (some .int), Cond.methodLink RX4 251 yX4_stepMinutes, Cond.instanceMethod yX4_stepMinutes, Cond.selects RX4 yX4_stepMinutes yX4_stepMinutes]
def wsX4_chance_r2 : List Cond := [Cond.code yX4_stepMinutes cX4_stepMinutes 6 (some .int), Cond.methodLink RX4 246 Lib.Math.max.name, Cond.static Lib.Math.max.name, Cond.initialized "java/lang/Math", Cond.code Lib.Math.max.name Lib.Math.max.code 2 (some .int), Cond.methodLink RX4 243 yX4_minutesOver, Cond.static yX4_minutesOver, Cond.code yX4_minutesOver cX4_minutesOver 1 (some .int), Cond.methodLink RX4 96 yX1_kindOf, Cond.instanceMethod yX1_kindOf, Cond.selects RX1 yX1_kindOf yX1_kindOf, Cond.code yX1_kindOf cX1_kindOf 2 (some .int), Cond.fieldLink RX1 19 "LeggedThrough$Plan" "kinds" "I", Cond.methodLink RX4 103 yX4_timesTired, Cond.static yX4_timesTired, Cond.code yX4_timesTired cX4_timesTired 2 (some .int), Cond.methodLink RX4 181 yX4_fraction, Cond.static yX4_fraction, Cond.code yX4_fraction cX4_fraction 7 (some .int)]
def wsX4_chance : List Cond := .code yX4_chance cX4_chance 7 (some .int) :: ((wsX4_chance_r1 ++ wsX4_chance_r2) ++ wsX40 ++ wsX10 ++ wsX20)
def wsX4_seed : List Cond := .code yX4_seed cX4_seed 5 (some .long) :: ([.fieldLink RX4 201 "LeggedThrough" "theSeed" "J"] ++ wsX40)
def wsX4_legAll_r1 : List Cond := [Cond.fieldLink RX4 26 "LeggedThrough" "state" "LLeggedThrough$State;", Cond.constantLong RX4 160 (-9), Cond.constantLong RX4 162 (1000000000), Cond.fieldLink RX4 19 "LeggedThrough" "plan" "LLeggedThrough$Plan;", Cond.methodLink RX4 156 yX4_soonestLegs, Cond.instanceMethod yX4_soonestLegs, Cond.selects RX4 yX4_soonestLegs yX4_soonestLegs, Cond.initialized RX4, Cond.code yX4_soonestLegs cX4_soonestLegs 2 (some .long), Cond.constantLong RX4 267 (9223372036854775807), Cond.methodLink RX4 262 yX1_allBoats, Cond.instanceMethod yX1_allBoats, Cond.selects RX1 yX1_allBoats yX1_allBoats, Cond.initialized RX1, Cond.code yX1_allBoats cX1_allBoats 1 (some .int), Cond.fieldLink RX1 16 "LeggedThrough$Plan" "boats" "I", Cond.methodLink RX4 269 yX4_leastLegs, Cond.instanceMethod yX4_leastLegs, Cond.selects RX4 yX4_leastLegs yX4_leastLegs, Cond.code yX4_leastLegs cX4_leastLegs 15 (some .long), Cond.methodLink RX4 273 Lib.MathLoose.min_long.x, Cond.static Lib.MathLoose.min_long.x, Cond.initialized "java/lang/Math", Cond.code Lib.MathLoose.min_long.x Lib.MathLoose.min_long.code 4 (some .long)]
def wsX4_legAll_r2 : List Cond := [Cond.methodLink RX4 116 yX4_isIn, Cond.static yX4_isIn, Cond.code yX4_isIn cX4_isIn 2 (some .boolean), Cond.methodLink RX4 124 yX4_pairMinutes, Cond.instanceMethod yX4_pairMinutes, Cond.selects RX4 yX4_pairMinutes yX4_pairMinutes, Cond.code yX4_pairMinutes cX4_pairMinutes 12 (some .int), Cond.methodLink RX4 246 Lib.Math.max.name, Cond.static Lib.Math.max.name, Cond.code Lib.Math.max.name Lib.Math.max.code 2 (some .int), Cond.methodLink RX4 92 yX2_groundAt, Cond.instanceMethod yX2_groundAt, Cond.selects RX2 yX2_groundAt yX2_groundAt, Cond.initialized RX2, Cond.code yX2_groundAt cX2_groundAt 3 (some .int), Cond.fieldLink RX2 9 "LeggedThrough$State" "grounds" "I", Cond.static yX4_groundIn, Cond.code yX4_groundIn cX4_groundIn 2 (some .int), Cond.methodLink RX4 251 yX4_stepMinutes, Cond.instanceMethod yX4_stepMinutes, Cond.selects RX4 yX4_stepMinutes yX4_stepMinutes, Cond.code yX4_stepMinutes cX4_stepMinutes 6 (some .int), Cond.methodLink RX4 243 yX4_minutesOver, Cond.static yX4_minutesOver]
def wsX4_legAll_r3 : List Cond := [Cond.code yX4_minutesOver cX4_minutesOver 1 (some .int), Cond.methodLink RX4 96 yX1_kindOf, Cond.instanceMethod yX1_kindOf, Cond.selects RX1 yX1_kindOf yX1_kindOf, Cond.code yX1_kindOf cX1_kindOf 2 (some .int), Cond.fieldLink RX1 19 "LeggedThrough$Plan" "kinds" "I", Cond.methodLink RX4 103 yX4_timesTired, Cond.static yX4_timesTired, Cond.code yX4_timesTired cX4_timesTired 2 (some .int), Cond.methodLink RX4 255 yX4_placeBehind, Cond.static yX4_placeBehind, Cond.code yX4_placeBehind cX4_placeBehind 2 (some .int), Cond.methodLink RX4 109 yX1_loadOf, Cond.instanceMethod yX1_loadOf, Cond.selects RX1 yX1_loadOf yX1_loadOf, Cond.code yX1_loadOf cX1_loadOf 2 (some .int), Cond.fieldLink RX1 22 "LeggedThrough$Plan" "loads" "I", Cond.methodLink RX4 128 yX4_tireBoth, Cond.static yX4_tireBoth, Cond.code yX4_tireBoth cX4_tireBoth 3 (some .int), Cond.methodLink RX4 221 yX4_tireOne, Cond.static yX4_tireOne, Cond.code yX4_tireOne cX4_tireOne 2 (some .int)]
def wsX4_legAll : List Cond := .code yX4_legAll cX4_legAll 5 none :: ((wsX4_legAll_r1 ++ (wsX4_legAll_r2 ++ wsX4_legAll_r3)) ++ wsX40 ++ wsX20 ++ wsX10)
def wsX4_days_r1 : List Cond := [Cond.fieldLink RX4 26 "LeggedThrough" "state" "LLeggedThrough$State;", Cond.fieldLink RX4 41 "LeggedThrough" "aside" "[I", Cond.fieldLink RX4 201 "LeggedThrough" "theSeed" "J", Cond.constantLong RX4 209 (6364136223846793005), Cond.constantLong RX4 211 (1442695040888963407), Cond.constantLong RX4 213 (20), Cond.fieldLink RX4 19 "LeggedThrough" "plan" "LLeggedThrough$Plan;", Cond.methodLink RX4 205 yX2_storeIn, Cond.instanceMethod yX2_storeIn, Cond.selects RX2 yX2_storeIn yX2_storeIn, Cond.initialized RX2, Cond.code yX2_storeIn cX2_storeIn 4 none, Cond.fieldLink RX2 9 "LeggedThrough$State" "grounds" "I", Cond.fieldLink RX2 15 "LeggedThrough$State" "tired" "I", Cond.fieldLink RX2 18 "LeggedThrough$State" "through" "I", Cond.fieldLink RX2 21 "LeggedThrough$State" "clock" "I", Cond.methodLink RX4 89 yX4_isPlace, Cond.static yX4_isPlace, Cond.initialized RX4, Cond.code yX4_isPlace cX4_isPlace 1 (some .boolean), Cond.methodLink RX4 215 yX4_legAll, Cond.instanceMethod yX4_legAll, Cond.selects RX4 yX4_legAll yX4_legAll, Cond.code yX4_legAll cX4_legAll 5 none]
def wsX4_days_r2 : List Cond := [Cond.constantLong RX4 160 (-9), Cond.constantLong RX4 162 (1000000000), Cond.methodLink RX4 156 yX4_soonestLegs, Cond.instanceMethod yX4_soonestLegs, Cond.selects RX4 yX4_soonestLegs yX4_soonestLegs, Cond.code yX4_soonestLegs cX4_soonestLegs 2 (some .long), Cond.constantLong RX4 267 (9223372036854775807), Cond.methodLink RX4 262 yX1_allBoats, Cond.instanceMethod yX1_allBoats, Cond.selects RX1 yX1_allBoats yX1_allBoats, Cond.initialized RX1, Cond.code yX1_allBoats cX1_allBoats 1 (some .int), Cond.fieldLink RX1 16 "LeggedThrough$Plan" "boats" "I", Cond.methodLink RX4 269 yX4_leastLegs, Cond.instanceMethod yX4_leastLegs, Cond.selects RX4 yX4_leastLegs yX4_leastLegs, Cond.code yX4_leastLegs cX4_leastLegs 15 (some .long), Cond.methodLink RX4 273 Lib.MathLoose.min_long.x, Cond.static Lib.MathLoose.min_long.x, Cond.initialized "java/lang/Math", Cond.code Lib.MathLoose.min_long.x Lib.MathLoose.min_long.code 4 (some .long), Cond.methodLink RX4 116 yX4_isIn, Cond.static yX4_isIn, Cond.code yX4_isIn cX4_isIn 2 (some .boolean)]
def wsX4_days_r3 : List Cond := [Cond.methodLink RX4 124 yX4_pairMinutes, Cond.instanceMethod yX4_pairMinutes, Cond.selects RX4 yX4_pairMinutes yX4_pairMinutes, Cond.code yX4_pairMinutes cX4_pairMinutes 12 (some .int), Cond.methodLink RX4 246 Lib.Math.max.name, Cond.static Lib.Math.max.name, Cond.code Lib.Math.max.name Lib.Math.max.code 2 (some .int), Cond.methodLink RX4 92 yX2_groundAt, Cond.instanceMethod yX2_groundAt, Cond.selects RX2 yX2_groundAt yX2_groundAt, Cond.code yX2_groundAt cX2_groundAt 3 (some .int), Cond.static yX4_groundIn, Cond.code yX4_groundIn cX4_groundIn 2 (some .int), Cond.methodLink RX4 251 yX4_stepMinutes, Cond.instanceMethod yX4_stepMinutes, Cond.selects RX4 yX4_stepMinutes yX4_stepMinutes, Cond.code yX4_stepMinutes cX4_stepMinutes 6 (some .int), Cond.methodLink RX4 243 yX4_minutesOver, Cond.static yX4_minutesOver, Cond.code yX4_minutesOver cX4_minutesOver 1 (some .int), Cond.methodLink RX4 96 yX1_kindOf, Cond.instanceMethod yX1_kindOf, Cond.selects RX1 yX1_kindOf yX1_kindOf, Cond.code yX1_kindOf cX1_kindOf 2 (some .int)]
def wsX4_days_r4 : List Cond := [Cond.fieldLink RX1 19 "LeggedThrough$Plan" "kinds" "I", Cond.methodLink RX4 103 yX4_timesTired, Cond.static yX4_timesTired, Cond.code yX4_timesTired cX4_timesTired 2 (some .int), Cond.methodLink RX4 255 yX4_placeBehind, Cond.static yX4_placeBehind, Cond.code yX4_placeBehind cX4_placeBehind 2 (some .int), Cond.methodLink RX4 109 yX1_loadOf, Cond.instanceMethod yX1_loadOf, Cond.selects RX1 yX1_loadOf yX1_loadOf, Cond.code yX1_loadOf cX1_loadOf 2 (some .int), Cond.fieldLink RX1 22 "LeggedThrough$Plan" "loads" "I", Cond.methodLink RX4 128 yX4_tireBoth, Cond.static yX4_tireBoth, Cond.code yX4_tireBoth cX4_tireBoth 3 (some .int), Cond.methodLink RX4 221 yX4_tireOne, Cond.static yX4_tireOne, Cond.code yX4_tireOne cX4_tireOne 2 (some .int), Cond.methodLink RX4 86 yX1_hasLegger, Cond.instanceMethod yX1_hasLegger, Cond.selects RX1 yX1_hasLegger yX1_hasLegger, Cond.code yX1_hasLegger cX1_hasLegger 2 (some .boolean), Cond.fieldLink RX1 13 "LeggedThrough$Plan" "leggers" "I", Cond.methodLink RX4 134 yX2_cover]
def wsX4_days_r5 : List Cond := [Cond.instanceMethod yX2_cover, Cond.selects RX2 yX2_cover yX2_cover, Cond.code yX2_cover cX2_cover 5 none, Cond.methodLink RX4 218 yX2_fetchFrom, Cond.instanceMethod yX2_fetchFrom, Cond.selects RX2 yX2_fetchFrom yX2_fetchFrom, Cond.code yX2_fetchFrom cX2_fetchFrom 4 none]
def wsX4_days : List Cond := .code yX4_days cX4_days 7 (some .int) :: ((wsX4_days_r1 ++ (wsX4_days_r2 ++ (wsX4_days_r3 ++ (wsX4_days_r4 ++ wsX4_days_r5)))) ++ wsX40 ++ wsX20 ++ wsX10)
def wsX4_keep : List Cond := .code yX4_keep cX4_keep 2 (some .int) :: ([.fieldLink RX4 26 "LeggedThrough" "state" "LLeggedThrough$State;", .fieldLink RX4 37 "LeggedThrough" "slots" "[I", .fieldLink RX4 62 "LeggedThrough" "slotsKept" "I", .methodLink RX4 205 yX2_storeIn, .instanceMethod yX2_storeIn, .selects RX2 yX2_storeIn yX2_storeIn, .initialized RX2, .code yX2_storeIn cX2_storeIn 4 none, .fieldLink RX2 9 "LeggedThrough$State" "grounds" "I", .fieldLink RX2 15 "LeggedThrough$State" "tired" "I", .fieldLink RX2 18 "LeggedThrough$State" "through" "I", .fieldLink RX2 21 "LeggedThrough$State" "clock" "I"] ++ wsX40 ++ wsX20)
def wsX4_again : List Cond := .code yX4_again cX4_again 2 (some .int) :: ([.fieldLink RX4 62 "LeggedThrough" "slotsKept" "I", .fieldLink RX4 26 "LeggedThrough" "state" "LLeggedThrough$State;", .fieldLink RX4 37 "LeggedThrough" "slots" "[I", .fieldLink RX4 33 "LeggedThrough" "acts" "LLeggedThrough$Acts;", .methodLink RX4 116 yX4_isIn, .static yX4_isIn, .initialized RX4, .code yX4_isIn cX4_isIn 2 (some .boolean), .methodLink RX4 218 yX2_fetchFrom, .instanceMethod yX2_fetchFrom, .selects RX2 yX2_fetchFrom yX2_fetchFrom, .initialized RX2, .code yX2_fetchFrom cX2_fetchFrom 4 none, .fieldLink RX2 9 "LeggedThrough$State" "grounds" "I", .fieldLink RX2 15 "LeggedThrough$State" "tired" "I", .fieldLink RX2 18 "LeggedThrough$State" "through" "I", .fieldLink RX2 21 "LeggedThrough$State" "clock" "I", .methodLink RX4 59 yX0_forgetAll, .instanceMethod yX0_forgetAll, .selects RX0 yX0_forgetAll yX0_forgetAll, .initialized RX0, .code yX0_forgetAll cX0_forgetAll 1 none, .fieldLink RX0 17 "LeggedThrough$Acts" "many" "I"] ++ wsX40 ++ wsX20 ++ wsX00)
def wsX5_init : List Cond := .code yX5_init cX5_init 1 none :: ([.methodLink RX5 1 objectInit, .instanceMethod objectInit, .code objectInit ⟨#[0xb1]⟩ 1 none, .arrayClass .int, .fieldLink RX5 7 "LeggedThroughModel" "text" "[I", .fieldLink RX5 13 "LeggedThroughModel" "steps" "I", .fieldLink RX5 17 "LeggedThroughModel" "kind" "[I", .fieldLink RX5 20 "LeggedThroughModel" "load" "[I", .fieldLink RX5 23 "LeggedThroughModel" "readLegger" "[I", .fieldLink RX5 26 "LeggedThroughModel" "readBoat" "[I", .fieldLink RX5 29 "LeggedThroughModel" "page" "[I", .fieldLink RX5 32 "LeggedThroughModel" "trial" "[I", .fieldLink RX5 35 "LeggedThroughModel" "base" "[I", .fieldLink RX5 38 "LeggedThroughModel" "book" "[I", .fieldLink RX5 41 "LeggedThroughModel" "kept" "[I", .arrayClass .boolean, .fieldLink RX5 44 "LeggedThroughModel" "isKept" "[Z", .fieldLink RX5 48 "LeggedThroughModel" "seenStep" "[I", .fieldLink RX5 51 "LeggedThroughModel" "seenTime" "[I", .fieldLink RX5 54 "LeggedThroughModel" "value" "[I", .fieldLink RX5 57 "LeggedThroughModel" "pairOne" "[I", .fieldLink RX5 60 "LeggedThroughModel" "pairTwo" "[I"] ++ wsX50)
def wsX5_in : List Cond := .code yX5_in cX5_in 6 (some .boolean) :: ([])
def wsX5_has : List Cond := .code yX5_has cX5_has 2 (some .boolean) :: ([])
def wsX5_many : List Cond := .code yX5_many cX5_many 3 (some .int) :: ([])
def wsX5_noLegger : List Cond := .code yX5_noLegger cX5_noLegger 2 (some .boolean) :: ([.fieldLink RX5 66 "LeggedThroughModel" "leggers" "I", .methodLink RX5 69 yX5_in, .static yX5_in, .initialized RX5, .code yX5_in cX5_in 6 (some .boolean)] ++ wsX50)
def wsX5_noBoat : List Cond := .code yX5_noBoat cX5_noBoat 2 (some .boolean) :: ([.fieldLink RX5 73 "LeggedThroughModel" "boats" "I", .methodLink RX5 69 yX5_in, .static yX5_in, .initialized RX5, .code yX5_in cX5_in 6 (some .boolean)] ++ wsX50)
def wsX5_write : List Cond := .code yX5_write cX5_write 2 (some .int) :: ([.fieldLink RX5 63 "LeggedThroughModel" "thrown" "I", .constantLong RX5 76 (255), .fieldLink RX5 78 "LeggedThroughModel" "textSize" "I", .fieldLink RX5 7 "LeggedThroughModel" "text" "[I", .methodLink RX5 69 yX5_in, .static yX5_in, .initialized RX5, .code yX5_in cX5_in 6 (some .boolean)] ++ wsX50)
def wsX5_wipe : List Cond := .code yX5_wipe cX5_wipe 2 (some .int) :: ([.fieldLink RX5 63 "LeggedThroughModel" "thrown" "I", .fieldLink RX5 78 "LeggedThroughModel" "textSize" "I"] ++ wsX50)
def wsX5_figure : List Cond := .code yX5_figure cX5_figure 3 (some .int) :: ([.fieldLink RX5 81 "LeggedThroughModel" "place" "I", .fieldLink RX5 78 "LeggedThroughModel" "textSize" "I", .fieldLink RX5 7 "LeggedThroughModel" "text" "[I", .methodLink RX5 69 yX5_in, .static yX5_in, .initialized RX5, .code yX5_in cX5_in 6 (some .boolean)] ++ wsX50)
def wsX5_readLegger : List Cond := .code yX5_readLegger cX5_readLegger 3 (some .boolean) :: ([.fieldLink RX5 23 "LeggedThroughModel" "readLegger" "[I", .fieldLink RX5 88 "LeggedThroughModel" "readLeggers" "I", .methodLink RX5 84 yX5_figure, .instanceMethod yX5_figure, .selects RX5 yX5_figure yX5_figure, .initialized RX5, .code yX5_figure cX5_figure 3 (some .int), .fieldLink RX5 81 "LeggedThroughModel" "place" "I", .fieldLink RX5 78 "LeggedThroughModel" "textSize" "I", .fieldLink RX5 7 "LeggedThroughModel" "text" "[I", .methodLink RX5 69 yX5_in, .static yX5_in, .code yX5_in cX5_in 6 (some .boolean)] ++ wsX50)
def wsX5_readPart : List Cond := .code yX5_readPart cX5_readPart 3 (some .boolean) :: ([.fieldLink RX5 7 "LeggedThroughModel" "text" "[I", .fieldLink RX5 81 "LeggedThroughModel" "place" "I", .fieldLink RX5 88 "LeggedThroughModel" "readLeggers" "I", .fieldLink RX5 94 "LeggedThroughModel" "readBoats" "I", .fieldLink RX5 26 "LeggedThroughModel" "readBoat" "[I", .methodLink RX5 91 yX5_readLegger, .instanceMethod yX5_readLegger, .selects RX5 yX5_readLegger yX5_readLegger, .initialized RX5, .code yX5_readLegger cX5_readLegger 3 (some .boolean), .fieldLink RX5 23 "LeggedThroughModel" "readLegger" "[I", .methodLink RX5 84 yX5_figure, .instanceMethod yX5_figure, .selects RX5 yX5_figure yX5_figure, .code yX5_figure cX5_figure 3 (some .int), .fieldLink RX5 78 "LeggedThroughModel" "textSize" "I", .methodLink RX5 69 yX5_in, .static yX5_in, .code yX5_in cX5_in 6 (some .boolean)] ++ wsX50)
def wsX5_readTunnel : List Cond := .code yX5_readTunnel cX5_readTunnel 1 (some .int) :: ([.fieldLink RX5 81 "LeggedThroughModel" "place" "I", .fieldLink RX5 88 "LeggedThroughModel" "readLeggers" "I", .fieldLink RX5 94 "LeggedThroughModel" "readBoats" "I", .fieldLink RX5 78 "LeggedThroughModel" "textSize" "I", .fieldLink RX5 7 "LeggedThroughModel" "text" "[I", .fieldLink RX5 97 "LeggedThroughModel" "readSteps" "I", .methodLink RX5 84 yX5_figure, .instanceMethod yX5_figure, .selects RX5 yX5_figure yX5_figure, .initialized RX5, .code yX5_figure cX5_figure 3 (some .int), .methodLink RX5 69 yX5_in, .static yX5_in, .code yX5_in cX5_in 6 (some .boolean), .methodLink RX5 100 yX5_readPart, .instanceMethod yX5_readPart, .selects RX5 yX5_readPart yX5_readPart, .code yX5_readPart cX5_readPart 3 (some .boolean), .fieldLink RX5 26 "LeggedThroughModel" "readBoat" "[I", .methodLink RX5 91 yX5_readLegger, .instanceMethod yX5_readLegger, .selects RX5 yX5_readLegger yX5_readLegger, .code yX5_readLegger cX5_readLegger 3 (some .boolean), .fieldLink RX5 23 "LeggedThroughModel" "readLegger" "[I"] ++ wsX50)
def wsX5_fault_r1 : List Cond := [Cond.fieldLink RX5 63 "LeggedThroughModel" "thrown" "I", Cond.methodLink RX5 103 yX5_readTunnel, Cond.instanceMethod yX5_readTunnel, Cond.selects RX5 yX5_readTunnel yX5_readTunnel, Cond.initialized RX5, Cond.code yX5_readTunnel cX5_readTunnel 1 (some .int), Cond.fieldLink RX5 81 "LeggedThroughModel" "place" "I", Cond.fieldLink RX5 88 "LeggedThroughModel" "readLeggers" "I", Cond.fieldLink RX5 94 "LeggedThroughModel" "readBoats" "I", Cond.fieldLink RX5 78 "LeggedThroughModel" "textSize" "I", Cond.fieldLink RX5 7 "LeggedThroughModel" "text" "[I", Cond.fieldLink RX5 97 "LeggedThroughModel" "readSteps" "I", Cond.methodLink RX5 84 yX5_figure, Cond.instanceMethod yX5_figure, Cond.selects RX5 yX5_figure yX5_figure, Cond.code yX5_figure cX5_figure 3 (some .int), Cond.methodLink RX5 69 yX5_in, Cond.static yX5_in, Cond.code yX5_in cX5_in 6 (some .boolean), Cond.methodLink RX5 100 yX5_readPart, Cond.instanceMethod yX5_readPart, Cond.selects RX5 yX5_readPart yX5_readPart, Cond.code yX5_readPart cX5_readPart 3 (some .boolean), Cond.fieldLink RX5 26 "LeggedThroughModel" "readBoat" "[I"]
def wsX5_fault_r2 : List Cond := [Cond.methodLink RX5 91 yX5_readLegger, Cond.instanceMethod yX5_readLegger, Cond.selects RX5 yX5_readLegger yX5_readLegger, Cond.code yX5_readLegger cX5_readLegger 3 (some .boolean), Cond.fieldLink RX5 23 "LeggedThroughModel" "readLegger" "[I"]
def wsX5_fault : List Cond := .code yX5_fault cX5_fault 1 (some .int) :: ((wsX5_fault_r1 ++ wsX5_fault_r2) ++ wsX50)
def wsX5_tunnel_r1 : List Cond := [Cond.fieldLink RX5 63 "LeggedThroughModel" "thrown" "I", Cond.fieldLink RX5 97 "LeggedThroughModel" "readSteps" "I", Cond.fieldLink RX5 13 "LeggedThroughModel" "steps" "I", Cond.fieldLink RX5 88 "LeggedThroughModel" "readLeggers" "I", Cond.fieldLink RX5 66 "LeggedThroughModel" "leggers" "I", Cond.fieldLink RX5 94 "LeggedThroughModel" "readBoats" "I", Cond.fieldLink RX5 73 "LeggedThroughModel" "boats" "I", Cond.fieldLink RX5 29 "LeggedThroughModel" "page" "[I", Cond.fieldLink RX5 17 "LeggedThroughModel" "kind" "[I", Cond.fieldLink RX5 23 "LeggedThroughModel" "readLegger" "[I", Cond.fieldLink RX5 20 "LeggedThroughModel" "load" "[I", Cond.fieldLink RX5 26 "LeggedThroughModel" "readBoat" "[I", Cond.fieldLink RX5 107 "LeggedThroughModel" "acts" "I", Cond.fieldLink RX5 44 "LeggedThroughModel" "isKept" "[Z", Cond.methodLink RX5 103 yX5_readTunnel, Cond.instanceMethod yX5_readTunnel, Cond.selects RX5 yX5_readTunnel yX5_readTunnel, Cond.initialized RX5, Cond.code yX5_readTunnel cX5_readTunnel 1 (some .int), Cond.fieldLink RX5 81 "LeggedThroughModel" "place" "I", Cond.fieldLink RX5 78 "LeggedThroughModel" "textSize" "I", Cond.fieldLink RX5 7 "LeggedThroughModel" "text" "[I", Cond.methodLink RX5 84 yX5_figure, Cond.instanceMethod yX5_figure]
def wsX5_tunnel_r2 : List Cond := [Cond.selects RX5 yX5_figure yX5_figure, Cond.code yX5_figure cX5_figure 3 (some .int), Cond.methodLink RX5 69 yX5_in, Cond.static yX5_in, Cond.code yX5_in cX5_in 6 (some .boolean), Cond.methodLink RX5 100 yX5_readPart, Cond.instanceMethod yX5_readPart, Cond.selects RX5 yX5_readPart yX5_readPart, Cond.code yX5_readPart cX5_readPart 3 (some .boolean), Cond.methodLink RX5 91 yX5_readLegger, Cond.instanceMethod yX5_readLegger, Cond.selects RX5 yX5_readLegger yX5_readLegger, Cond.code yX5_readLegger cX5_readLegger 3 (some .boolean)]
def wsX5_tunnel : List Cond := .code yX5_tunnel cX5_tunnel 3 (some .int) :: ((wsX5_tunnel_r1 ++ wsX5_tunnel_r2) ++ wsX50)
def wsX5_minutes : List Cond := .code yX5_minutes cX5_minutes 1 (some .int) :: ([])
def wsX5_takes : List Cond := .code yX5_takes cX5_takes 6 (some .int) :: ([.fieldLink RX5 17 "LeggedThroughModel" "kind" "[I", .fieldLink RX5 13 "LeggedThroughModel" "steps" "I", .methodLink RX5 110 yX5_minutes, .static yX5_minutes, .initialized RX5, .code yX5_minutes cX5_minutes 1 (some .int)] ++ wsX50)
def wsX5_next : List Cond := .code yX5_next cX5_next 2 (some .int) :: ([])
def wsX5_timeOf : List Cond := .code yX5_timeOf cX5_timeOf 14 (some .int) :: ([.fieldLink RX5 13 "LeggedThroughModel" "steps" "I", .methodLink RX5 114 yX5_takes, .instanceMethod yX5_takes, .selects RX5 yX5_takes yX5_takes, .initialized RX5, .code yX5_takes cX5_takes 6 (some .int), .fieldLink RX5 17 "LeggedThroughModel" "kind" "[I", .methodLink RX5 110 yX5_minutes, .static yX5_minutes, .code yX5_minutes cX5_minutes 1 (some .int), .methodLink RX5 118 yX5_next, .static yX5_next, .code yX5_next cX5_next 2 (some .int)] ++ wsX50)
def wsX5_about : List Cond := .code yX5_about cX5_about 2 (some .int) :: ([.fieldLink RX5 63 "LeggedThroughModel" "thrown" "I", .fieldLink RX5 13 "LeggedThroughModel" "steps" "I", .fieldLink RX5 66 "LeggedThroughModel" "leggers" "I", .fieldLink RX5 73 "LeggedThroughModel" "boats" "I", .fieldLink RX5 29 "LeggedThroughModel" "page" "[I", .fieldLink RX5 107 "LeggedThroughModel" "acts" "I", .fieldLink RX5 121 "LeggedThroughModel" "seen" "I", .fieldLink RX5 78 "LeggedThroughModel" "textSize" "I"] ++ wsX50)
def wsX5_legger : List Cond := .code yX5_legger cX5_legger 3 (some .int) :: ([.fieldLink RX5 63 "LeggedThroughModel" "thrown" "I", .constantLong RX5 128 (3), .fieldLink RX5 29 "LeggedThroughModel" "page" "[I", .fieldLink RX5 17 "LeggedThroughModel" "kind" "[I", .methodLink RX5 124 yX5_noLegger, .instanceMethod yX5_noLegger, .selects RX5 yX5_noLegger yX5_noLegger, .initialized RX5, .code yX5_noLegger cX5_noLegger 2 (some .boolean), .fieldLink RX5 66 "LeggedThroughModel" "leggers" "I", .methodLink RX5 69 yX5_in, .static yX5_in, .code yX5_in cX5_in 6 (some .boolean)] ++ wsX50)
def wsX5_load : List Cond := .code yX5_load cX5_load 2 (some .int) :: ([.fieldLink RX5 63 "LeggedThroughModel" "thrown" "I", .fieldLink RX5 20 "LeggedThroughModel" "load" "[I", .methodLink RX5 130 yX5_noBoat, .instanceMethod yX5_noBoat, .selects RX5 yX5_noBoat yX5_noBoat, .initialized RX5, .code yX5_noBoat cX5_noBoat 2 (some .boolean), .fieldLink RX5 73 "LeggedThroughModel" "boats" "I", .methodLink RX5 69 yX5_in, .static yX5_in, .code yX5_in cX5_in 6 (some .boolean)] ++ wsX50)
def wsX5_note : List Cond := .code yX5_note cX5_note 2 none :: ([.fieldLink RX5 107 "LeggedThroughModel" "acts" "I", .fieldLink RX5 38 "LeggedThroughModel" "book" "[I", .fieldLink RX5 29 "LeggedThroughModel" "page" "[I"] ++ wsX50)
def wsX5_goLeg : List Cond := .code yX5_goLeg cX5_goLeg 5 none :: ([.fieldLink RX5 20 "LeggedThroughModel" "load" "[I", .methodLink RX5 133 yX5_timeOf, .instanceMethod yX5_timeOf, .selects RX5 yX5_timeOf yX5_timeOf, .initialized RX5, .code yX5_timeOf cX5_timeOf 14 (some .int), .fieldLink RX5 13 "LeggedThroughModel" "steps" "I", .methodLink RX5 114 yX5_takes, .instanceMethod yX5_takes, .selects RX5 yX5_takes yX5_takes, .code yX5_takes cX5_takes 6 (some .int), .fieldLink RX5 17 "LeggedThroughModel" "kind" "[I", .methodLink RX5 110 yX5_minutes, .static yX5_minutes, .code yX5_minutes cX5_minutes 1 (some .int), .methodLink RX5 118 yX5_next, .static yX5_next, .code yX5_next cX5_next 2 (some .int)] ++ wsX50)
def wsX5_noPair : List Cond := .code yX5_noPair cX5_noPair 4 (some .int) :: ([.methodLink RX5 130 yX5_noBoat, .instanceMethod yX5_noBoat, .selects RX5 yX5_noBoat yX5_noBoat, .initialized RX5, .code yX5_noBoat cX5_noBoat 2 (some .boolean), .fieldLink RX5 73 "LeggedThroughModel" "boats" "I", .methodLink RX5 69 yX5_in, .static yX5_in, .code yX5_in cX5_in 6 (some .boolean), .methodLink RX5 124 yX5_noLegger, .instanceMethod yX5_noLegger, .selects RX5 yX5_noLegger yX5_noLegger, .code yX5_noLegger cX5_noLegger 2 (some .boolean), .fieldLink RX5 66 "LeggedThroughModel" "leggers" "I"] ++ wsX50)
def wsX5_leg_r1 : List Cond := [Cond.fieldLink RX5 63 "LeggedThroughModel" "thrown" "I", Cond.fieldLink RX5 29 "LeggedThroughModel" "page" "[I", Cond.methodLink RX5 137 yX5_noPair, Cond.instanceMethod yX5_noPair, Cond.selects RX5 yX5_noPair yX5_noPair, Cond.initialized RX5, Cond.code yX5_noPair cX5_noPair 4 (some .int), Cond.methodLink RX5 130 yX5_noBoat, Cond.instanceMethod yX5_noBoat, Cond.selects RX5 yX5_noBoat yX5_noBoat, Cond.code yX5_noBoat cX5_noBoat 2 (some .boolean), Cond.fieldLink RX5 73 "LeggedThroughModel" "boats" "I", Cond.methodLink RX5 69 yX5_in, Cond.static yX5_in, Cond.code yX5_in cX5_in 6 (some .boolean), Cond.methodLink RX5 124 yX5_noLegger, Cond.instanceMethod yX5_noLegger, Cond.selects RX5 yX5_noLegger yX5_noLegger, Cond.code yX5_noLegger cX5_noLegger 2 (some .boolean), Cond.fieldLink RX5 66 "LeggedThroughModel" "leggers" "I", Cond.methodLink RX5 141 yX5_has, Cond.static yX5_has, Cond.code yX5_has cX5_has 2 (some .boolean), Cond.methodLink RX5 145 yX5_note]
def wsX5_leg_r2 : List Cond := [Cond.instanceMethod yX5_note, Cond.selects RX5 yX5_note yX5_note, Cond.code yX5_note cX5_note 2 none, Cond.fieldLink RX5 107 "LeggedThroughModel" "acts" "I", Cond.fieldLink RX5 38 "LeggedThroughModel" "book" "[I", Cond.methodLink RX5 148 yX5_goLeg, Cond.instanceMethod yX5_goLeg, Cond.selects RX5 yX5_goLeg yX5_goLeg, Cond.code yX5_goLeg cX5_goLeg 5 none, Cond.fieldLink RX5 20 "LeggedThroughModel" "load" "[I", Cond.methodLink RX5 133 yX5_timeOf, Cond.instanceMethod yX5_timeOf, Cond.selects RX5 yX5_timeOf yX5_timeOf, Cond.code yX5_timeOf cX5_timeOf 14 (some .int), Cond.fieldLink RX5 13 "LeggedThroughModel" "steps" "I", Cond.methodLink RX5 114 yX5_takes, Cond.instanceMethod yX5_takes, Cond.selects RX5 yX5_takes yX5_takes, Cond.code yX5_takes cX5_takes 6 (some .int), Cond.fieldLink RX5 17 "LeggedThroughModel" "kind" "[I", Cond.methodLink RX5 110 yX5_minutes, Cond.static yX5_minutes, Cond.code yX5_minutes cX5_minutes 1 (some .int), Cond.methodLink RX5 118 yX5_next]
def wsX5_leg_r3 : List Cond := [Cond.static yX5_next, Cond.code yX5_next cX5_next 2 (some .int)]
def wsX5_leg : List Cond := .code yX5_leg cX5_leg 5 (some .int) :: ((wsX5_leg_r1 ++ (wsX5_leg_r2 ++ wsX5_leg_r3)) ++ wsX50)
def wsX5_rest : List Cond := .code yX5_rest cX5_rest 2 (some .int) :: ([.fieldLink RX5 63 "LeggedThroughModel" "thrown" "I", .fieldLink RX5 29 "LeggedThroughModel" "page" "[I", .methodLink RX5 124 yX5_noLegger, .instanceMethod yX5_noLegger, .selects RX5 yX5_noLegger yX5_noLegger, .initialized RX5, .code yX5_noLegger cX5_noLegger 2 (some .boolean), .fieldLink RX5 66 "LeggedThroughModel" "leggers" "I", .methodLink RX5 69 yX5_in, .static yX5_in, .code yX5_in cX5_in 6 (some .boolean), .methodLink RX5 145 yX5_note, .instanceMethod yX5_note, .selects RX5 yX5_note yX5_note, .code yX5_note cX5_note 2 none, .fieldLink RX5 107 "LeggedThroughModel" "acts" "I", .fieldLink RX5 38 "LeggedThroughModel" "book" "[I"] ++ wsX50)
def wsX5_wet : List Cond := .code yX5_wet cX5_wet 4 (some .int) :: ([.fieldLink RX5 63 "LeggedThroughModel" "thrown" "I", .constantLong RX5 128 (3), .fieldLink RX5 29 "LeggedThroughModel" "page" "[I", .methodLink RX5 124 yX5_noLegger, .instanceMethod yX5_noLegger, .selects RX5 yX5_noLegger yX5_noLegger, .initialized RX5, .code yX5_noLegger cX5_noLegger 2 (some .boolean), .fieldLink RX5 66 "LeggedThroughModel" "leggers" "I", .methodLink RX5 69 yX5_in, .static yX5_in, .code yX5_in cX5_in 6 (some .boolean), .methodLink RX5 145 yX5_note, .instanceMethod yX5_note, .selects RX5 yX5_note yX5_note, .code yX5_note cX5_note 2 none, .fieldLink RX5 107 "LeggedThroughModel" "acts" "I", .fieldLink RX5 38 "LeggedThroughModel" "book" "[I"] ++ wsX50)
def wsX5_dry : List Cond := .code yX5_dry cX5_dry 5 (some .int) :: ([.fieldLink RX5 63 "LeggedThroughModel" "thrown" "I", .constantLong RX5 128 (3), .fieldLink RX5 29 "LeggedThroughModel" "page" "[I", .methodLink RX5 124 yX5_noLegger, .instanceMethod yX5_noLegger, .selects RX5 yX5_noLegger yX5_noLegger, .initialized RX5, .code yX5_noLegger cX5_noLegger 2 (some .boolean), .fieldLink RX5 66 "LeggedThroughModel" "leggers" "I", .methodLink RX5 69 yX5_in, .static yX5_in, .code yX5_in cX5_in 6 (some .boolean), .methodLink RX5 145 yX5_note, .instanceMethod yX5_note, .selects RX5 yX5_note yX5_note, .code yX5_note cX5_note 2 none, .fieldLink RX5 107 "LeggedThroughModel" "acts" "I", .fieldLink RX5 38 "LeggedThroughModel" "book" "[I"] ++ wsX50)
def wsX5_undo : List Cond := .code yX5_undo cX5_undo 2 (some .int) :: ([.fieldLink RX5 63 "LeggedThroughModel" "thrown" "I", .fieldLink RX5 107 "LeggedThroughModel" "acts" "I", .fieldLink RX5 29 "LeggedThroughModel" "page" "[I", .fieldLink RX5 38 "LeggedThroughModel" "book" "[I"] ++ wsX50)
def wsX5_copy : List Cond := .code yX5_copy cX5_copy 3 none :: ([])
def wsX5_alone : List Cond := .code yX5_alone cX5_alone 6 (some .int) :: ([.fieldLink RX5 63 "LeggedThroughModel" "thrown" "I", .constantLong RX5 128 (3), .fieldLink RX5 13 "LeggedThroughModel" "steps" "I", .fieldLink RX5 29 "LeggedThroughModel" "page" "[I", .methodLink RX5 124 yX5_noLegger, .instanceMethod yX5_noLegger, .selects RX5 yX5_noLegger yX5_noLegger, .initialized RX5, .code yX5_noLegger cX5_noLegger 2 (some .boolean), .fieldLink RX5 66 "LeggedThroughModel" "leggers" "I", .methodLink RX5 69 yX5_in, .static yX5_in, .code yX5_in cX5_in 6 (some .boolean), .methodLink RX5 114 yX5_takes, .instanceMethod yX5_takes, .selects RX5 yX5_takes yX5_takes, .code yX5_takes cX5_takes 6 (some .int), .fieldLink RX5 17 "LeggedThroughModel" "kind" "[I", .methodLink RX5 110 yX5_minutes, .static yX5_minutes, .code yX5_minutes cX5_minutes 1 (some .int), .methodLink RX5 118 yX5_next, .static yX5_next, .code yX5_next cX5_next 2 (some .int)] ++ wsX50)
def wsX5_time_r1 : List Cond := [Cond.fieldLink RX5 63 "LeggedThroughModel" "thrown" "I", Cond.constantLong RX5 128 (3), Cond.fieldLink RX5 29 "LeggedThroughModel" "page" "[I", Cond.fieldLink RX5 20 "LeggedThroughModel" "load" "[I", Cond.methodLink RX5 137 yX5_noPair, Cond.instanceMethod yX5_noPair, Cond.selects RX5 yX5_noPair yX5_noPair, Cond.initialized RX5, Cond.code yX5_noPair cX5_noPair 4 (some .int), Cond.methodLink RX5 130 yX5_noBoat, Cond.instanceMethod yX5_noBoat, Cond.selects RX5 yX5_noBoat yX5_noBoat, Cond.code yX5_noBoat cX5_noBoat 2 (some .boolean), Cond.fieldLink RX5 73 "LeggedThroughModel" "boats" "I", Cond.methodLink RX5 69 yX5_in, Cond.static yX5_in, Cond.code yX5_in cX5_in 6 (some .boolean), Cond.methodLink RX5 124 yX5_noLegger, Cond.instanceMethod yX5_noLegger, Cond.selects RX5 yX5_noLegger yX5_noLegger, Cond.code yX5_noLegger cX5_noLegger 2 (some .boolean), Cond.fieldLink RX5 66 "LeggedThroughModel" "leggers" "I", Cond.methodLink RX5 133 yX5_timeOf, Cond.instanceMethod yX5_timeOf]
def wsX5_time_r2 : List Cond := [Cond.selects RX5 yX5_timeOf yX5_timeOf, Cond.code yX5_timeOf cX5_timeOf 14 (some .int), Cond.fieldLink RX5 13 "LeggedThroughModel" "steps" "I", Cond.methodLink RX5 114 yX5_takes, Cond.instanceMethod yX5_takes, Cond.selects RX5 yX5_takes yX5_takes, Cond.code yX5_takes cX5_takes 6 (some .int), Cond.fieldLink RX5 17 "LeggedThroughModel" "kind" "[I", Cond.methodLink RX5 110 yX5_minutes, Cond.static yX5_minutes, Cond.code yX5_minutes cX5_minutes 1 (some .int), Cond.methodLink RX5 118 yX5_next, Cond.static yX5_next, Cond.code yX5_next cX5_next 2 (some .int)]
def wsX5_time : List Cond := .code yX5_time cX5_time 7 (some .int) :: ((wsX5_time_r1 ++ wsX5_time_r2) ++ wsX50)
def wsX5_findBest_r1 : List Cond := [Cond.fieldLink RX5 152 "LeggedThroughModel" "bestPair" "I", Cond.fieldLink RX5 155 "LeggedThroughModel" "bestTime" "I", Cond.fieldLink RX5 66 "LeggedThroughModel" "leggers" "I", Cond.fieldLink RX5 29 "LeggedThroughModel" "page" "[I", Cond.fieldLink RX5 20 "LeggedThroughModel" "load" "[I", Cond.methodLink RX5 133 yX5_timeOf, Cond.instanceMethod yX5_timeOf, Cond.selects RX5 yX5_timeOf yX5_timeOf, Cond.initialized RX5, Cond.code yX5_timeOf cX5_timeOf 14 (some .int), Cond.fieldLink RX5 13 "LeggedThroughModel" "steps" "I", Cond.methodLink RX5 114 yX5_takes, Cond.instanceMethod yX5_takes, Cond.selects RX5 yX5_takes yX5_takes, Cond.code yX5_takes cX5_takes 6 (some .int), Cond.fieldLink RX5 17 "LeggedThroughModel" "kind" "[I", Cond.methodLink RX5 110 yX5_minutes, Cond.static yX5_minutes, Cond.code yX5_minutes cX5_minutes 1 (some .int), Cond.methodLink RX5 118 yX5_next, Cond.static yX5_next, Cond.code yX5_next cX5_next 2 (some .int), Cond.methodLink RX5 141 yX5_has, Cond.static yX5_has]
def wsX5_findBest_r2 : List Cond := [Cond.code yX5_has cX5_has 2 (some .boolean)]
def wsX5_findBest : List Cond := .code yX5_findBest cX5_findBest 6 none :: ((wsX5_findBest_r1 ++ wsX5_findBest_r2) ++ wsX50)
def wsX5_best_r1 : List Cond := [Cond.fieldLink RX5 63 "LeggedThroughModel" "thrown" "I", Cond.fieldLink RX5 152 "LeggedThroughModel" "bestPair" "I", Cond.fieldLink RX5 155 "LeggedThroughModel" "bestTime" "I", Cond.methodLink RX5 130 yX5_noBoat, Cond.instanceMethod yX5_noBoat, Cond.selects RX5 yX5_noBoat yX5_noBoat, Cond.initialized RX5, Cond.code yX5_noBoat cX5_noBoat 2 (some .boolean), Cond.fieldLink RX5 73 "LeggedThroughModel" "boats" "I", Cond.methodLink RX5 69 yX5_in, Cond.static yX5_in, Cond.code yX5_in cX5_in 6 (some .boolean), Cond.methodLink RX5 158 yX5_findBest, Cond.instanceMethod yX5_findBest, Cond.selects RX5 yX5_findBest yX5_findBest, Cond.code yX5_findBest cX5_findBest 6 none, Cond.fieldLink RX5 66 "LeggedThroughModel" "leggers" "I", Cond.fieldLink RX5 29 "LeggedThroughModel" "page" "[I", Cond.fieldLink RX5 20 "LeggedThroughModel" "load" "[I", Cond.methodLink RX5 133 yX5_timeOf, Cond.instanceMethod yX5_timeOf, Cond.selects RX5 yX5_timeOf yX5_timeOf, Cond.code yX5_timeOf cX5_timeOf 14 (some .int), Cond.fieldLink RX5 13 "LeggedThroughModel" "steps" "I"]
def wsX5_best_r2 : List Cond := [Cond.methodLink RX5 114 yX5_takes, Cond.instanceMethod yX5_takes, Cond.selects RX5 yX5_takes yX5_takes, Cond.code yX5_takes cX5_takes 6 (some .int), Cond.fieldLink RX5 17 "LeggedThroughModel" "kind" "[I", Cond.methodLink RX5 110 yX5_minutes, Cond.static yX5_minutes, Cond.code yX5_minutes cX5_minutes 1 (some .int), Cond.methodLink RX5 118 yX5_next, Cond.static yX5_next, Cond.code yX5_next cX5_next 2 (some .int), Cond.methodLink RX5 141 yX5_has, Cond.static yX5_has, Cond.code yX5_has cX5_has 2 (some .boolean)]
def wsX5_best : List Cond := .code yX5_best cX5_best 3 (some .int) :: ((wsX5_best_r1 ++ wsX5_best_r2) ++ wsX50)
def wsX5_findBegin : List Cond := .code yX5_findBegin cX5_findBegin 6 none :: ([.fieldLink RX5 162 "LeggedThroughModel" "beginAt" "I", .fieldLink RX5 165 "LeggedThroughModel" "beginTime" "I", .fieldLink RX5 29 "LeggedThroughModel" "page" "[I", .fieldLink RX5 20 "LeggedThroughModel" "load" "[I", .methodLink RX5 133 yX5_timeOf, .instanceMethod yX5_timeOf, .selects RX5 yX5_timeOf yX5_timeOf, .initialized RX5, .code yX5_timeOf cX5_timeOf 14 (some .int), .fieldLink RX5 13 "LeggedThroughModel" "steps" "I", .methodLink RX5 114 yX5_takes, .instanceMethod yX5_takes, .selects RX5 yX5_takes yX5_takes, .code yX5_takes cX5_takes 6 (some .int), .fieldLink RX5 17 "LeggedThroughModel" "kind" "[I", .methodLink RX5 110 yX5_minutes, .static yX5_minutes, .code yX5_minutes cX5_minutes 1 (some .int), .methodLink RX5 118 yX5_next, .static yX5_next, .code yX5_next cX5_next 2 (some .int)] ++ wsX50)
def wsX5_begin_r1 : List Cond := [Cond.fieldLink RX5 63 "LeggedThroughModel" "thrown" "I", Cond.fieldLink RX5 162 "LeggedThroughModel" "beginAt" "I", Cond.fieldLink RX5 165 "LeggedThroughModel" "beginTime" "I", Cond.methodLink RX5 137 yX5_noPair, Cond.instanceMethod yX5_noPair, Cond.selects RX5 yX5_noPair yX5_noPair, Cond.initialized RX5, Cond.code yX5_noPair cX5_noPair 4 (some .int), Cond.methodLink RX5 130 yX5_noBoat, Cond.instanceMethod yX5_noBoat, Cond.selects RX5 yX5_noBoat yX5_noBoat, Cond.code yX5_noBoat cX5_noBoat 2 (some .boolean), Cond.fieldLink RX5 73 "LeggedThroughModel" "boats" "I", Cond.methodLink RX5 69 yX5_in, Cond.static yX5_in, Cond.code yX5_in cX5_in 6 (some .boolean), Cond.methodLink RX5 124 yX5_noLegger, Cond.instanceMethod yX5_noLegger, Cond.selects RX5 yX5_noLegger yX5_noLegger, Cond.code yX5_noLegger cX5_noLegger 2 (some .boolean), Cond.fieldLink RX5 66 "LeggedThroughModel" "leggers" "I", Cond.methodLink RX5 168 yX5_findBegin, Cond.instanceMethod yX5_findBegin, Cond.selects RX5 yX5_findBegin yX5_findBegin]
def wsX5_begin_r2 : List Cond := [Cond.code yX5_findBegin cX5_findBegin 6 none, Cond.fieldLink RX5 29 "LeggedThroughModel" "page" "[I", Cond.fieldLink RX5 20 "LeggedThroughModel" "load" "[I", Cond.methodLink RX5 133 yX5_timeOf, Cond.instanceMethod yX5_timeOf, Cond.selects RX5 yX5_timeOf yX5_timeOf, Cond.code yX5_timeOf cX5_timeOf 14 (some .int), Cond.fieldLink RX5 13 "LeggedThroughModel" "steps" "I", Cond.methodLink RX5 114 yX5_takes, Cond.instanceMethod yX5_takes, Cond.selects RX5 yX5_takes yX5_takes, Cond.code yX5_takes cX5_takes 6 (some .int), Cond.fieldLink RX5 17 "LeggedThroughModel" "kind" "[I", Cond.methodLink RX5 110 yX5_minutes, Cond.static yX5_minutes, Cond.code yX5_minutes cX5_minutes 1 (some .int), Cond.methodLink RX5 118 yX5_next, Cond.static yX5_next, Cond.code yX5_next cX5_next 2 (some .int)]
def wsX5_begin : List Cond := .code yX5_begin cX5_begin 6 (some .int) :: ((wsX5_begin_r1 ++ wsX5_begin_r2) ++ wsX50)
def wsX5_power : List Cond := .code yX5_power cX5_power 4 (some .int) :: ([])
def wsX5_layPairs : List Cond := .code yX5_layPairs cX5_layPairs 3 none :: ([.fieldLink RX5 172 "LeggedThroughModel" "pairs" "I", .fieldLink RX5 66 "LeggedThroughModel" "leggers" "I", .fieldLink RX5 57 "LeggedThroughModel" "pairOne" "[I", .fieldLink RX5 60 "LeggedThroughModel" "pairTwo" "[I"] ++ wsX50)
def wsX5_findSoonest_r1 : List Cond := [Cond.fieldLink RX5 73 "LeggedThroughModel" "boats" "I", Cond.fieldLink RX5 35 "LeggedThroughModel" "base" "[I", Cond.fieldLink RX5 172 "LeggedThroughModel" "pairs" "I", Cond.fieldLink RX5 181 "LeggedThroughModel" "soonTime" "I", Cond.fieldLink RX5 184 "LeggedThroughModel" "soonRow" "I", Cond.fieldLink RX5 32 "LeggedThroughModel" "trial" "[I", Cond.fieldLink RX5 57 "LeggedThroughModel" "pairOne" "[I", Cond.fieldLink RX5 60 "LeggedThroughModel" "pairTwo" "[I", Cond.methodLink RX5 175 yX5_layPairs, Cond.instanceMethod yX5_layPairs, Cond.selects RX5 yX5_layPairs yX5_layPairs, Cond.initialized RX5, Cond.code yX5_layPairs cX5_layPairs 3 none, Cond.fieldLink RX5 66 "LeggedThroughModel" "leggers" "I", Cond.methodLink RX5 178 yX5_many, Cond.static yX5_many, Cond.code yX5_many cX5_many 3 (some .int), Cond.methodLink RX5 187 yX5_power, Cond.static yX5_power, Cond.code yX5_power cX5_power 4 (some .int), Cond.methodLink RX5 190 yX5_copy, Cond.static yX5_copy, Cond.code yX5_copy cX5_copy 3 none, Cond.methodLink RX5 141 yX5_has]
def wsX5_findSoonest_r2 : List Cond := [Cond.static yX5_has, Cond.code yX5_has cX5_has 2 (some .boolean), Cond.methodLink RX5 148 yX5_goLeg, Cond.instanceMethod yX5_goLeg, Cond.selects RX5 yX5_goLeg yX5_goLeg, Cond.code yX5_goLeg cX5_goLeg 5 none, Cond.fieldLink RX5 20 "LeggedThroughModel" "load" "[I", Cond.methodLink RX5 133 yX5_timeOf, Cond.instanceMethod yX5_timeOf, Cond.selects RX5 yX5_timeOf yX5_timeOf, Cond.code yX5_timeOf cX5_timeOf 14 (some .int), Cond.fieldLink RX5 13 "LeggedThroughModel" "steps" "I", Cond.methodLink RX5 114 yX5_takes, Cond.instanceMethod yX5_takes, Cond.selects RX5 yX5_takes yX5_takes, Cond.code yX5_takes cX5_takes 6 (some .int), Cond.fieldLink RX5 17 "LeggedThroughModel" "kind" "[I", Cond.methodLink RX5 110 yX5_minutes, Cond.static yX5_minutes, Cond.code yX5_minutes cX5_minutes 1 (some .int), Cond.methodLink RX5 118 yX5_next, Cond.static yX5_next, Cond.code yX5_next cX5_next 2 (some .int)]
def wsX5_findSoonest : List Cond := .code yX5_findSoonest cX5_findSoonest 11 none :: ((wsX5_findSoonest_r1 ++ wsX5_findSoonest_r2) ++ wsX50)
def wsX5_soonest_r1 : List Cond := [Cond.fieldLink RX5 63 "LeggedThroughModel" "thrown" "I", Cond.fieldLink RX5 29 "LeggedThroughModel" "page" "[I", Cond.fieldLink RX5 35 "LeggedThroughModel" "base" "[I", Cond.fieldLink RX5 184 "LeggedThroughModel" "soonRow" "I", Cond.fieldLink RX5 181 "LeggedThroughModel" "soonTime" "I", Cond.methodLink RX5 190 yX5_copy, Cond.static yX5_copy, Cond.initialized RX5, Cond.code yX5_copy cX5_copy 3 none, Cond.methodLink RX5 194 yX5_findSoonest, Cond.instanceMethod yX5_findSoonest, Cond.selects RX5 yX5_findSoonest yX5_findSoonest, Cond.code yX5_findSoonest cX5_findSoonest 11 none, Cond.fieldLink RX5 73 "LeggedThroughModel" "boats" "I", Cond.fieldLink RX5 172 "LeggedThroughModel" "pairs" "I", Cond.fieldLink RX5 32 "LeggedThroughModel" "trial" "[I", Cond.fieldLink RX5 57 "LeggedThroughModel" "pairOne" "[I", Cond.fieldLink RX5 60 "LeggedThroughModel" "pairTwo" "[I", Cond.methodLink RX5 175 yX5_layPairs, Cond.instanceMethod yX5_layPairs, Cond.selects RX5 yX5_layPairs yX5_layPairs, Cond.code yX5_layPairs cX5_layPairs 3 none, Cond.fieldLink RX5 66 "LeggedThroughModel" "leggers" "I", Cond.methodLink RX5 178 yX5_many]
def wsX5_soonest_r2 : List Cond := [Cond.static yX5_many, Cond.code yX5_many cX5_many 3 (some .int), Cond.methodLink RX5 187 yX5_power, Cond.static yX5_power, Cond.code yX5_power cX5_power 4 (some .int), Cond.methodLink RX5 141 yX5_has, Cond.static yX5_has, Cond.code yX5_has cX5_has 2 (some .boolean), Cond.methodLink RX5 148 yX5_goLeg, Cond.instanceMethod yX5_goLeg, Cond.selects RX5 yX5_goLeg yX5_goLeg, Cond.code yX5_goLeg cX5_goLeg 5 none, Cond.fieldLink RX5 20 "LeggedThroughModel" "load" "[I", Cond.methodLink RX5 133 yX5_timeOf, Cond.instanceMethod yX5_timeOf, Cond.selects RX5 yX5_timeOf yX5_timeOf, Cond.code yX5_timeOf cX5_timeOf 14 (some .int), Cond.fieldLink RX5 13 "LeggedThroughModel" "steps" "I", Cond.methodLink RX5 114 yX5_takes, Cond.instanceMethod yX5_takes, Cond.selects RX5 yX5_takes yX5_takes, Cond.code yX5_takes cX5_takes 6 (some .int), Cond.fieldLink RX5 17 "LeggedThroughModel" "kind" "[I", Cond.methodLink RX5 110 yX5_minutes]
def wsX5_soonest_r3 : List Cond := [Cond.static yX5_minutes, Cond.code yX5_minutes cX5_minutes 1 (some .int), Cond.methodLink RX5 118 yX5_next, Cond.static yX5_next, Cond.code yX5_next cX5_next 2 (some .int)]
def wsX5_soonest : List Cond := .code yX5_soonest cX5_soonest 2 (some .int) :: ((wsX5_soonest_r1 ++ (wsX5_soonest_r2 ++ wsX5_soonest_r3)) ++ wsX50)
def wsX5_judge_r1 : List Cond := [Cond.fieldLink RX5 63 "LeggedThroughModel" "thrown" "I", Cond.constantLong RX5 128 (3), Cond.fieldLink RX5 29 "LeggedThroughModel" "page" "[I", Cond.methodLink RX5 69 yX5_in, Cond.static yX5_in, Cond.initialized RX5, Cond.code yX5_in cX5_in 6 (some .boolean), Cond.methodLink RX5 187 yX5_power, Cond.static yX5_power, Cond.code yX5_power cX5_power 4 (some .int), Cond.methodLink RX5 137 yX5_noPair, Cond.instanceMethod yX5_noPair, Cond.selects RX5 yX5_noPair yX5_noPair, Cond.code yX5_noPair cX5_noPair 4 (some .int), Cond.methodLink RX5 130 yX5_noBoat, Cond.instanceMethod yX5_noBoat, Cond.selects RX5 yX5_noBoat yX5_noBoat, Cond.code yX5_noBoat cX5_noBoat 2 (some .boolean), Cond.fieldLink RX5 73 "LeggedThroughModel" "boats" "I", Cond.methodLink RX5 124 yX5_noLegger, Cond.instanceMethod yX5_noLegger, Cond.selects RX5 yX5_noLegger yX5_noLegger, Cond.code yX5_noLegger cX5_noLegger 2 (some .boolean), Cond.fieldLink RX5 66 "LeggedThroughModel" "leggers" "I"]
def wsX5_judge_r2 : List Cond := [Cond.methodLink RX5 141 yX5_has, Cond.static yX5_has, Cond.code yX5_has cX5_has 2 (some .boolean)]
def wsX5_judge : List Cond := .code yX5_judge cX5_judge 7 (some .int) :: ((wsX5_judge_r1 ++ wsX5_judge_r2) ++ wsX50)
def wsX5_ways : List Cond := .code yX5_ways cX5_ways 3 (some .int) :: ([])
def wsX5_divisor : List Cond := .code yX5_divisor cX5_divisor 5 (some .int) :: ([])
def wsX5_fraction : List Cond := .code yX5_fraction cX5_fraction 4 (some .int) :: ([.methodLink RX5 197 yX5_divisor, .static yX5_divisor, .initialized RX5, .code yX5_divisor cX5_divisor 5 (some .int)])
def wsX5_share_r1 : List Cond := [Cond.fieldLink RX5 63 "LeggedThroughModel" "thrown" "I", Cond.fieldLink RX5 66 "LeggedThroughModel" "leggers" "I", Cond.fieldLink RX5 54 "LeggedThroughModel" "value" "[I", Cond.fieldLink RX5 152 "LeggedThroughModel" "bestPair" "I", Cond.fieldLink RX5 155 "LeggedThroughModel" "bestTime" "I", Cond.methodLink RX5 124 yX5_noLegger, Cond.instanceMethod yX5_noLegger, Cond.selects RX5 yX5_noLegger yX5_noLegger, Cond.initialized RX5, Cond.code yX5_noLegger cX5_noLegger 2 (some .boolean), Cond.methodLink RX5 69 yX5_in, Cond.static yX5_in, Cond.code yX5_in cX5_in 6 (some .boolean), Cond.methodLink RX5 130 yX5_noBoat, Cond.instanceMethod yX5_noBoat, Cond.selects RX5 yX5_noBoat yX5_noBoat, Cond.code yX5_noBoat cX5_noBoat 2 (some .boolean), Cond.fieldLink RX5 73 "LeggedThroughModel" "boats" "I", Cond.methodLink RX5 158 yX5_findBest, Cond.instanceMethod yX5_findBest, Cond.selects RX5 yX5_findBest yX5_findBest, Cond.code yX5_findBest cX5_findBest 6 none, Cond.fieldLink RX5 29 "LeggedThroughModel" "page" "[I", Cond.fieldLink RX5 20 "LeggedThroughModel" "load" "[I"]
def wsX5_share_r2 : List Cond := [Cond.methodLink RX5 133 yX5_timeOf, Cond.instanceMethod yX5_timeOf, Cond.selects RX5 yX5_timeOf yX5_timeOf, Cond.code yX5_timeOf cX5_timeOf 14 (some .int), Cond.fieldLink RX5 13 "LeggedThroughModel" "steps" "I", Cond.methodLink RX5 114 yX5_takes, Cond.instanceMethod yX5_takes, Cond.selects RX5 yX5_takes yX5_takes, Cond.code yX5_takes cX5_takes 6 (some .int), Cond.fieldLink RX5 17 "LeggedThroughModel" "kind" "[I", Cond.methodLink RX5 110 yX5_minutes, Cond.static yX5_minutes, Cond.code yX5_minutes cX5_minutes 1 (some .int), Cond.methodLink RX5 118 yX5_next, Cond.static yX5_next, Cond.code yX5_next cX5_next 2 (some .int), Cond.methodLink RX5 141 yX5_has, Cond.static yX5_has, Cond.code yX5_has cX5_has 2 (some .boolean), Cond.methodLink RX5 178 yX5_many, Cond.static yX5_many, Cond.code yX5_many cX5_many 3 (some .int), Cond.methodLink RX5 200 yX5_ways, Cond.static yX5_ways]
def wsX5_share_r3 : List Cond := [Cond.code yX5_ways cX5_ways 3 (some .int), Cond.methodLink RX5 203 yX5_fraction, Cond.static yX5_fraction, Cond.code yX5_fraction cX5_fraction 4 (some .int), Cond.methodLink RX5 197 yX5_divisor, Cond.static yX5_divisor, Cond.code yX5_divisor cX5_divisor 5 (some .int)]
def wsX5_share : List Cond := .code yX5_share cX5_share 7 (some .int) :: ((wsX5_share_r1 ++ (wsX5_share_r2 ++ wsX5_share_r3)) ++ wsX50)
def wsX5_see : List Cond := .code yX5_see cX5_see 3 (some .int) :: ([.fieldLink RX5 63 "LeggedThroughModel" "thrown" "I", .constantLong RX5 207 (5), .constantLong RX5 128 (3), .fieldLink RX5 121 "LeggedThroughModel" "seen" "I", .fieldLink RX5 48 "LeggedThroughModel" "seenStep" "[I", .fieldLink RX5 51 "LeggedThroughModel" "seenTime" "[I", .methodLink RX5 69 yX5_in, .static yX5_in, .initialized RX5, .code yX5_in cX5_in 6 (some .boolean)] ++ wsX50)
def wsX5_unsee : List Cond := .code yX5_unsee cX5_unsee 2 (some .int) :: ([.fieldLink RX5 63 "LeggedThroughModel" "thrown" "I", .fieldLink RX5 121 "LeggedThroughModel" "seen" "I"] ++ wsX50)
def wsX5_isSeen : List Cond := .code yX5_isSeen cX5_isSeen 7 (some .boolean) :: ([.fieldLink RX5 121 "LeggedThroughModel" "seen" "I", .fieldLink RX5 48 "LeggedThroughModel" "seenStep" "[I", .fieldLink RX5 51 "LeggedThroughModel" "seenTime" "[I", .methodLink RX5 187 yX5_power, .static yX5_power, .initialized RX5, .code yX5_power cX5_power 4 (some .int), .methodLink RX5 110 yX5_minutes, .static yX5_minutes, .code yX5_minutes cX5_minutes 1 (some .int), .methodLink RX5 118 yX5_next, .static yX5_next, .code yX5_next cX5_next 2 (some .int)] ++ wsX50)
def wsX5_lives : List Cond := .code yX5_lives cX5_lives 5 (some .int) :: ([.fieldLink RX5 63 "LeggedThroughModel" "thrown" "I", .constantLong RX5 209 (-1), .constantLong RX5 128 (3), .methodLink RX5 69 yX5_in, .static yX5_in, .initialized RX5, .code yX5_in cX5_in 6 (some .boolean), .methodLink RX5 211 yX5_isSeen, .instanceMethod yX5_isSeen, .selects RX5 yX5_isSeen yX5_isSeen, .code yX5_isSeen cX5_isSeen 7 (some .boolean), .fieldLink RX5 121 "LeggedThroughModel" "seen" "I", .fieldLink RX5 48 "LeggedThroughModel" "seenStep" "[I", .fieldLink RX5 51 "LeggedThroughModel" "seenTime" "[I", .methodLink RX5 187 yX5_power, .static yX5_power, .code yX5_power cX5_power 4 (some .int), .methodLink RX5 110 yX5_minutes, .static yX5_minutes, .code yX5_minutes cX5_minutes 1 (some .int), .methodLink RX5 118 yX5_next, .static yX5_next, .code yX5_next cX5_next 2 (some .int)] ++ wsX50)
def wsX5_loss : List Cond := .code yX5_loss cX5_loss 3 (some .int) :: ([])
def wsX5_findRests : List Cond := .code yX5_findRests cX5_findRests 7 none :: ([.fieldLink RX5 214 "LeggedThroughModel" "restMany" "I", .fieldLink RX5 217 "LeggedThroughModel" "restFirst" "I", .methodLink RX5 220 yX5_loss, .static yX5_loss, .initialized RX5, .code yX5_loss cX5_loss 3 (some .int)] ++ wsX50)
def wsX5_rests : List Cond := .code yX5_rests cX5_rests 4 (some .int) :: ([.fieldLink RX5 63 "LeggedThroughModel" "thrown" "I", .fieldLink RX5 20 "LeggedThroughModel" "load" "[I", .fieldLink RX5 214 "LeggedThroughModel" "restMany" "I", .fieldLink RX5 217 "LeggedThroughModel" "restFirst" "I", .methodLink RX5 130 yX5_noBoat, .instanceMethod yX5_noBoat, .selects RX5 yX5_noBoat yX5_noBoat, .initialized RX5, .code yX5_noBoat cX5_noBoat 2 (some .boolean), .fieldLink RX5 73 "LeggedThroughModel" "boats" "I", .methodLink RX5 69 yX5_in, .static yX5_in, .code yX5_in cX5_in 6 (some .boolean), .methodLink RX5 223 yX5_findRests, .instanceMethod yX5_findRests, .selects RX5 yX5_findRests yX5_findRests, .code yX5_findRests cX5_findRests 7 none, .methodLink RX5 220 yX5_loss, .static yX5_loss, .code yX5_loss cX5_loss 3 (some .int)] ++ wsX50)
def wsX5_chance_r1 : List Cond := [Cond.fieldLink RX5 63 "LeggedThroughModel" "thrown" "I", Cond.constantLong RX5 226 (60), Cond.constantLong RX5 228 (10), Cond.fieldLink RX5 13 "LeggedThroughModel" "steps" "I", Cond.fieldLink RX5 29 "LeggedThroughModel" "page" "[I", Cond.methodLink RX5 124 yX5_noLegger, Cond.instanceMethod yX5_noLegger, Cond.selects RX5 yX5_noLegger yX5_noLegger, Cond.initialized RX5, Cond.code yX5_noLegger cX5_noLegger 2 (some .boolean), Cond.fieldLink RX5 66 "LeggedThroughModel" "leggers" "I", Cond.methodLink RX5 69 yX5_in, Cond.static yX5_in, Cond.code yX5_in cX5_in 6 (some .boolean), Cond.methodLink RX5 141 yX5_has, Cond.static yX5_has, Cond.code yX5_has cX5_has 2 (some .boolean), Cond.methodLink RX5 114 yX5_takes, Cond.instanceMethod yX5_takes, Cond.selects RX5 yX5_takes yX5_takes, Cond.code yX5_takes cX5_takes 6 (some .int), Cond.fieldLink RX5 17 "LeggedThroughModel" "kind" "[I", Cond.methodLink RX5 110 yX5_minutes, Cond.static yX5_minutes]
def wsX5_chance_r2 : List Cond := [Cond.code yX5_minutes cX5_minutes 1 (some .int), Cond.methodLink RX5 118 yX5_next, Cond.static yX5_next, Cond.code yX5_next cX5_next 2 (some .int), Cond.methodLink RX5 187 yX5_power, Cond.static yX5_power, Cond.code yX5_power cX5_power 4 (some .int), Cond.methodLink RX5 203 yX5_fraction, Cond.static yX5_fraction, Cond.code yX5_fraction cX5_fraction 4 (some .int), Cond.methodLink RX5 197 yX5_divisor, Cond.static yX5_divisor, Cond.code yX5_divisor cX5_divisor 5 (some .int)]
def wsX5_chance : List Cond := .code yX5_chance cX5_chance 13 (some .int) :: ((wsX5_chance_r1 ++ wsX5_chance_r2) ++ wsX50)
def wsX5_seed : List Cond := .code yX5_seed cX5_seed 5 (some .long) :: ([.fieldLink RX5 63 "LeggedThroughModel" "thrown" "I", .fieldLink RX5 230 "LeggedThroughModel" "seed" "J"] ++ wsX50)
def wsX5_goSoonest_r1 : List Cond := [Cond.fieldLink RX5 73 "LeggedThroughModel" "boats" "I", Cond.fieldLink RX5 184 "LeggedThroughModel" "soonRow" "I", Cond.fieldLink RX5 35 "LeggedThroughModel" "base" "[I", Cond.methodLink RX5 187 yX5_power, Cond.static yX5_power, Cond.initialized RX5, Cond.code yX5_power cX5_power 4 (some .int), Cond.methodLink RX5 148 yX5_goLeg, Cond.instanceMethod yX5_goLeg, Cond.selects RX5 yX5_goLeg yX5_goLeg, Cond.code yX5_goLeg cX5_goLeg 5 none, Cond.fieldLink RX5 20 "LeggedThroughModel" "load" "[I", Cond.methodLink RX5 133 yX5_timeOf, Cond.instanceMethod yX5_timeOf, Cond.selects RX5 yX5_timeOf yX5_timeOf, Cond.code yX5_timeOf cX5_timeOf 14 (some .int), Cond.fieldLink RX5 13 "LeggedThroughModel" "steps" "I", Cond.methodLink RX5 114 yX5_takes, Cond.instanceMethod yX5_takes, Cond.selects RX5 yX5_takes yX5_takes, Cond.code yX5_takes cX5_takes 6 (some .int), Cond.fieldLink RX5 17 "LeggedThroughModel" "kind" "[I", Cond.methodLink RX5 110 yX5_minutes, Cond.static yX5_minutes]
def wsX5_goSoonest_r2 : List Cond := [Cond.code yX5_minutes cX5_minutes 1 (some .int), Cond.methodLink RX5 118 yX5_next, Cond.static yX5_next, Cond.code yX5_next cX5_next 2 (some .int)]
def wsX5_goSoonest : List Cond := .code yX5_goSoonest cX5_goSoonest 3 none :: ((wsX5_goSoonest_r1 ++ wsX5_goSoonest_r2) ++ wsX50)
def wsX5_days_r1 : List Cond := [Cond.fieldLink RX5 63 "LeggedThroughModel" "thrown" "I", Cond.constantLong RX5 234 (30), Cond.fieldLink RX5 29 "LeggedThroughModel" "page" "[I", Cond.fieldLink RX5 35 "LeggedThroughModel" "base" "[I", Cond.fieldLink RX5 230 "LeggedThroughModel" "seed" "J", Cond.constantLong RX5 236 (6364136223846793005), Cond.constantLong RX5 238 (1442695040888963407), Cond.constantLong RX5 240 (20), Cond.methodLink RX5 69 yX5_in, Cond.static yX5_in, Cond.initialized RX5, Cond.code yX5_in cX5_in 6 (some .boolean), Cond.methodLink RX5 190 yX5_copy, Cond.static yX5_copy, Cond.code yX5_copy cX5_copy 3 none, Cond.methodLink RX5 124 yX5_noLegger, Cond.instanceMethod yX5_noLegger, Cond.selects RX5 yX5_noLegger yX5_noLegger, Cond.code yX5_noLegger cX5_noLegger 2 (some .boolean), Cond.fieldLink RX5 66 "LeggedThroughModel" "leggers" "I", Cond.methodLink RX5 194 yX5_findSoonest, Cond.instanceMethod yX5_findSoonest, Cond.selects RX5 yX5_findSoonest yX5_findSoonest, Cond.code yX5_findSoonest cX5_findSoonest 11 none]
def wsX5_days_r2 : List Cond := [Cond.fieldLink RX5 73 "LeggedThroughModel" "boats" "I", Cond.fieldLink RX5 172 "LeggedThroughModel" "pairs" "I", Cond.fieldLink RX5 181 "LeggedThroughModel" "soonTime" "I", Cond.fieldLink RX5 184 "LeggedThroughModel" "soonRow" "I", Cond.fieldLink RX5 32 "LeggedThroughModel" "trial" "[I", Cond.fieldLink RX5 57 "LeggedThroughModel" "pairOne" "[I", Cond.fieldLink RX5 60 "LeggedThroughModel" "pairTwo" "[I", Cond.methodLink RX5 175 yX5_layPairs, Cond.instanceMethod yX5_layPairs, Cond.selects RX5 yX5_layPairs yX5_layPairs, Cond.code yX5_layPairs cX5_layPairs 3 none, Cond.methodLink RX5 178 yX5_many, Cond.static yX5_many, Cond.code yX5_many cX5_many 3 (some .int), Cond.methodLink RX5 187 yX5_power, Cond.static yX5_power, Cond.code yX5_power cX5_power 4 (some .int), Cond.methodLink RX5 141 yX5_has, Cond.static yX5_has, Cond.code yX5_has cX5_has 2 (some .boolean), Cond.methodLink RX5 148 yX5_goLeg, Cond.instanceMethod yX5_goLeg, Cond.selects RX5 yX5_goLeg yX5_goLeg, Cond.code yX5_goLeg cX5_goLeg 5 none]
def wsX5_days_r3 : List Cond := [Cond.fieldLink RX5 20 "LeggedThroughModel" "load" "[I", Cond.methodLink RX5 133 yX5_timeOf, Cond.instanceMethod yX5_timeOf, Cond.selects RX5 yX5_timeOf yX5_timeOf, Cond.code yX5_timeOf cX5_timeOf 14 (some .int), Cond.fieldLink RX5 13 "LeggedThroughModel" "steps" "I", Cond.methodLink RX5 114 yX5_takes, Cond.instanceMethod yX5_takes, Cond.selects RX5 yX5_takes yX5_takes, Cond.code yX5_takes cX5_takes 6 (some .int), Cond.fieldLink RX5 17 "LeggedThroughModel" "kind" "[I", Cond.methodLink RX5 110 yX5_minutes, Cond.static yX5_minutes, Cond.code yX5_minutes cX5_minutes 1 (some .int), Cond.methodLink RX5 118 yX5_next, Cond.static yX5_next, Cond.code yX5_next cX5_next 2 (some .int), Cond.methodLink RX5 242 yX5_goSoonest, Cond.instanceMethod yX5_goSoonest, Cond.selects RX5 yX5_goSoonest yX5_goSoonest, Cond.code yX5_goSoonest cX5_goSoonest 3 none]
def wsX5_days : List Cond := .code yX5_days cX5_days 4 (some .int) :: ((wsX5_days_r1 ++ (wsX5_days_r2 ++ wsX5_days_r3)) ++ wsX50)
def wsX5_keep : List Cond := .code yX5_keep cX5_keep 3 (some .int) :: ([.fieldLink RX5 63 "LeggedThroughModel" "thrown" "I", .fieldLink RX5 44 "LeggedThroughModel" "isKept" "[Z", .fieldLink RX5 41 "LeggedThroughModel" "kept" "[I", .fieldLink RX5 29 "LeggedThroughModel" "page" "[I", .methodLink RX5 69 yX5_in, .static yX5_in, .initialized RX5, .code yX5_in cX5_in 6 (some .boolean)] ++ wsX50)
def wsX5_again : List Cond := .code yX5_again cX5_again 3 (some .int) :: ([.fieldLink RX5 63 "LeggedThroughModel" "thrown" "I", .fieldLink RX5 44 "LeggedThroughModel" "isKept" "[Z", .fieldLink RX5 29 "LeggedThroughModel" "page" "[I", .fieldLink RX5 41 "LeggedThroughModel" "kept" "[I", .fieldLink RX5 107 "LeggedThroughModel" "acts" "I", .methodLink RX5 69 yX5_in, .static yX5_in, .initialized RX5, .code yX5_in cX5_in 6 (some .boolean)] ++ wsX50)
def wsJ9_max_7cf53 : List Cond := .code yJ9_max_7cf53 cJ9_max_7cf53 2 (some .int) :: ([])
def wsJ9_min_7cf53 : List Cond := .code yJ9_min_7cf53 cJ9_min_7cf53 2 (some .int) :: ([])
def wsJ9_min_f86c9 : List Cond := .code yJ9_min_f86c9 cJ9_min_f86c9 4 (some .long) :: ([])
def wsL_law_r1 : List Cond := [Cond.classLink RL 7 RX4, Cond.instantiable RX4 10, Cond.initialized RX4, Cond.classLink RL 10 RX5, Cond.instantiable RX5 37, Cond.initialized RX5, Cond.constantLong RL 118 (4294967295), Cond.methodLink RL 9 yX4_init, Cond.instanceMethod yX4_init, Cond.code yX4_init cX4_init 1 none, Cond.methodLink RX4 1 objectInit, Cond.instanceMethod objectInit, Cond.code objectInit ⟨#[0xb1]⟩ 1 none, Cond.classLink RX4 7 RX3, Cond.instantiable RX3 2, Cond.initialized RX3, Cond.fieldLink RX4 10 "LeggedThrough" "text" "LLeggedThrough$Text;", Cond.classLink RX4 16 RX1, Cond.instantiable RX1 5, Cond.initialized RX1, Cond.fieldLink RX4 19 "LeggedThrough" "plan" "LLeggedThrough$Plan;", Cond.classLink RX4 23 RX2, Cond.instantiable RX2 4, Cond.initialized RX2]
def wsL_law_r2 : List Cond := [Cond.fieldLink RX4 26 "LeggedThrough" "state" "LLeggedThrough$State;", Cond.classLink RX4 30 RX0, Cond.instantiable RX0 3, Cond.initialized RX0, Cond.fieldLink RX4 33 "LeggedThrough" "acts" "LLeggedThrough$Acts;", Cond.arrayClass .int, Cond.fieldLink RX4 37 "LeggedThrough" "slots" "[I", Cond.fieldLink RX4 41 "LeggedThrough" "aside" "[I", Cond.instanceMethod yX3_init, Cond.code yX3_init cX3_init 1 none, Cond.methodLink RX3 3 objectInit, Cond.fieldLink RX3 9 "LeggedThrough$Text" "letters" "[I", Cond.instanceMethod yX1_init, Cond.code yX1_init cX1_init 1 none, Cond.methodLink RX1 1 objectInit, Cond.fieldLink RX1 7 "LeggedThrough$Plan" "steps" "I", Cond.instanceMethod yX2_init, Cond.code yX2_init cX2_init 1 none, Cond.methodLink RX2 3 objectInit, Cond.instanceMethod yX0_init, Cond.code yX0_init cX0_init 1 none, Cond.methodLink RX0 3 objectInit, Cond.fieldLink RX0 11 "LeggedThrough$Acts" "ring" "[I", Cond.methodLink RL 12 yX5_init]
def wsL_law_r3 : List Cond := [Cond.instanceMethod yX5_init, Cond.code yX5_init cX5_init 1 none, Cond.methodLink RX5 1 objectInit, Cond.fieldLink RX5 7 "LeggedThroughModel" "text" "[I", Cond.fieldLink RX5 13 "LeggedThroughModel" "steps" "I", Cond.fieldLink RX5 17 "LeggedThroughModel" "kind" "[I", Cond.fieldLink RX5 20 "LeggedThroughModel" "load" "[I", Cond.fieldLink RX5 23 "LeggedThroughModel" "readLegger" "[I", Cond.fieldLink RX5 26 "LeggedThroughModel" "readBoat" "[I", Cond.fieldLink RX5 29 "LeggedThroughModel" "page" "[I", Cond.fieldLink RX5 32 "LeggedThroughModel" "trial" "[I", Cond.fieldLink RX5 35 "LeggedThroughModel" "base" "[I", Cond.fieldLink RX5 38 "LeggedThroughModel" "book" "[I", Cond.fieldLink RX5 41 "LeggedThroughModel" "kept" "[I", Cond.arrayClass .boolean, Cond.fieldLink RX5 44 "LeggedThroughModel" "isKept" "[Z", Cond.fieldLink RX5 48 "LeggedThroughModel" "seenStep" "[I", Cond.fieldLink RX5 51 "LeggedThroughModel" "seenTime" "[I", Cond.fieldLink RX5 54 "LeggedThroughModel" "value" "[I", Cond.fieldLink RX5 57 "LeggedThroughModel" "pairOne" "[I", Cond.fieldLink RX5 60 "LeggedThroughModel" "pairTwo" "[I", Cond.methodLink RL 13 yX4_write, Cond.instanceMethod yX4_write, Cond.selects RX4 yX4_write yX4_write]
def wsL_law_r4 : List Cond := [Cond.code yX4_write cX4_write 2 (some .int), Cond.methodLink RX4 44 yX3_append, Cond.instanceMethod yX3_append, Cond.selects RX3 yX3_append yX3_append, Cond.code yX3_append cX3_append 2 (some .boolean), Cond.fieldLink RX3 15 "LeggedThrough$Text" "length" "I", Cond.methodLink RL 17 yX5_write, Cond.instanceMethod yX5_write, Cond.selects RX5 yX5_write yX5_write, Cond.code yX5_write cX5_write 2 (some .int), Cond.fieldLink RX5 63 "LeggedThroughModel" "thrown" "I", Cond.constantLong RX5 76 (255), Cond.fieldLink RX5 78 "LeggedThroughModel" "textSize" "I", Cond.methodLink RX5 69 yX5_in, Cond.static yX5_in, Cond.code yX5_in cX5_in 6 (some .boolean), Cond.methodLink RL 18 yX4_wipe, Cond.instanceMethod yX4_wipe, Cond.selects RX4 yX4_wipe yX4_wipe, Cond.code yX4_wipe cX4_wipe 2 (some .int), Cond.methodLink RL 22 yX5_wipe, Cond.instanceMethod yX5_wipe, Cond.selects RX5 yX5_wipe yX5_wipe, Cond.code yX5_wipe cX5_wipe 2 (some .int)]
def wsL_law_r5 : List Cond := [Cond.methodLink RL 23 yX4_fault, Cond.instanceMethod yX4_fault, Cond.selects RX4 yX4_fault yX4_fault, Cond.code yX4_fault cX4_fault 1 (some .int), Cond.methodLink RX4 52 yX3_firstFault, Cond.instanceMethod yX3_firstFault, Cond.selects RX3 yX3_firstFault yX3_firstFault, Cond.code yX3_firstFault cX3_firstFault 8 (some .int), Cond.methodLink RX3 19 yX3_letterAt, Cond.instanceMethod yX3_letterAt, Cond.selects RX3 yX3_letterAt yX3_letterAt, Cond.code yX3_letterAt cX3_letterAt 2 (some .int), Cond.methodLink RL 26 yX5_fault, Cond.instanceMethod yX5_fault, Cond.selects RX5 yX5_fault yX5_fault, Cond.code yX5_fault cX5_fault 1 (some .int), Cond.methodLink RX5 103 yX5_readTunnel, Cond.instanceMethod yX5_readTunnel, Cond.selects RX5 yX5_readTunnel yX5_readTunnel, Cond.code yX5_readTunnel cX5_readTunnel 1 (some .int), Cond.fieldLink RX5 81 "LeggedThroughModel" "place" "I", Cond.fieldLink RX5 88 "LeggedThroughModel" "readLeggers" "I", Cond.fieldLink RX5 94 "LeggedThroughModel" "readBoats" "I", Cond.fieldLink RX5 97 "LeggedThroughModel" "readSteps" "I"]
def wsL_law_r6 : List Cond := [Cond.methodLink RX5 84 yX5_figure, Cond.instanceMethod yX5_figure, Cond.selects RX5 yX5_figure yX5_figure, Cond.code yX5_figure cX5_figure 3 (some .int), Cond.methodLink RX5 100 yX5_readPart, Cond.instanceMethod yX5_readPart, Cond.selects RX5 yX5_readPart yX5_readPart, Cond.code yX5_readPart cX5_readPart 3 (some .boolean), Cond.methodLink RX5 91 yX5_readLegger, Cond.instanceMethod yX5_readLegger, Cond.selects RX5 yX5_readLegger yX5_readLegger, Cond.code yX5_readLegger cX5_readLegger 3 (some .boolean), Cond.methodLink RL 27 yX4_tunnel, Cond.instanceMethod yX4_tunnel, Cond.selects RX4 yX4_tunnel yX4_tunnel, Cond.code yX4_tunnel cX4_tunnel 1 (some .int), Cond.fieldLink RX4 62 "LeggedThrough" "slotsKept" "I", Cond.methodLink RX4 56 yX4_readTunnel, Cond.instanceMethod yX4_readTunnel, Cond.selects RX4 yX4_readTunnel yX4_readTunnel, Cond.code yX4_readTunnel cX4_readTunnel 3 none, Cond.methodLink RX4 224 yX3_figureAt, Cond.instanceMethod yX3_figureAt, Cond.selects RX3 yX3_figureAt yX3_figureAt]
def wsL_law_r7 : List Cond := [Cond.code yX3_figureAt cX3_figureAt 2 (some .int), Cond.methodLink RX4 227 yX1_layOut, Cond.instanceMethod yX1_layOut, Cond.selects RX1 yX1_layOut yX1_layOut, Cond.code yX1_layOut cX1_layOut 2 none, Cond.fieldLink RX1 13 "LeggedThrough$Plan" "leggers" "I", Cond.fieldLink RX1 16 "LeggedThrough$Plan" "boats" "I", Cond.fieldLink RX1 19 "LeggedThrough$Plan" "kinds" "I", Cond.fieldLink RX1 22 "LeggedThrough$Plan" "loads" "I", Cond.methodLink RX4 231 yX2_clear, Cond.instanceMethod yX2_clear, Cond.selects RX2 yX2_clear yX2_clear, Cond.code yX2_clear cX2_clear 1 none, Cond.fieldLink RX2 9 "LeggedThrough$State" "grounds" "I", Cond.fieldLink RX2 15 "LeggedThrough$State" "tired" "I", Cond.fieldLink RX2 18 "LeggedThrough$State" "through" "I", Cond.fieldLink RX2 21 "LeggedThrough$State" "clock" "I", Cond.methodLink RX4 234 yX3_letterAt, Cond.methodLink RX4 134 yX2_cover, Cond.instanceMethod yX2_cover, Cond.selects RX2 yX2_cover yX2_cover, Cond.code yX2_cover cX2_cover 5 none, Cond.methodLink RX4 237 yX1_addLegger, Cond.instanceMethod yX1_addLegger]
def wsL_law_r8 : List Cond := [Cond.selects RX1 yX1_addLegger yX1_addLegger, Cond.code yX1_addLegger cX1_addLegger 2 none, Cond.methodLink RX4 240 yX1_addBoat, Cond.instanceMethod yX1_addBoat, Cond.selects RX1 yX1_addBoat yX1_addBoat, Cond.code yX1_addBoat cX1_addBoat 2 none, Cond.methodLink RX4 59 yX0_forgetAll, Cond.instanceMethod yX0_forgetAll, Cond.selects RX0 yX0_forgetAll yX0_forgetAll, Cond.code yX0_forgetAll cX0_forgetAll 1 none, Cond.fieldLink RX0 17 "LeggedThrough$Acts" "many" "I", Cond.methodLink RL 30 yX5_tunnel, Cond.instanceMethod yX5_tunnel, Cond.selects RX5 yX5_tunnel yX5_tunnel, Cond.code yX5_tunnel cX5_tunnel 3 (some .int), Cond.fieldLink RX5 66 "LeggedThroughModel" "leggers" "I", Cond.fieldLink RX5 73 "LeggedThroughModel" "boats" "I", Cond.fieldLink RX5 107 "LeggedThroughModel" "acts" "I", Cond.methodLink RL 31 yX4_about, Cond.instanceMethod yX4_about, Cond.selects RX4 yX4_about yX4_about, Cond.code yX4_about cX4_about 2 (some .int), Cond.fieldLink RX4 83 "LeggedThrough" "seenMany" "I", Cond.methodLink RL 34 yX5_about]
def wsL_law_r9 : List Cond := [Cond.instanceMethod yX5_about, Cond.selects RX5 yX5_about yX5_about, Cond.code yX5_about cX5_about 2 (some .int), Cond.fieldLink RX5 121 "LeggedThroughModel" "seen" "I", Cond.methodLink RL 35 yX4_legger, Cond.instanceMethod yX4_legger, Cond.selects RX4 yX4_legger yX4_legger, Cond.code yX4_legger cX4_legger 3 (some .int), Cond.methodLink RX4 86 yX1_hasLegger, Cond.instanceMethod yX1_hasLegger, Cond.selects RX1 yX1_hasLegger yX1_hasLegger, Cond.code yX1_hasLegger cX1_hasLegger 2 (some .boolean), Cond.methodLink RX4 89 yX4_isPlace, Cond.static yX4_isPlace, Cond.code yX4_isPlace cX4_isPlace 1 (some .boolean), Cond.methodLink RX4 92 yX2_groundAt, Cond.instanceMethod yX2_groundAt, Cond.selects RX2 yX2_groundAt yX2_groundAt, Cond.code yX2_groundAt cX2_groundAt 3 (some .int), Cond.static yX4_groundIn, Cond.code yX4_groundIn cX4_groundIn 2 (some .int), Cond.methodLink RX4 96 yX1_kindOf, Cond.instanceMethod yX1_kindOf, Cond.selects RX1 yX1_kindOf yX1_kindOf]
def wsL_law_r10 : List Cond := [Cond.code yX1_kindOf cX1_kindOf 2 (some .int), Cond.methodLink RX4 103 yX4_timesTired, Cond.static yX4_timesTired, Cond.code yX4_timesTired cX4_timesTired 2 (some .int), Cond.methodLink RL 39 yX5_legger, Cond.instanceMethod yX5_legger, Cond.selects RX5 yX5_legger yX5_legger, Cond.code yX5_legger cX5_legger 3 (some .int), Cond.constantLong RX5 128 (3), Cond.methodLink RX5 124 yX5_noLegger, Cond.instanceMethod yX5_noLegger, Cond.selects RX5 yX5_noLegger yX5_noLegger, Cond.code yX5_noLegger cX5_noLegger 2 (some .boolean), Cond.methodLink RL 40 yX4_load, Cond.instanceMethod yX4_load, Cond.selects RX4 yX4_load yX4_load, Cond.code yX4_load cX4_load 2 (some .int), Cond.methodLink RX4 106 yX1_hasBoat, Cond.instanceMethod yX1_hasBoat, Cond.selects RX1 yX1_hasBoat yX1_hasBoat, Cond.code yX1_hasBoat cX1_hasBoat 2 (some .boolean), Cond.methodLink RX4 109 yX1_loadOf, Cond.instanceMethod yX1_loadOf, Cond.selects RX1 yX1_loadOf yX1_loadOf]
def wsL_law_r11 : List Cond := [Cond.code yX1_loadOf cX1_loadOf 2 (some .int), Cond.methodLink RL 43 yX5_load, Cond.instanceMethod yX5_load, Cond.selects RX5 yX5_load yX5_load, Cond.code yX5_load cX5_load 2 (some .int), Cond.methodLink RX5 130 yX5_noBoat, Cond.instanceMethod yX5_noBoat, Cond.selects RX5 yX5_noBoat yX5_noBoat, Cond.code yX5_noBoat cX5_noBoat 2 (some .boolean), Cond.methodLink RL 44 yX4_leg, Cond.instanceMethod yX4_leg, Cond.selects RX4 yX4_leg yX4_leg, Cond.code yX4_leg cX4_leg 5 (some .int), Cond.methodLink RX4 112 yX4_pairRefusal, Cond.instanceMethod yX4_pairRefusal, Cond.selects RX4 yX4_pairRefusal yX4_pairRefusal, Cond.code yX4_pairRefusal cX4_pairRefusal 4 (some .int), Cond.methodLink RX4 116 yX4_isIn, Cond.static yX4_isIn, Cond.code yX4_isIn cX4_isIn 2 (some .boolean), Cond.methodLink RX4 120 yX0_remember, Cond.instanceMethod yX0_remember, Cond.selects RX0 yX0_remember yX0_remember, Cond.code yX0_remember cX0_remember 2 none]
def wsL_law_r12 : List Cond := [Cond.fieldLink RX0 21 "LeggedThrough$Acts" "first" "I", Cond.methodLink RX0 24 yX2_storeIn, Cond.instanceMethod yX2_storeIn, Cond.selects RX2 yX2_storeIn yX2_storeIn, Cond.code yX2_storeIn cX2_storeIn 4 none, Cond.methodLink RX4 124 yX4_pairMinutes, Cond.instanceMethod yX4_pairMinutes, Cond.selects RX4 yX4_pairMinutes yX4_pairMinutes, Cond.code yX4_pairMinutes cX4_pairMinutes 12 (some .int), Cond.methodLink RX4 246 Lib.Math.max.name, Cond.static Lib.Math.max.name, Cond.initialized "java/lang/Math", Cond.code Lib.Math.max.name Lib.Math.max.code 2 (some .int), Cond.methodLink RX4 251 yX4_stepMinutes, Cond.instanceMethod yX4_stepMinutes, Cond.selects RX4 yX4_stepMinutes yX4_stepMinutes, Cond.code yX4_stepMinutes cX4_stepMinutes 6 (some .int), Cond.methodLink RX4 243 yX4_minutesOver, Cond.static yX4_minutesOver, Cond.code yX4_minutesOver cX4_minutesOver 1 (some .int), Cond.methodLink RX4 255 yX4_placeBehind, Cond.static yX4_placeBehind, Cond.code yX4_placeBehind cX4_placeBehind 2 (some .int), Cond.methodLink RX4 128 yX4_tireBoth]
def wsL_law_r13 : List Cond := [Cond.static yX4_tireBoth, Cond.code yX4_tireBoth cX4_tireBoth 3 (some .int), Cond.methodLink RX4 221 yX4_tireOne, Cond.static yX4_tireOne, Cond.code yX4_tireOne cX4_tireOne 2 (some .int), Cond.methodLink RL 48 yX5_leg, Cond.instanceMethod yX5_leg, Cond.selects RX5 yX5_leg yX5_leg, Cond.code yX5_leg cX5_leg 5 (some .int), Cond.methodLink RX5 137 yX5_noPair, Cond.instanceMethod yX5_noPair, Cond.selects RX5 yX5_noPair yX5_noPair, Cond.code yX5_noPair cX5_noPair 4 (some .int), Cond.methodLink RX5 141 yX5_has, Cond.static yX5_has, Cond.code yX5_has cX5_has 2 (some .boolean), Cond.methodLink RX5 145 yX5_note, Cond.instanceMethod yX5_note, Cond.selects RX5 yX5_note yX5_note, Cond.code yX5_note cX5_note 2 none, Cond.methodLink RX5 148 yX5_goLeg, Cond.instanceMethod yX5_goLeg, Cond.selects RX5 yX5_goLeg yX5_goLeg, Cond.code yX5_goLeg cX5_goLeg 5 none]
def wsL_law_r14 : List Cond := [Cond.methodLink RX5 133 yX5_timeOf, Cond.instanceMethod yX5_timeOf, Cond.selects RX5 yX5_timeOf yX5_timeOf, Cond.code yX5_timeOf cX5_timeOf 14 (some .int), Cond.methodLink RX5 114 yX5_takes, Cond.instanceMethod yX5_takes, Cond.selects RX5 yX5_takes yX5_takes, Cond.code yX5_takes cX5_takes 6 (some .int), Cond.methodLink RX5 110 yX5_minutes, Cond.static yX5_minutes, Cond.code yX5_minutes cX5_minutes 1 (some .int), Cond.methodLink RX5 118 yX5_next, Cond.static yX5_next, Cond.code yX5_next cX5_next 2 (some .int), Cond.methodLink RL 49 yX4_rest, Cond.instanceMethod yX4_rest, Cond.selects RX4 yX4_rest yX4_rest, Cond.code yX4_rest cX4_rest 2 (some .int), Cond.methodLink RL 52 yX5_rest, Cond.instanceMethod yX5_rest, Cond.selects RX5 yX5_rest yX5_rest, Cond.code yX5_rest cX5_rest 2 (some .int), Cond.methodLink RL 53 yX4_wet, Cond.instanceMethod yX4_wet]
def wsL_law_r15 : List Cond := [Cond.selects RX4 yX4_wet yX4_wet, Cond.code yX4_wet cX4_wet 5 (some .int), Cond.methodLink RX4 131 yX4_placeRefusal, Cond.instanceMethod yX4_placeRefusal, Cond.selects RX4 yX4_placeRefusal yX4_placeRefusal, Cond.code yX4_placeRefusal cX4_placeRefusal 3 (some .int), Cond.methodLink RL 56 yX5_wet, Cond.instanceMethod yX5_wet, Cond.selects RX5 yX5_wet yX5_wet, Cond.code yX5_wet cX5_wet 4 (some .int), Cond.methodLink RL 57 yX4_dry, Cond.instanceMethod yX4_dry, Cond.selects RX4 yX4_dry yX4_dry, Cond.code yX4_dry cX4_dry 4 (some .int), Cond.methodLink RX4 138 yX2_wetPlaces, Cond.instanceMethod yX2_wetPlaces, Cond.selects RX2 yX2_wetPlaces yX2_wetPlaces, Cond.code yX2_wetPlaces cX2_wetPlaces 4 (some .int), Cond.methodLink RX2 28 yX2_groundAt, Cond.methodLink RL 60 yX5_dry, Cond.instanceMethod yX5_dry, Cond.selects RX5 yX5_dry yX5_dry, Cond.code yX5_dry cX5_dry 5 (some .int), Cond.methodLink RL 61 yX4_undo]
def wsL_law_r16 : List Cond := [Cond.instanceMethod yX4_undo, Cond.selects RX4 yX4_undo yX4_undo, Cond.code yX4_undo cX4_undo 1 (some .int), Cond.methodLink RX4 141 yX0_takeBack, Cond.instanceMethod yX0_takeBack, Cond.selects RX0 yX0_takeBack yX0_takeBack, Cond.code yX0_takeBack cX0_takeBack 2 none, Cond.methodLink RX0 28 yX2_fetchFrom, Cond.instanceMethod yX2_fetchFrom, Cond.selects RX2 yX2_fetchFrom yX2_fetchFrom, Cond.code yX2_fetchFrom cX2_fetchFrom 4 none, Cond.methodLink RL 64 yX5_undo, Cond.instanceMethod yX5_undo, Cond.selects RX5 yX5_undo yX5_undo, Cond.code yX5_undo cX5_undo 2 (some .int), Cond.methodLink RL 65 yX4_alone, Cond.instanceMethod yX4_alone, Cond.selects RX4 yX4_alone yX4_alone, Cond.code yX4_alone cX4_alone 4 (some .int), Cond.methodLink RX4 144 yX4_aloneMinutes, Cond.instanceMethod yX4_aloneMinutes, Cond.selects RX4 yX4_aloneMinutes yX4_aloneMinutes, Cond.code yX4_aloneMinutes cX4_aloneMinutes 7 (some .int), Cond.methodLink RL 68 yX5_alone]
def wsL_law_r17 : List Cond := [Cond.instanceMethod yX5_alone, Cond.selects RX5 yX5_alone yX5_alone, Cond.code yX5_alone cX5_alone 6 (some .int), Cond.methodLink RL 69 yX4_time, Cond.instanceMethod yX4_time, Cond.selects RX4 yX4_time yX4_time, Cond.code yX4_time cX4_time 7 (some .int), Cond.methodLink RL 73 yX5_time, Cond.instanceMethod yX5_time, Cond.selects RX5 yX5_time yX5_time, Cond.code yX5_time cX5_time 7 (some .int), Cond.methodLink RL 74 yX4_best, Cond.instanceMethod yX4_best, Cond.selects RX4 yX4_best yX4_best, Cond.code yX4_best cX4_best 4 (some .int), Cond.methodLink RX4 147 yX1_allLeggers, Cond.instanceMethod yX1_allLeggers, Cond.selects RX1 yX1_allLeggers yX1_allLeggers, Cond.code yX1_allLeggers cX1_allLeggers 1 (some .int), Cond.methodLink RX4 150 yX4_leastPair, Cond.instanceMethod yX4_leastPair, Cond.selects RX4 yX4_leastPair yX4_leastPair, Cond.code yX4_leastPair cX4_leastPair 7 (some .int), Cond.methodLink RX4 258 Lib.Math.min.name]
def wsL_law_r18 : List Cond := [Cond.static Lib.Math.min.name, Cond.code Lib.Math.min.name Lib.Math.min.code 2 (some .int), Cond.methodLink RL 77 yX5_best, Cond.instanceMethod yX5_best, Cond.selects RX5 yX5_best yX5_best, Cond.code yX5_best cX5_best 3 (some .int), Cond.fieldLink RX5 152 "LeggedThroughModel" "bestPair" "I", Cond.fieldLink RX5 155 "LeggedThroughModel" "bestTime" "I", Cond.methodLink RX5 158 yX5_findBest, Cond.instanceMethod yX5_findBest, Cond.selects RX5 yX5_findBest yX5_findBest, Cond.code yX5_findBest cX5_findBest 6 none, Cond.methodLink RL 78 yX4_begin, Cond.instanceMethod yX4_begin, Cond.selects RX4 yX4_begin yX4_begin, Cond.code yX4_begin cX4_begin 7 (some .int), Cond.methodLink RX4 153 yX4_leastBegin, Cond.instanceMethod yX4_leastBegin, Cond.selects RX4 yX4_leastBegin yX4_leastBegin, Cond.code yX4_leastBegin cX4_leastBegin 7 (some .int), Cond.constant RX4 261 (2147483647), Cond.methodLink RL 82 yX5_begin, Cond.instanceMethod yX5_begin, Cond.selects RX5 yX5_begin yX5_begin]
def wsL_law_r19 : List Cond := [Cond.code yX5_begin cX5_begin 6 (some .int), Cond.fieldLink RX5 162 "LeggedThroughModel" "beginAt" "I", Cond.fieldLink RX5 165 "LeggedThroughModel" "beginTime" "I", Cond.methodLink RX5 168 yX5_findBegin, Cond.instanceMethod yX5_findBegin, Cond.selects RX5 yX5_findBegin yX5_findBegin, Cond.code yX5_findBegin cX5_findBegin 6 none, Cond.methodLink RL 83 yX4_soonest, Cond.instanceMethod yX4_soonest, Cond.selects RX4 yX4_soonest yX4_soonest, Cond.code yX4_soonest cX4_soonest 4 (some .int), Cond.constantLong RX4 160 (-9), Cond.constantLong RX4 162 (1000000000), Cond.methodLink RX4 156 yX4_soonestLegs, Cond.instanceMethod yX4_soonestLegs, Cond.selects RX4 yX4_soonestLegs yX4_soonestLegs, Cond.code yX4_soonestLegs cX4_soonestLegs 2 (some .long), Cond.constantLong RX4 267 (9223372036854775807), Cond.methodLink RX4 262 yX1_allBoats, Cond.instanceMethod yX1_allBoats, Cond.selects RX1 yX1_allBoats yX1_allBoats, Cond.code yX1_allBoats cX1_allBoats 1 (some .int), Cond.methodLink RX4 269 yX4_leastLegs, Cond.instanceMethod yX4_leastLegs]
def wsL_law_r20 : List Cond := [Cond.selects RX4 yX4_leastLegs yX4_leastLegs, Cond.code yX4_leastLegs cX4_leastLegs 15 (some .long), Cond.methodLink RX4 273 Lib.MathLoose.min_long.x, Cond.static Lib.MathLoose.min_long.x, Cond.code Lib.MathLoose.min_long.x Lib.MathLoose.min_long.code 4 (some .long), Cond.methodLink RL 87 yX5_soonest, Cond.instanceMethod yX5_soonest, Cond.selects RX5 yX5_soonest yX5_soonest, Cond.code yX5_soonest cX5_soonest 2 (some .int), Cond.fieldLink RX5 184 "LeggedThroughModel" "soonRow" "I", Cond.fieldLink RX5 181 "LeggedThroughModel" "soonTime" "I", Cond.methodLink RX5 190 yX5_copy, Cond.static yX5_copy, Cond.code yX5_copy cX5_copy 3 none, Cond.methodLink RX5 194 yX5_findSoonest, Cond.instanceMethod yX5_findSoonest, Cond.selects RX5 yX5_findSoonest yX5_findSoonest, Cond.code yX5_findSoonest cX5_findSoonest 11 none, Cond.fieldLink RX5 172 "LeggedThroughModel" "pairs" "I", Cond.methodLink RX5 175 yX5_layPairs, Cond.instanceMethod yX5_layPairs, Cond.selects RX5 yX5_layPairs yX5_layPairs, Cond.code yX5_layPairs cX5_layPairs 3 none, Cond.methodLink RX5 178 yX5_many]
def wsL_law_r21 : List Cond := [Cond.static yX5_many, Cond.code yX5_many cX5_many 3 (some .int), Cond.methodLink RX5 187 yX5_power, Cond.static yX5_power, Cond.code yX5_power cX5_power 4 (some .int), Cond.methodLink RL 88 yX4_judge, Cond.instanceMethod yX4_judge, Cond.selects RX4 yX4_judge yX4_judge, Cond.code yX4_judge cX4_judge 7 (some .int), Cond.methodLink RX4 164 yX4_legTold, Cond.static yX4_legTold, Cond.code yX4_legTold cX4_legTold 4 (some .int), Cond.methodLink RL 91 yX5_judge, Cond.instanceMethod yX5_judge, Cond.selects RX5 yX5_judge yX5_judge, Cond.code yX5_judge cX5_judge 7 (some .int), Cond.methodLink RL 92 yX4_share, Cond.instanceMethod yX4_share, Cond.selects RX4 yX4_share yX4_share, Cond.code yX4_share cX4_share 7 (some .int), Cond.methodLink RX4 167 yX4_worth, Cond.instanceMethod yX4_worth, Cond.selects RX4 yX4_worth yX4_worth, Cond.code yX4_worth cX4_worth 4 (some .int)]
def wsL_law_r22 : List Cond := [Cond.methodLink RX4 170 yJ6_bitCount_0f7a4, Cond.static yJ6_bitCount_0f7a4, Cond.initialized RJ6, Cond.code yJ6_bitCount_0f7a4 cJ6_bitCount_0f7a4 1 (some .int), Cond.constant RJ6 265 (1431655765), Cond.constant RJ6 266 (858993459), Cond.constant RJ6 267 (252645135), Cond.methodLink RX4 175 yX4_ordersBehind, Cond.instanceMethod yX4_ordersBehind, Cond.selects RX4 yX4_ordersBehind yX4_ordersBehind, Cond.code yX4_ordersBehind cX4_ordersBehind 2 (some .int), Cond.methodLink RX4 178 yX4_factorial, Cond.static yX4_factorial, Cond.code yX4_factorial cX4_factorial 3 (some .int), Cond.methodLink RX4 181 yX4_fraction, Cond.static yX4_fraction, Cond.code yX4_fraction cX4_fraction 7 (some .int), Cond.methodLink RL 96 yX5_share, Cond.instanceMethod yX5_share, Cond.selects RX5 yX5_share yX5_share, Cond.code yX5_share cX5_share 7 (some .int), Cond.methodLink RX5 200 yX5_ways, Cond.static yX5_ways, Cond.code yX5_ways cX5_ways 3 (some .int)]
def wsL_law_r23 : List Cond := [Cond.methodLink RX5 203 yX5_fraction, Cond.static yX5_fraction, Cond.code yX5_fraction cX5_fraction 4 (some .int), Cond.methodLink RX5 197 yX5_divisor, Cond.static yX5_divisor, Cond.code yX5_divisor cX5_divisor 5 (some .int), Cond.methodLink RL 97 yX4_see, Cond.instanceMethod yX4_see, Cond.selects RX4 yX4_see yX4_see, Cond.code yX4_see cX4_see 3 (some .int), Cond.fieldLink RX4 185 "LeggedThrough" "seenMinutes" "I", Cond.methodLink RL 100 yX5_see, Cond.instanceMethod yX5_see, Cond.selects RX5 yX5_see yX5_see, Cond.code yX5_see cX5_see 3 (some .int), Cond.constantLong RX5 207 (5), Cond.methodLink RL 101 yX4_unsee, Cond.instanceMethod yX4_unsee, Cond.selects RX4 yX4_unsee yX4_unsee, Cond.code yX4_unsee cX4_unsee 2 (some .int), Cond.methodLink RL 104 yX5_unsee, Cond.instanceMethod yX5_unsee, Cond.selects RX5 yX5_unsee yX5_unsee, Cond.code yX5_unsee cX5_unsee 2 (some .int)]
def wsL_law_r24 : List Cond := [Cond.methodLink RL 105 yX4_lives, Cond.instanceMethod yX4_lives, Cond.selects RX4 yX4_lives yX4_lives, Cond.code yX4_lives cX4_lives 5 (some .int), Cond.methodLink RX4 188 yX4_isAsSeen, Cond.instanceMethod yX4_isAsSeen, Cond.selects RX4 yX4_isAsSeen yX4_isAsSeen, Cond.code yX4_isAsSeen cX4_isAsSeen 6 (some .boolean), Cond.methodLink RX4 191 yX4_groundIn, Cond.methodLink RL 108 yX5_lives, Cond.instanceMethod yX5_lives, Cond.selects RX5 yX5_lives yX5_lives, Cond.code yX5_lives cX5_lives 5 (some .int), Cond.constantLong RX5 209 (-1), Cond.methodLink RX5 211 yX5_isSeen, Cond.instanceMethod yX5_isSeen, Cond.selects RX5 yX5_isSeen yX5_isSeen, Cond.code yX5_isSeen cX5_isSeen 7 (some .boolean), Cond.methodLink RL 109 yX4_rests, Cond.instanceMethod yX4_rests, Cond.selects RX4 yX4_rests yX4_rests, Cond.code yX4_rests cX4_rests 8 (some .int), Cond.methodLink RX4 194 yX4_staysWith, Cond.static yX4_staysWith]
def wsL_law_r25 : List Cond := [Cond.code yX4_staysWith cX4_staysWith 4 (some .boolean), Cond.methodLink RX4 276 yX4_loss, Cond.static yX4_loss, Cond.code yX4_loss cX4_loss 3 (some .int), Cond.methodLink RL 112 yX5_rests, Cond.instanceMethod yX5_rests, Cond.selects RX5 yX5_rests yX5_rests, Cond.code yX5_rests cX5_rests 4 (some .int), Cond.fieldLink RX5 214 "LeggedThroughModel" "restMany" "I", Cond.fieldLink RX5 217 "LeggedThroughModel" "restFirst" "I", Cond.methodLink RX5 223 yX5_findRests, Cond.instanceMethod yX5_findRests, Cond.selects RX5 yX5_findRests yX5_findRests, Cond.code yX5_findRests cX5_findRests 7 none, Cond.methodLink RX5 220 yX5_loss, Cond.static yX5_loss, Cond.code yX5_loss cX5_loss 3 (some .int), Cond.methodLink RL 113 yX4_chance, Cond.instanceMethod yX4_chance, Cond.selects RX4 yX4_chance yX4_chance, Cond.code yX4_chance cX4_chance 7 (some .int), Cond.methodLink RX4 198 yX4_waysInTime, Cond.instanceMethod yX4_waysInTime, Cond.selects RX4 yX4_waysInTime yX4_waysInTime]
def wsL_law_r26 : List Cond := [Cond.code yX4_waysInTime cX4_waysInTime 11 (some .int), Cond.methodLink RL 117 yX5_chance, Cond.instanceMethod yX5_chance, Cond.selects RX5 yX5_chance yX5_chance, Cond.code yX5_chance cX5_chance 13 (some .int), Cond.constantLong RX5 226 (60), Cond.constantLong RX5 228 (10), Cond.methodLink RL 120 yX4_seed, Cond.instanceMethod yX4_seed, Cond.selects RX4 yX4_seed yX4_seed, Cond.code yX4_seed cX4_seed 5 (some .long), Cond.fieldLink RX4 201 "LeggedThrough" "theSeed" "J", Cond.methodLink RL 124 yX5_seed, Cond.instanceMethod yX5_seed, Cond.selects RX5 yX5_seed yX5_seed, Cond.code yX5_seed cX5_seed 5 (some .long), Cond.fieldLink RX5 230 "LeggedThroughModel" "seed" "J", Cond.methodLink RL 125 yX4_days, Cond.instanceMethod yX4_days, Cond.selects RX4 yX4_days yX4_days, Cond.code yX4_days cX4_days 7 (some .int), Cond.constantLong RX4 209 (6364136223846793005), Cond.constantLong RX4 211 (1442695040888963407), Cond.constantLong RX4 213 (20)]
def wsL_law_r27 : List Cond := [Cond.methodLink RX4 205 yX2_storeIn, Cond.methodLink RX4 215 yX4_legAll, Cond.instanceMethod yX4_legAll, Cond.selects RX4 yX4_legAll yX4_legAll, Cond.code yX4_legAll cX4_legAll 5 none, Cond.methodLink RX4 218 yX2_fetchFrom, Cond.methodLink RL 128 yX5_days, Cond.instanceMethod yX5_days, Cond.selects RX5 yX5_days yX5_days, Cond.code yX5_days cX5_days 4 (some .int), Cond.constantLong RX5 234 (30), Cond.constantLong RX5 236 (6364136223846793005), Cond.constantLong RX5 238 (1442695040888963407), Cond.constantLong RX5 240 (20), Cond.methodLink RX5 242 yX5_goSoonest, Cond.instanceMethod yX5_goSoonest, Cond.selects RX5 yX5_goSoonest yX5_goSoonest, Cond.code yX5_goSoonest cX5_goSoonest 3 none, Cond.methodLink RL 129 yX4_keep, Cond.instanceMethod yX4_keep, Cond.selects RX4 yX4_keep yX4_keep, Cond.code yX4_keep cX4_keep 2 (some .int), Cond.methodLink RL 132 yX5_keep, Cond.instanceMethod yX5_keep]
def wsL_law_r28 : List Cond := [Cond.selects RX5 yX5_keep yX5_keep, Cond.code yX5_keep cX5_keep 3 (some .int), Cond.methodLink RL 133 yX4_again, Cond.instanceMethod yX4_again, Cond.selects RX4 yX4_again yX4_again, Cond.code yX4_again cX4_again 2 (some .int), Cond.methodLink RL 136 yX5_again, Cond.instanceMethod yX5_again, Cond.selects RX5 yX5_again yX5_again, Cond.code yX5_again cX5_again 3 (some .int)]
def wsL_law : List Cond := (wsL_law_r1 ++ (wsL_law_r2 ++ (wsL_law_r3 ++ (wsL_law_r4 ++ (wsL_law_r5 ++ (wsL_law_r6 ++ (wsL_law_r7 ++ (wsL_law_r8 ++ (wsL_law_r9 ++ (wsL_law_r10 ++ (wsL_law_r11 ++ (wsL_law_r12 ++ (wsL_law_r13 ++ (wsL_law_r14 ++ (wsL_law_r15 ++ (wsL_law_r16 ++ (wsL_law_r17 ++ (wsL_law_r18 ++ (wsL_law_r19 ++ (wsL_law_r20 ++ (wsL_law_r21 ++ (wsL_law_r22 ++ (wsL_law_r23 ++ (wsL_law_r24 ++ (wsL_law_r25 ++ (wsL_law_r26 ++ (wsL_law_r27 ++ wsL_law_r28))))))))))))))))))))))))))) ++ wsX40 ++ wsX50 ++ wsX30 ++ wsX10 ++ wsX20 ++ wsX00 ++ ([] : List Cond)
theorem inlX0 : ∀ w ∈ wsX00, w ∈ wsL_law := fun _ h => List.mem_append_left _ (List.mem_append_right _ h)
theorem inlX1 : ∀ w ∈ wsX10, w ∈ wsL_law := fun _ h => List.mem_append_left _ (List.mem_append_left _ (List.mem_append_left _ (List.mem_append_right _ h)))
theorem inlX2 : ∀ w ∈ wsX20, w ∈ wsL_law := fun _ h => List.mem_append_left _ (List.mem_append_left _ (List.mem_append_right _ h))
theorem inlX3 : ∀ w ∈ wsX30, w ∈ wsL_law := fun _ h => List.mem_append_left _ (List.mem_append_left _ (List.mem_append_left _ (List.mem_append_left _ (List.mem_append_right _ h))))
theorem inlX4 : ∀ w ∈ wsX40, w ∈ wsL_law := fun _ h => List.mem_append_left _ (List.mem_append_left _ (List.mem_append_left _ (List.mem_append_left _ (List.mem_append_left _ (List.mem_append_left _ (List.mem_append_right _ h))))))
theorem inlX5 : ∀ w ∈ wsX50, w ∈ wsL_law := fun _ h => List.mem_append_left _ (List.mem_append_left _ (List.mem_append_left _ (List.mem_append_left _ (List.mem_append_left _ (List.mem_append_right _ h)))))
abbrev vwCl : List vw_C := [(RX0, TX0, 3), (RX1, TX1, 5), (RX2, TX2, 4), (RX3, TX3, 2), (RX4, TX4, 10), (RX5, TX5, 37)]
/-! ===== END ===== -/
end
section
theorem dX0_init_0 : decode cX0_init 0 = .ok (.aload_n 0, 1) := by decide +kernel
theorem dX0_init_1 : decode cX0_init 1 = .ok (.invokespecial 3, 3) := by decide +kernel
theorem dX0_init_4 : decode cX0_init 4 = .ok (.aload_n 0, 1) := by decide +kernel
theorem dX0_init_5 : decode cX0_init 5 = .ok (.bipush 56, 2) := by decide +kernel
theorem dX0_init_7 : decode cX0_init 7 = .ok (.newarray .int, 2) := by decide +kernel
theorem dX0_init_9 : decode cX0_init 9 = .ok (.putfield 11, 3) := by decide +kernel
theorem dX0_init_12 : decode cX0_init 12 = .ok (.return_, 1) := by decide +kernel
theorem dX0_forgetAll_0 : decode cX0_forgetAll 0 = .ok (.aload_n 0, 1) := by decide +kernel
theorem dX0_forgetAll_1 : decode cX0_forgetAll 1 = .ok (.iconst 0, 1) := by decide +kernel
theorem dX0_forgetAll_2 : decode cX0_forgetAll 2 = .ok (.putfield 17, 3) := by decide +kernel
theorem dX0_forgetAll_5 : decode cX0_forgetAll 5 = .ok (.return_, 1) := by decide +kernel
set_option maxRecDepth 20000 in
theorem ggX0_remember_X2_storeIn : GoodIn wsX0_remember wsX2_storeIn := goodIn_r _ [8, 9, 10, 11, 12, 16, 17, 18, 19] (by decide +kernel) (by decide +kernel)
set_option maxRecDepth 20000 in
theorem gX0_remember_X2_storeIn : GoodIn wsX0_remember (wsV RX0 24 RX2 yX2_storeIn wsX2_storeIn) := goodIn_app (goodIn_of _ (by decide +kernel)) ggX0_remember_X2_storeIn
theorem dX0_remember_0 : decode cX0_remember 0 = .ok (.aload_n 0, 1) := by decide +kernel
theorem dX0_remember_1 : decode cX0_remember 1 = .ok (.getfield 17, 3) := by decide +kernel
theorem dX0_remember_4 : decode cX0_remember 4 = .ok (.bipush 14, 2) := by decide +kernel
theorem dX0_remember_6 : decode cX0_remember 6 = .ok (.if_icmp .lt 26, 3) := by decide +kernel
theorem dX0_remember_9 : decode cX0_remember 9 = .ok (.aload_n 0, 1) := by decide +kernel
theorem dX0_remember_10 : decode cX0_remember 10 = .ok (.aload_n 0, 1) := by decide +kernel
theorem dX0_remember_11 : decode cX0_remember 11 = .ok (.getfield 21, 3) := by decide +kernel
theorem dX0_remember_14 : decode cX0_remember 14 = .ok (.iconst 1, 1) := by decide +kernel
theorem dX0_remember_15 : decode cX0_remember 15 = .ok (.iadd, 1) := by decide +kernel
theorem dX0_remember_16 : decode cX0_remember 16 = .ok (.bipush 14, 2) := by decide +kernel
theorem dX0_remember_18 : decode cX0_remember 18 = .ok (.irem, 1) := by decide +kernel
theorem dX0_remember_19 : decode cX0_remember 19 = .ok (.putfield 21, 3) := by decide +kernel
theorem dX0_remember_22 : decode cX0_remember 22 = .ok (.aload_n 0, 1) := by decide +kernel
theorem dX0_remember_23 : decode cX0_remember 23 = .ok (.dup, 1) := by decide +kernel
theorem dX0_remember_24 : decode cX0_remember 24 = .ok (.getfield 17, 3) := by decide +kernel
theorem dX0_remember_27 : decode cX0_remember 27 = .ok (.iconst 1, 1) := by decide +kernel
theorem dX0_remember_28 : decode cX0_remember 28 = .ok (.isub, 1) := by decide +kernel
theorem dX0_remember_29 : decode cX0_remember 29 = .ok (.putfield 17, 3) := by decide +kernel
theorem dX0_remember_32 : decode cX0_remember 32 = .ok (.aload_n 1, 1) := by decide +kernel
theorem dX0_remember_33 : decode cX0_remember 33 = .ok (.aload_n 0, 1) := by decide +kernel
theorem dX0_remember_34 : decode cX0_remember 34 = .ok (.getfield 11, 3) := by decide +kernel
theorem dX0_remember_37 : decode cX0_remember 37 = .ok (.aload_n 0, 1) := by decide +kernel
theorem dX0_remember_38 : decode cX0_remember 38 = .ok (.getfield 21, 3) := by decide +kernel
theorem dX0_remember_41 : decode cX0_remember 41 = .ok (.aload_n 0, 1) := by decide +kernel
theorem dX0_remember_42 : decode cX0_remember 42 = .ok (.getfield 17, 3) := by decide +kernel
theorem dX0_remember_45 : decode cX0_remember 45 = .ok (.iadd, 1) := by decide +kernel
theorem dX0_remember_46 : decode cX0_remember 46 = .ok (.bipush 14, 2) := by decide +kernel
theorem dX0_remember_48 : decode cX0_remember 48 = .ok (.irem, 1) := by decide +kernel
theorem dX0_remember_49 : decode cX0_remember 49 = .ok (.invokevirtual 24, 3) := by decide +kernel
theorem dX0_remember_52 : decode cX0_remember 52 = .ok (.aload_n 0, 1) := by decide +kernel
theorem dX0_remember_53 : decode cX0_remember 53 = .ok (.dup, 1) := by decide +kernel
theorem dX0_remember_54 : decode cX0_remember 54 = .ok (.getfield 17, 3) := by decide +kernel
theorem dX0_remember_57 : decode cX0_remember 57 = .ok (.iconst 1, 1) := by decide +kernel
theorem dX0_remember_58 : decode cX0_remember 58 = .ok (.iadd, 1) := by decide +kernel
theorem dX0_remember_59 : decode cX0_remember 59 = .ok (.putfield 17, 3) := by decide +kernel
theorem dX0_remember_62 : decode cX0_remember 62 = .ok (.return_, 1) := by decide +kernel
set_option maxRecDepth 20000 in
theorem ggX0_takeBack_X2_fetchFrom : GoodIn wsX0_takeBack wsX2_fetchFrom := goodIn_r _ [8, 9, 10, 11, 12, 16, 17, 18, 19] (by decide +kernel) (by decide +kernel)
set_option maxRecDepth 20000 in
theorem gX0_takeBack_X2_fetchFrom : GoodIn wsX0_takeBack (wsV RX0 28 RX2 yX2_fetchFrom wsX2_fetchFrom) := goodIn_app (goodIn_of _ (by decide +kernel)) ggX0_takeBack_X2_fetchFrom
theorem dX0_takeBack_0 : decode cX0_takeBack 0 = .ok (.aload_n 0, 1) := by decide +kernel
theorem dX0_takeBack_1 : decode cX0_takeBack 1 = .ok (.dup, 1) := by decide +kernel
theorem dX0_takeBack_2 : decode cX0_takeBack 2 = .ok (.getfield 17, 3) := by decide +kernel
theorem dX0_takeBack_5 : decode cX0_takeBack 5 = .ok (.iconst 1, 1) := by decide +kernel
theorem dX0_takeBack_6 : decode cX0_takeBack 6 = .ok (.isub, 1) := by decide +kernel
theorem dX0_takeBack_7 : decode cX0_takeBack 7 = .ok (.putfield 17, 3) := by decide +kernel
theorem dX0_takeBack_10 : decode cX0_takeBack 10 = .ok (.aload_n 1, 1) := by decide +kernel
theorem dX0_takeBack_11 : decode cX0_takeBack 11 = .ok (.aload_n 0, 1) := by decide +kernel
theorem dX0_takeBack_12 : decode cX0_takeBack 12 = .ok (.getfield 11, 3) := by decide +kernel
theorem dX0_takeBack_15 : decode cX0_takeBack 15 = .ok (.aload_n 0, 1) := by decide +kernel
theorem dX0_takeBack_16 : decode cX0_takeBack 16 = .ok (.getfield 21, 3) := by decide +kernel
theorem dX0_takeBack_19 : decode cX0_takeBack 19 = .ok (.aload_n 0, 1) := by decide +kernel
theorem dX0_takeBack_20 : decode cX0_takeBack 20 = .ok (.getfield 17, 3) := by decide +kernel
theorem dX0_takeBack_23 : decode cX0_takeBack 23 = .ok (.iadd, 1) := by decide +kernel
theorem dX0_takeBack_24 : decode cX0_takeBack 24 = .ok (.bipush 14, 2) := by decide +kernel
theorem dX0_takeBack_26 : decode cX0_takeBack 26 = .ok (.irem, 1) := by decide +kernel
theorem dX0_takeBack_27 : decode cX0_takeBack 27 = .ok (.invokevirtual 28, 3) := by decide +kernel
theorem dX0_takeBack_30 : decode cX0_takeBack 30 = .ok (.return_, 1) := by decide +kernel
theorem dX1_init_0 : decode cX1_init 0 = .ok (.aload_n 0, 1) := by decide +kernel
theorem dX1_init_1 : decode cX1_init 1 = .ok (.invokespecial 1, 3) := by decide +kernel
theorem dX1_init_4 : decode cX1_init 4 = .ok (.aload_n 0, 1) := by decide +kernel
theorem dX1_init_5 : decode cX1_init 5 = .ok (.iconst 1, 1) := by decide +kernel
theorem dX1_init_6 : decode cX1_init 6 = .ok (.putfield 7, 3) := by decide +kernel
theorem dX1_init_9 : decode cX1_init 9 = .ok (.return_, 1) := by decide +kernel
theorem dX1_layOut_0 : decode cX1_layOut 0 = .ok (.aload_n 0, 1) := by decide +kernel
theorem dX1_layOut_1 : decode cX1_layOut 1 = .ok (.iload_n 1, 1) := by decide +kernel
theorem dX1_layOut_2 : decode cX1_layOut 2 = .ok (.putfield 7, 3) := by decide +kernel
theorem dX1_layOut_5 : decode cX1_layOut 5 = .ok (.aload_n 0, 1) := by decide +kernel
theorem dX1_layOut_6 : decode cX1_layOut 6 = .ok (.iconst 0, 1) := by decide +kernel
theorem dX1_layOut_7 : decode cX1_layOut 7 = .ok (.putfield 13, 3) := by decide +kernel
theorem dX1_layOut_10 : decode cX1_layOut 10 = .ok (.aload_n 0, 1) := by decide +kernel
theorem dX1_layOut_11 : decode cX1_layOut 11 = .ok (.iconst 0, 1) := by decide +kernel
theorem dX1_layOut_12 : decode cX1_layOut 12 = .ok (.putfield 16, 3) := by decide +kernel
theorem dX1_layOut_15 : decode cX1_layOut 15 = .ok (.aload_n 0, 1) := by decide +kernel
theorem dX1_layOut_16 : decode cX1_layOut 16 = .ok (.iconst 0, 1) := by decide +kernel
theorem dX1_layOut_17 : decode cX1_layOut 17 = .ok (.putfield 19, 3) := by decide +kernel
theorem dX1_layOut_20 : decode cX1_layOut 20 = .ok (.aload_n 0, 1) := by decide +kernel
theorem dX1_layOut_21 : decode cX1_layOut 21 = .ok (.iconst 0, 1) := by decide +kernel
theorem dX1_layOut_22 : decode cX1_layOut 22 = .ok (.putfield 22, 3) := by decide +kernel
theorem dX1_layOut_25 : decode cX1_layOut 25 = .ok (.return_, 1) := by decide +kernel
theorem dX1_addLegger_0 : decode cX1_addLegger 0 = .ok (.aload_n 0, 1) := by decide +kernel
theorem dX1_addLegger_1 : decode cX1_addLegger 1 = .ok (.dup, 1) := by decide +kernel
theorem dX1_addLegger_2 : decode cX1_addLegger 2 = .ok (.getfield 19, 3) := by decide +kernel
theorem dX1_addLegger_5 : decode cX1_addLegger 5 = .ok (.iload_n 1, 1) := by decide +kernel
theorem dX1_addLegger_6 : decode cX1_addLegger 6 = .ok (.iconst 2, 1) := by decide +kernel
theorem dX1_addLegger_7 : decode cX1_addLegger 7 = .ok (.aload_n 0, 1) := by decide +kernel
theorem dX1_addLegger_8 : decode cX1_addLegger 8 = .ok (.getfield 13, 3) := by decide +kernel
theorem dX1_addLegger_11 : decode cX1_addLegger 11 = .ok (.imul, 1) := by decide +kernel
theorem dX1_addLegger_12 : decode cX1_addLegger 12 = .ok (.ishl, 1) := by decide +kernel
theorem dX1_addLegger_13 : decode cX1_addLegger 13 = .ok (.ior, 1) := by decide +kernel
theorem dX1_addLegger_14 : decode cX1_addLegger 14 = .ok (.putfield 19, 3) := by decide +kernel
theorem dX1_addLegger_17 : decode cX1_addLegger 17 = .ok (.aload_n 0, 1) := by decide +kernel
theorem dX1_addLegger_18 : decode cX1_addLegger 18 = .ok (.dup, 1) := by decide +kernel
theorem dX1_addLegger_19 : decode cX1_addLegger 19 = .ok (.getfield 13, 3) := by decide +kernel
theorem dX1_addLegger_22 : decode cX1_addLegger 22 = .ok (.iconst 1, 1) := by decide +kernel
theorem dX1_addLegger_23 : decode cX1_addLegger 23 = .ok (.iadd, 1) := by decide +kernel
theorem dX1_addLegger_24 : decode cX1_addLegger 24 = .ok (.putfield 13, 3) := by decide +kernel
theorem dX1_addLegger_27 : decode cX1_addLegger 27 = .ok (.return_, 1) := by decide +kernel
theorem dX1_addBoat_0 : decode cX1_addBoat 0 = .ok (.aload_n 0, 1) := by decide +kernel
theorem dX1_addBoat_1 : decode cX1_addBoat 1 = .ok (.dup, 1) := by decide +kernel
theorem dX1_addBoat_2 : decode cX1_addBoat 2 = .ok (.getfield 22, 3) := by decide +kernel
theorem dX1_addBoat_5 : decode cX1_addBoat 5 = .ok (.iload_n 1, 1) := by decide +kernel
theorem dX1_addBoat_6 : decode cX1_addBoat 6 = .ok (.iconst 4, 1) := by decide +kernel
theorem dX1_addBoat_7 : decode cX1_addBoat 7 = .ok (.aload_n 0, 1) := by decide +kernel
theorem dX1_addBoat_8 : decode cX1_addBoat 8 = .ok (.getfield 16, 3) := by decide +kernel
theorem dX1_addBoat_11 : decode cX1_addBoat 11 = .ok (.imul, 1) := by decide +kernel
theorem dX1_addBoat_12 : decode cX1_addBoat 12 = .ok (.ishl, 1) := by decide +kernel
theorem dX1_addBoat_13 : decode cX1_addBoat 13 = .ok (.ior, 1) := by decide +kernel
theorem dX1_addBoat_14 : decode cX1_addBoat 14 = .ok (.putfield 22, 3) := by decide +kernel
theorem dX1_addBoat_17 : decode cX1_addBoat 17 = .ok (.aload_n 0, 1) := by decide +kernel
theorem dX1_addBoat_18 : decode cX1_addBoat 18 = .ok (.dup, 1) := by decide +kernel
theorem dX1_addBoat_19 : decode cX1_addBoat 19 = .ok (.getfield 16, 3) := by decide +kernel
theorem dX1_addBoat_22 : decode cX1_addBoat 22 = .ok (.iconst 1, 1) := by decide +kernel
theorem dX1_addBoat_23 : decode cX1_addBoat 23 = .ok (.iadd, 1) := by decide +kernel
theorem dX1_addBoat_24 : decode cX1_addBoat 24 = .ok (.putfield 16, 3) := by decide +kernel
theorem dX1_addBoat_27 : decode cX1_addBoat 27 = .ok (.return_, 1) := by decide +kernel
theorem dX1_hasLegger_0 : decode cX1_hasLegger 0 = .ok (.iload_n 1, 1) := by decide +kernel
theorem dX1_hasLegger_1 : decode cX1_hasLegger 1 = .ok (.ifCond .lt 15, 3) := by decide +kernel
theorem dX1_hasLegger_4 : decode cX1_hasLegger 4 = .ok (.iload_n 1, 1) := by decide +kernel
theorem dX1_hasLegger_5 : decode cX1_hasLegger 5 = .ok (.aload_n 0, 1) := by decide +kernel
theorem dX1_hasLegger_6 : decode cX1_hasLegger 6 = .ok (.getfield 13, 3) := by decide +kernel
theorem dX1_hasLegger_9 : decode cX1_hasLegger 9 = .ok (.if_icmp .ge 7, 3) := by decide +kernel
theorem dX1_hasLegger_12 : decode cX1_hasLegger 12 = .ok (.iconst 1, 1) := by decide +kernel
theorem dX1_hasLegger_13 : decode cX1_hasLegger 13 = .ok (.goto 4, 3) := by decide +kernel
theorem dX1_hasLegger_16 : decode cX1_hasLegger 16 = .ok (.iconst 0, 1) := by decide +kernel
theorem dX1_hasLegger_17 : decode cX1_hasLegger 17 = .ok (.ireturn, 1) := by decide +kernel
theorem dX1_hasBoat_0 : decode cX1_hasBoat 0 = .ok (.iload_n 1, 1) := by decide +kernel
theorem dX1_hasBoat_1 : decode cX1_hasBoat 1 = .ok (.ifCond .lt 15, 3) := by decide +kernel
theorem dX1_hasBoat_4 : decode cX1_hasBoat 4 = .ok (.iload_n 1, 1) := by decide +kernel
theorem dX1_hasBoat_5 : decode cX1_hasBoat 5 = .ok (.aload_n 0, 1) := by decide +kernel
theorem dX1_hasBoat_6 : decode cX1_hasBoat 6 = .ok (.getfield 16, 3) := by decide +kernel
theorem dX1_hasBoat_9 : decode cX1_hasBoat 9 = .ok (.if_icmp .ge 7, 3) := by decide +kernel
theorem dX1_hasBoat_12 : decode cX1_hasBoat 12 = .ok (.iconst 1, 1) := by decide +kernel
theorem dX1_hasBoat_13 : decode cX1_hasBoat 13 = .ok (.goto 4, 3) := by decide +kernel
theorem dX1_hasBoat_16 : decode cX1_hasBoat 16 = .ok (.iconst 0, 1) := by decide +kernel
theorem dX1_hasBoat_17 : decode cX1_hasBoat 17 = .ok (.ireturn, 1) := by decide +kernel
theorem dX1_allLeggers_0 : decode cX1_allLeggers 0 = .ok (.iconst 1, 1) := by decide +kernel
theorem dX1_allLeggers_1 : decode cX1_allLeggers 1 = .ok (.aload_n 0, 1) := by decide +kernel
theorem dX1_allLeggers_2 : decode cX1_allLeggers 2 = .ok (.getfield 13, 3) := by decide +kernel
theorem dX1_allLeggers_5 : decode cX1_allLeggers 5 = .ok (.ishl, 1) := by decide +kernel
theorem dX1_allLeggers_6 : decode cX1_allLeggers 6 = .ok (.iconst 1, 1) := by decide +kernel
theorem dX1_allLeggers_7 : decode cX1_allLeggers 7 = .ok (.isub, 1) := by decide +kernel
theorem dX1_allLeggers_8 : decode cX1_allLeggers 8 = .ok (.ireturn, 1) := by decide +kernel
theorem dX1_allBoats_0 : decode cX1_allBoats 0 = .ok (.iconst 1, 1) := by decide +kernel
theorem dX1_allBoats_1 : decode cX1_allBoats 1 = .ok (.aload_n 0, 1) := by decide +kernel
theorem dX1_allBoats_2 : decode cX1_allBoats 2 = .ok (.getfield 16, 3) := by decide +kernel
theorem dX1_allBoats_5 : decode cX1_allBoats 5 = .ok (.ishl, 1) := by decide +kernel
theorem dX1_allBoats_6 : decode cX1_allBoats 6 = .ok (.iconst 1, 1) := by decide +kernel
theorem dX1_allBoats_7 : decode cX1_allBoats 7 = .ok (.isub, 1) := by decide +kernel
theorem dX1_allBoats_8 : decode cX1_allBoats 8 = .ok (.ireturn, 1) := by decide +kernel
theorem dX1_kindOf_0 : decode cX1_kindOf 0 = .ok (.aload_n 0, 1) := by decide +kernel
theorem dX1_kindOf_1 : decode cX1_kindOf 1 = .ok (.getfield 19, 3) := by decide +kernel
theorem dX1_kindOf_4 : decode cX1_kindOf 4 = .ok (.iconst 2, 1) := by decide +kernel
theorem dX1_kindOf_5 : decode cX1_kindOf 5 = .ok (.iload_n 1, 1) := by decide +kernel
theorem dX1_kindOf_6 : decode cX1_kindOf 6 = .ok (.imul, 1) := by decide +kernel
theorem dX1_kindOf_7 : decode cX1_kindOf 7 = .ok (.iushr, 1) := by decide +kernel
theorem dX1_kindOf_8 : decode cX1_kindOf 8 = .ok (.iconst 3, 1) := by decide +kernel
theorem dX1_kindOf_9 : decode cX1_kindOf 9 = .ok (.iand, 1) := by decide +kernel
theorem dX1_kindOf_10 : decode cX1_kindOf 10 = .ok (.ireturn, 1) := by decide +kernel
theorem dX1_loadOf_0 : decode cX1_loadOf 0 = .ok (.aload_n 0, 1) := by decide +kernel
theorem dX1_loadOf_1 : decode cX1_loadOf 1 = .ok (.getfield 22, 3) := by decide +kernel
theorem dX1_loadOf_4 : decode cX1_loadOf 4 = .ok (.iconst 4, 1) := by decide +kernel
theorem dX1_loadOf_5 : decode cX1_loadOf 5 = .ok (.iload_n 1, 1) := by decide +kernel
theorem dX1_loadOf_6 : decode cX1_loadOf 6 = .ok (.imul, 1) := by decide +kernel
theorem dX1_loadOf_7 : decode cX1_loadOf 7 = .ok (.iushr, 1) := by decide +kernel
theorem dX1_loadOf_8 : decode cX1_loadOf 8 = .ok (.bipush 15, 2) := by decide +kernel
theorem dX1_loadOf_10 : decode cX1_loadOf 10 = .ok (.iand, 1) := by decide +kernel
theorem dX1_loadOf_11 : decode cX1_loadOf 11 = .ok (.ireturn, 1) := by decide +kernel
theorem dX2_init_0 : decode cX2_init 0 = .ok (.aload_n 0, 1) := by decide +kernel
theorem dX2_init_1 : decode cX2_init 1 = .ok (.invokespecial 3, 3) := by decide +kernel
theorem dX2_init_4 : decode cX2_init 4 = .ok (.return_, 1) := by decide +kernel
theorem dX2_clear_0 : decode cX2_clear 0 = .ok (.aload_n 0, 1) := by decide +kernel
theorem dX2_clear_1 : decode cX2_clear 1 = .ok (.iconst 0, 1) := by decide +kernel
theorem dX2_clear_2 : decode cX2_clear 2 = .ok (.putfield 9, 3) := by decide +kernel
theorem dX2_clear_5 : decode cX2_clear 5 = .ok (.aload_n 0, 1) := by decide +kernel
theorem dX2_clear_6 : decode cX2_clear 6 = .ok (.iconst 0, 1) := by decide +kernel
theorem dX2_clear_7 : decode cX2_clear 7 = .ok (.putfield 15, 3) := by decide +kernel
theorem dX2_clear_10 : decode cX2_clear 10 = .ok (.aload_n 0, 1) := by decide +kernel
theorem dX2_clear_11 : decode cX2_clear 11 = .ok (.iconst 0, 1) := by decide +kernel
theorem dX2_clear_12 : decode cX2_clear 12 = .ok (.putfield 18, 3) := by decide +kernel
theorem dX2_clear_15 : decode cX2_clear 15 = .ok (.aload_n 0, 1) := by decide +kernel
theorem dX2_clear_16 : decode cX2_clear 16 = .ok (.iconst 0, 1) := by decide +kernel
theorem dX2_clear_17 : decode cX2_clear 17 = .ok (.putfield 21, 3) := by decide +kernel
theorem dX2_clear_20 : decode cX2_clear 20 = .ok (.return_, 1) := by decide +kernel
set_option maxRecDepth 20000 in
theorem ggX2_groundAt_X4_groundIn : GoodIn wsX2_groundAt wsX4_groundIn := goodIn_r _ [4] (by decide +kernel) (by decide +kernel)
set_option maxRecDepth 20000 in
theorem gX2_groundAt_X4_groundIn_n24 : GoodIn wsX2_groundAt (wsX4_groundIn) := ggX2_groundAt_X4_groundIn
theorem dX2_groundAt_0 : decode cX2_groundAt 0 = .ok (.aload_n 0, 1) := by decide +kernel
theorem dX2_groundAt_1 : decode cX2_groundAt 1 = .ok (.getfield 9, 3) := by decide +kernel
theorem dX2_groundAt_4 : decode cX2_groundAt 4 = .ok (.bipush 8, 2) := by decide +kernel
theorem dX2_groundAt_6 : decode cX2_groundAt 6 = .ok (.iload_n 1, 1) := by decide +kernel
theorem dX2_groundAt_7 : decode cX2_groundAt 7 = .ok (.imul, 1) := by decide +kernel
theorem dX2_groundAt_8 : decode cX2_groundAt 8 = .ok (.iushr, 1) := by decide +kernel
theorem dX2_groundAt_9 : decode cX2_groundAt 9 = .ok (.iload_n 2, 1) := by decide +kernel
theorem dX2_groundAt_10 : decode cX2_groundAt 10 = .ok (.invokestatic 24, 3) := by decide +kernel
theorem dX2_groundAt_13 : decode cX2_groundAt 13 = .ok (.ireturn, 1) := by decide +kernel
theorem dX2_cover_0 : decode cX2_cover 0 = .ok (.bipush 8, 2) := by decide +kernel
theorem dX2_cover_2 : decode cX2_cover 2 = .ok (.iload_n 1, 1) := by decide +kernel
theorem dX2_cover_3 : decode cX2_cover 3 = .ok (.imul, 1) := by decide +kernel
theorem dX2_cover_4 : decode cX2_cover 4 = .ok (.iconst 2, 1) := by decide +kernel
theorem dX2_cover_5 : decode cX2_cover 5 = .ok (.iload_n 2, 1) := by decide +kernel
theorem dX2_cover_6 : decode cX2_cover 6 = .ok (.imul, 1) := by decide +kernel
theorem dX2_cover_7 : decode cX2_cover 7 = .ok (.iadd, 1) := by decide +kernel
theorem dX2_cover_8 : decode cX2_cover 8 = .ok (.istore 4, 2) := by decide +kernel
theorem dX2_cover_10 : decode cX2_cover 10 = .ok (.aload_n 0, 1) := by decide +kernel
theorem dX2_cover_11 : decode cX2_cover 11 = .ok (.aload_n 0, 1) := by decide +kernel
theorem dX2_cover_12 : decode cX2_cover 12 = .ok (.getfield 9, 3) := by decide +kernel
theorem dX2_cover_15 : decode cX2_cover 15 = .ok (.iconst 3, 1) := by decide +kernel
theorem dX2_cover_16 : decode cX2_cover 16 = .ok (.iload 4, 2) := by decide +kernel
theorem dX2_cover_18 : decode cX2_cover 18 = .ok (.ishl, 1) := by decide +kernel
theorem dX2_cover_19 : decode cX2_cover 19 = .ok (.iconst (-1), 1) := by decide +kernel
theorem dX2_cover_20 : decode cX2_cover 20 = .ok (.ixor, 1) := by decide +kernel
theorem dX2_cover_21 : decode cX2_cover 21 = .ok (.iand, 1) := by decide +kernel
theorem dX2_cover_22 : decode cX2_cover 22 = .ok (.iload_n 3, 1) := by decide +kernel
theorem dX2_cover_23 : decode cX2_cover 23 = .ok (.iload 4, 2) := by decide +kernel
theorem dX2_cover_25 : decode cX2_cover 25 = .ok (.ishl, 1) := by decide +kernel
theorem dX2_cover_26 : decode cX2_cover 26 = .ok (.ior, 1) := by decide +kernel
theorem dX2_cover_27 : decode cX2_cover 27 = .ok (.putfield 9, 3) := by decide +kernel
theorem dX2_cover_30 : decode cX2_cover 30 = .ok (.return_, 1) := by decide +kernel
set_option maxRecDepth 20000 in
theorem ggX2_wetPlaces_X2_groundAt : GoodIn wsX2_wetPlaces wsX2_groundAt := goodIn_r _ [5, 6, 7, 8, 9, 10, 11, 12, 13] (by decide +kernel) (by decide +kernel)
set_option maxRecDepth 20000 in
theorem gX2_wetPlaces_X2_groundAt : GoodIn wsX2_wetPlaces (wsV RX2 28 RX2 yX2_groundAt wsX2_groundAt) := goodIn_app (goodIn_of _ (by decide +kernel)) ggX2_wetPlaces_X2_groundAt
theorem dX2_wetPlaces_0 : decode cX2_wetPlaces 0 = .ok (.iconst 0, 1) := by decide +kernel
theorem dX2_wetPlaces_1 : decode cX2_wetPlaces 1 = .ok (.istore_n 2, 1) := by decide +kernel
theorem dX2_wetPlaces_2 : decode cX2_wetPlaces 2 = .ok (.iconst 0, 1) := by decide +kernel
theorem dX2_wetPlaces_3 : decode cX2_wetPlaces 3 = .ok (.istore_n 3, 1) := by decide +kernel
theorem dX2_wetPlaces_4 : decode cX2_wetPlaces 4 = .ok (.iload_n 3, 1) := by decide +kernel
theorem dX2_wetPlaces_5 : decode cX2_wetPlaces 5 = .ok (.iconst 4, 1) := by decide +kernel
theorem dX2_wetPlaces_6 : decode cX2_wetPlaces 6 = .ok (.if_icmp .ge 27, 3) := by decide +kernel
theorem dX2_wetPlaces_9 : decode cX2_wetPlaces 9 = .ok (.iload_n 2, 1) := by decide +kernel
theorem dX2_wetPlaces_10 : decode cX2_wetPlaces 10 = .ok (.aload_n 0, 1) := by decide +kernel
theorem dX2_wetPlaces_11 : decode cX2_wetPlaces 11 = .ok (.iload_n 1, 1) := by decide +kernel
theorem dX2_wetPlaces_12 : decode cX2_wetPlaces 12 = .ok (.iload_n 3, 1) := by decide +kernel
theorem dX2_wetPlaces_13 : decode cX2_wetPlaces 13 = .ok (.invokevirtual 28, 3) := by decide +kernel
theorem dX2_wetPlaces_16 : decode cX2_wetPlaces 16 = .ok (.iconst 2, 1) := by decide +kernel
theorem dX2_wetPlaces_17 : decode cX2_wetPlaces 17 = .ok (.if_icmp .ne 7, 3) := by decide +kernel
theorem dX2_wetPlaces_20 : decode cX2_wetPlaces 20 = .ok (.iconst 1, 1) := by decide +kernel
theorem dX2_wetPlaces_21 : decode cX2_wetPlaces 21 = .ok (.goto 4, 3) := by decide +kernel
theorem dX2_wetPlaces_24 : decode cX2_wetPlaces 24 = .ok (.iconst 0, 1) := by decide +kernel
theorem dX2_wetPlaces_25 : decode cX2_wetPlaces 25 = .ok (.iadd, 1) := by decide +kernel
theorem dX2_wetPlaces_26 : decode cX2_wetPlaces 26 = .ok (.istore_n 2, 1) := by decide +kernel
theorem dX2_wetPlaces_27 : decode cX2_wetPlaces 27 = .ok (.iinc 3 1, 3) := by decide +kernel
theorem dX2_wetPlaces_30 : decode cX2_wetPlaces 30 = .ok (.goto (-26), 3) := by decide +kernel
theorem dX2_wetPlaces_33 : decode cX2_wetPlaces 33 = .ok (.iload_n 2, 1) := by decide +kernel
theorem dX2_wetPlaces_34 : decode cX2_wetPlaces 34 = .ok (.ireturn, 1) := by decide +kernel
theorem dX2_storeIn_0 : decode cX2_storeIn 0 = .ok (.iload_n 2, 1) := by decide +kernel
theorem dX2_storeIn_1 : decode cX2_storeIn 1 = .ok (.iconst 4, 1) := by decide +kernel
theorem dX2_storeIn_2 : decode cX2_storeIn 2 = .ok (.imul, 1) := by decide +kernel
theorem dX2_storeIn_3 : decode cX2_storeIn 3 = .ok (.istore_n 3, 1) := by decide +kernel
theorem dX2_storeIn_4 : decode cX2_storeIn 4 = .ok (.iload_n 3, 1) := by decide +kernel
theorem dX2_storeIn_5 : decode cX2_storeIn 5 = .ok (.ifCond .lt 45, 3) := by decide +kernel
theorem dX2_storeIn_8 : decode cX2_storeIn 8 = .ok (.iload_n 3, 1) := by decide +kernel
theorem dX2_storeIn_9 : decode cX2_storeIn 9 = .ok (.aload_n 1, 1) := by decide +kernel
theorem dX2_storeIn_10 : decode cX2_storeIn 10 = .ok (.arraylength, 1) := by decide +kernel
theorem dX2_storeIn_11 : decode cX2_storeIn 11 = .ok (.iconst 4, 1) := by decide +kernel
theorem dX2_storeIn_12 : decode cX2_storeIn 12 = .ok (.isub, 1) := by decide +kernel
theorem dX2_storeIn_13 : decode cX2_storeIn 13 = .ok (.if_icmp .gt 37, 3) := by decide +kernel
theorem dX2_storeIn_16 : decode cX2_storeIn 16 = .ok (.aload_n 1, 1) := by decide +kernel
theorem dX2_storeIn_17 : decode cX2_storeIn 17 = .ok (.iload_n 3, 1) := by decide +kernel
theorem dX2_storeIn_18 : decode cX2_storeIn 18 = .ok (.aload_n 0, 1) := by decide +kernel
theorem dX2_storeIn_19 : decode cX2_storeIn 19 = .ok (.getfield 9, 3) := by decide +kernel
theorem dX2_storeIn_22 : decode cX2_storeIn 22 = .ok (.iastore, 1) := by decide +kernel
theorem dX2_storeIn_23 : decode cX2_storeIn 23 = .ok (.aload_n 1, 1) := by decide +kernel
theorem dX2_storeIn_24 : decode cX2_storeIn 24 = .ok (.iload_n 3, 1) := by decide +kernel
theorem dX2_storeIn_25 : decode cX2_storeIn 25 = .ok (.iconst 1, 1) := by decide +kernel
theorem dX2_storeIn_26 : decode cX2_storeIn 26 = .ok (.iadd, 1) := by decide +kernel
theorem dX2_storeIn_27 : decode cX2_storeIn 27 = .ok (.aload_n 0, 1) := by decide +kernel
theorem dX2_storeIn_28 : decode cX2_storeIn 28 = .ok (.getfield 15, 3) := by decide +kernel
theorem dX2_storeIn_31 : decode cX2_storeIn 31 = .ok (.iastore, 1) := by decide +kernel
theorem dX2_storeIn_32 : decode cX2_storeIn 32 = .ok (.aload_n 1, 1) := by decide +kernel
theorem dX2_storeIn_33 : decode cX2_storeIn 33 = .ok (.iload_n 3, 1) := by decide +kernel
theorem dX2_storeIn_34 : decode cX2_storeIn 34 = .ok (.iconst 2, 1) := by decide +kernel
theorem dX2_storeIn_35 : decode cX2_storeIn 35 = .ok (.iadd, 1) := by decide +kernel
theorem dX2_storeIn_36 : decode cX2_storeIn 36 = .ok (.aload_n 0, 1) := by decide +kernel
theorem dX2_storeIn_37 : decode cX2_storeIn 37 = .ok (.getfield 18, 3) := by decide +kernel
theorem dX2_storeIn_40 : decode cX2_storeIn 40 = .ok (.iastore, 1) := by decide +kernel
theorem dX2_storeIn_41 : decode cX2_storeIn 41 = .ok (.aload_n 1, 1) := by decide +kernel
theorem dX2_storeIn_42 : decode cX2_storeIn 42 = .ok (.iload_n 3, 1) := by decide +kernel
theorem dX2_storeIn_43 : decode cX2_storeIn 43 = .ok (.iconst 3, 1) := by decide +kernel
theorem dX2_storeIn_44 : decode cX2_storeIn 44 = .ok (.iadd, 1) := by decide +kernel
theorem dX2_storeIn_45 : decode cX2_storeIn 45 = .ok (.aload_n 0, 1) := by decide +kernel
theorem dX2_storeIn_46 : decode cX2_storeIn 46 = .ok (.getfield 21, 3) := by decide +kernel
theorem dX2_storeIn_49 : decode cX2_storeIn 49 = .ok (.iastore, 1) := by decide +kernel
theorem dX2_storeIn_50 : decode cX2_storeIn 50 = .ok (.return_, 1) := by decide +kernel
theorem dX2_fetchFrom_0 : decode cX2_fetchFrom 0 = .ok (.iload_n 2, 1) := by decide +kernel
theorem dX2_fetchFrom_1 : decode cX2_fetchFrom 1 = .ok (.iconst 4, 1) := by decide +kernel
theorem dX2_fetchFrom_2 : decode cX2_fetchFrom 2 = .ok (.imul, 1) := by decide +kernel
theorem dX2_fetchFrom_3 : decode cX2_fetchFrom 3 = .ok (.istore_n 3, 1) := by decide +kernel
theorem dX2_fetchFrom_4 : decode cX2_fetchFrom 4 = .ok (.iload_n 3, 1) := by decide +kernel
theorem dX2_fetchFrom_5 : decode cX2_fetchFrom 5 = .ok (.ifCond .lt 45, 3) := by decide +kernel
theorem dX2_fetchFrom_8 : decode cX2_fetchFrom 8 = .ok (.iload_n 3, 1) := by decide +kernel
theorem dX2_fetchFrom_9 : decode cX2_fetchFrom 9 = .ok (.aload_n 1, 1) := by decide +kernel
theorem dX2_fetchFrom_10 : decode cX2_fetchFrom 10 = .ok (.arraylength, 1) := by decide +kernel
theorem dX2_fetchFrom_11 : decode cX2_fetchFrom 11 = .ok (.iconst 4, 1) := by decide +kernel
theorem dX2_fetchFrom_12 : decode cX2_fetchFrom 12 = .ok (.isub, 1) := by decide +kernel
theorem dX2_fetchFrom_13 : decode cX2_fetchFrom 13 = .ok (.if_icmp .gt 37, 3) := by decide +kernel
theorem dX2_fetchFrom_16 : decode cX2_fetchFrom 16 = .ok (.aload_n 0, 1) := by decide +kernel
theorem dX2_fetchFrom_17 : decode cX2_fetchFrom 17 = .ok (.aload_n 1, 1) := by decide +kernel
theorem dX2_fetchFrom_18 : decode cX2_fetchFrom 18 = .ok (.iload_n 3, 1) := by decide +kernel
theorem dX2_fetchFrom_19 : decode cX2_fetchFrom 19 = .ok (.iaload, 1) := by decide +kernel
theorem dX2_fetchFrom_20 : decode cX2_fetchFrom 20 = .ok (.putfield 9, 3) := by decide +kernel
theorem dX2_fetchFrom_23 : decode cX2_fetchFrom 23 = .ok (.aload_n 0, 1) := by decide +kernel
theorem dX2_fetchFrom_24 : decode cX2_fetchFrom 24 = .ok (.aload_n 1, 1) := by decide +kernel
theorem dX2_fetchFrom_25 : decode cX2_fetchFrom 25 = .ok (.iload_n 3, 1) := by decide +kernel
theorem dX2_fetchFrom_26 : decode cX2_fetchFrom 26 = .ok (.iconst 1, 1) := by decide +kernel
theorem dX2_fetchFrom_27 : decode cX2_fetchFrom 27 = .ok (.iadd, 1) := by decide +kernel
theorem dX2_fetchFrom_28 : decode cX2_fetchFrom 28 = .ok (.iaload, 1) := by decide +kernel
theorem dX2_fetchFrom_29 : decode cX2_fetchFrom 29 = .ok (.putfield 15, 3) := by decide +kernel
theorem dX2_fetchFrom_32 : decode cX2_fetchFrom 32 = .ok (.aload_n 0, 1) := by decide +kernel
theorem dX2_fetchFrom_33 : decode cX2_fetchFrom 33 = .ok (.aload_n 1, 1) := by decide +kernel
theorem dX2_fetchFrom_34 : decode cX2_fetchFrom 34 = .ok (.iload_n 3, 1) := by decide +kernel
theorem dX2_fetchFrom_35 : decode cX2_fetchFrom 35 = .ok (.iconst 2, 1) := by decide +kernel
theorem dX2_fetchFrom_36 : decode cX2_fetchFrom 36 = .ok (.iadd, 1) := by decide +kernel
theorem dX2_fetchFrom_37 : decode cX2_fetchFrom 37 = .ok (.iaload, 1) := by decide +kernel
theorem dX2_fetchFrom_38 : decode cX2_fetchFrom 38 = .ok (.putfield 18, 3) := by decide +kernel
theorem dX2_fetchFrom_41 : decode cX2_fetchFrom 41 = .ok (.aload_n 0, 1) := by decide +kernel
theorem dX2_fetchFrom_42 : decode cX2_fetchFrom 42 = .ok (.aload_n 1, 1) := by decide +kernel
theorem dX2_fetchFrom_43 : decode cX2_fetchFrom 43 = .ok (.iload_n 3, 1) := by decide +kernel
theorem dX2_fetchFrom_44 : decode cX2_fetchFrom 44 = .ok (.iconst 3, 1) := by decide +kernel
theorem dX2_fetchFrom_45 : decode cX2_fetchFrom 45 = .ok (.iadd, 1) := by decide +kernel
theorem dX2_fetchFrom_46 : decode cX2_fetchFrom 46 = .ok (.iaload, 1) := by decide +kernel
theorem dX2_fetchFrom_47 : decode cX2_fetchFrom 47 = .ok (.putfield 21, 3) := by decide +kernel
theorem dX2_fetchFrom_50 : decode cX2_fetchFrom 50 = .ok (.return_, 1) := by decide +kernel
theorem dX3_init_0 : decode cX3_init 0 = .ok (.aload_n 0, 1) := by decide +kernel
theorem dX3_init_1 : decode cX3_init 1 = .ok (.invokespecial 3, 3) := by decide +kernel
theorem dX3_init_4 : decode cX3_init 4 = .ok (.aload_n 0, 1) := by decide +kernel
theorem dX3_init_5 : decode cX3_init 5 = .ok (.bipush 40, 2) := by decide +kernel
theorem dX3_init_7 : decode cX3_init 7 = .ok (.newarray .int, 2) := by decide +kernel
theorem dX3_init_9 : decode cX3_init 9 = .ok (.putfield 9, 3) := by decide +kernel
theorem dX3_init_12 : decode cX3_init 12 = .ok (.return_, 1) := by decide +kernel
theorem dX3_append_0 : decode cX3_append 0 = .ok (.aload_n 0, 1) := by decide +kernel
theorem dX3_append_1 : decode cX3_append 1 = .ok (.getfield 15, 3) := by decide +kernel
theorem dX3_append_4 : decode cX3_append 4 = .ok (.ifCond .lt 15, 3) := by decide +kernel
theorem dX3_append_7 : decode cX3_append 7 = .ok (.aload_n 0, 1) := by decide +kernel
theorem dX3_append_8 : decode cX3_append 8 = .ok (.getfield 15, 3) := by decide +kernel
theorem dX3_append_11 : decode cX3_append 11 = .ok (.aload_n 0, 1) := by decide +kernel
theorem dX3_append_12 : decode cX3_append 12 = .ok (.getfield 9, 3) := by decide +kernel
theorem dX3_append_15 : decode cX3_append 15 = .ok (.arraylength, 1) := by decide +kernel
theorem dX3_append_16 : decode cX3_append 16 = .ok (.if_icmp .lt 5, 3) := by decide +kernel
theorem dX3_append_19 : decode cX3_append 19 = .ok (.iconst 0, 1) := by decide +kernel
theorem dX3_append_20 : decode cX3_append 20 = .ok (.ireturn, 1) := by decide +kernel
theorem dX3_append_21 : decode cX3_append 21 = .ok (.aload_n 0, 1) := by decide +kernel
theorem dX3_append_22 : decode cX3_append 22 = .ok (.getfield 9, 3) := by decide +kernel
theorem dX3_append_25 : decode cX3_append 25 = .ok (.aload_n 0, 1) := by decide +kernel
theorem dX3_append_26 : decode cX3_append 26 = .ok (.getfield 15, 3) := by decide +kernel
theorem dX3_append_29 : decode cX3_append 29 = .ok (.iload_n 1, 1) := by decide +kernel
theorem dX3_append_30 : decode cX3_append 30 = .ok (.iastore, 1) := by decide +kernel
theorem dX3_append_31 : decode cX3_append 31 = .ok (.aload_n 0, 1) := by decide +kernel
theorem dX3_append_32 : decode cX3_append 32 = .ok (.dup, 1) := by decide +kernel
theorem dX3_append_33 : decode cX3_append 33 = .ok (.getfield 15, 3) := by decide +kernel
theorem dX3_append_36 : decode cX3_append 36 = .ok (.iconst 1, 1) := by decide +kernel
theorem dX3_append_37 : decode cX3_append 37 = .ok (.iadd, 1) := by decide +kernel
theorem dX3_append_38 : decode cX3_append 38 = .ok (.putfield 15, 3) := by decide +kernel
theorem dX3_append_41 : decode cX3_append 41 = .ok (.iconst 1, 1) := by decide +kernel
theorem dX3_append_42 : decode cX3_append 42 = .ok (.ireturn, 1) := by decide +kernel
theorem dX3_letterAt_0 : decode cX3_letterAt 0 = .ok (.iload_n 1, 1) := by decide +kernel
theorem dX3_letterAt_1 : decode cX3_letterAt 1 = .ok (.ifCond .lt 29, 3) := by decide +kernel
theorem dX3_letterAt_4 : decode cX3_letterAt 4 = .ok (.iload_n 1, 1) := by decide +kernel
theorem dX3_letterAt_5 : decode cX3_letterAt 5 = .ok (.aload_n 0, 1) := by decide +kernel
theorem dX3_letterAt_6 : decode cX3_letterAt 6 = .ok (.getfield 15, 3) := by decide +kernel
theorem dX3_letterAt_9 : decode cX3_letterAt 9 = .ok (.if_icmp .ge 21, 3) := by decide +kernel
theorem dX3_letterAt_12 : decode cX3_letterAt 12 = .ok (.iload_n 1, 1) := by decide +kernel
theorem dX3_letterAt_13 : decode cX3_letterAt 13 = .ok (.aload_n 0, 1) := by decide +kernel
theorem dX3_letterAt_14 : decode cX3_letterAt 14 = .ok (.getfield 9, 3) := by decide +kernel
theorem dX3_letterAt_17 : decode cX3_letterAt 17 = .ok (.arraylength, 1) := by decide +kernel
theorem dX3_letterAt_18 : decode cX3_letterAt 18 = .ok (.if_icmp .ge 12, 3) := by decide +kernel
theorem dX3_letterAt_21 : decode cX3_letterAt 21 = .ok (.aload_n 0, 1) := by decide +kernel
theorem dX3_letterAt_22 : decode cX3_letterAt 22 = .ok (.getfield 9, 3) := by decide +kernel
theorem dX3_letterAt_25 : decode cX3_letterAt 25 = .ok (.iload_n 1, 1) := by decide +kernel
theorem dX3_letterAt_26 : decode cX3_letterAt 26 = .ok (.iaload, 1) := by decide +kernel
theorem dX3_letterAt_27 : decode cX3_letterAt 27 = .ok (.goto 4, 3) := by decide +kernel
theorem dX3_letterAt_30 : decode cX3_letterAt 30 = .ok (.iconst (-1), 1) := by decide +kernel
theorem dX3_letterAt_31 : decode cX3_letterAt 31 = .ok (.ireturn, 1) := by decide +kernel
set_option maxRecDepth 20000 in
theorem ggX3_figureAt_X3_letterAt : GoodIn wsX3_figureAt wsX3_letterAt := goodIn_r _ [5, 6, 7, 8, 9] (by decide +kernel) (by decide +kernel)
set_option maxRecDepth 20000 in
theorem gX3_figureAt_X3_letterAt : GoodIn wsX3_figureAt (wsV RX3 19 RX3 yX3_letterAt wsX3_letterAt) := goodIn_app (goodIn_of _ (by decide +kernel)) ggX3_figureAt_X3_letterAt
theorem dX3_figureAt_0 : decode cX3_figureAt 0 = .ok (.aload_n 0, 1) := by decide +kernel
theorem dX3_figureAt_1 : decode cX3_figureAt 1 = .ok (.iload_n 1, 1) := by decide +kernel
theorem dX3_figureAt_2 : decode cX3_figureAt 2 = .ok (.invokevirtual 19, 3) := by decide +kernel
theorem dX3_figureAt_5 : decode cX3_figureAt 5 = .ok (.bipush 48, 2) := by decide +kernel
theorem dX3_figureAt_7 : decode cX3_figureAt 7 = .ok (.isub, 1) := by decide +kernel
theorem dX3_figureAt_8 : decode cX3_figureAt 8 = .ok (.ireturn, 1) := by decide +kernel
set_option maxRecDepth 20000 in
theorem ggX3_firstFault_X3_letterAt : GoodIn wsX3_firstFault wsX3_letterAt := goodIn_r _ [6, 1, 7, 8, 9] (by decide +kernel) (by decide +kernel)
set_option maxRecDepth 20000 in
theorem gX3_firstFault_X3_letterAt : GoodIn wsX3_firstFault (wsV RX3 19 RX3 yX3_letterAt wsX3_letterAt) := goodIn_app (goodIn_of _ (by decide +kernel)) ggX3_firstFault_X3_letterAt
theorem dX3_firstFault_0 : decode cX3_firstFault 0 = .ok (.iconst 0, 1) := by decide +kernel
theorem dX3_firstFault_1 : decode cX3_firstFault 1 = .ok (.istore_n 1, 1) := by decide +kernel
theorem dX3_firstFault_2 : decode cX3_firstFault 2 = .ok (.iconst 0, 1) := by decide +kernel
theorem dX3_firstFault_3 : decode cX3_firstFault 3 = .ok (.istore_n 2, 1) := by decide +kernel
theorem dX3_firstFault_4 : decode cX3_firstFault 4 = .ok (.iconst 0, 1) := by decide +kernel
theorem dX3_firstFault_5 : decode cX3_firstFault 5 = .ok (.istore_n 3, 1) := by decide +kernel
theorem dX3_firstFault_6 : decode cX3_firstFault 6 = .ok (.bipush 48, 2) := by decide +kernel
theorem dX3_firstFault_8 : decode cX3_firstFault 8 = .ok (.istore 4, 2) := by decide +kernel
theorem dX3_firstFault_10 : decode cX3_firstFault 10 = .ok (.bipush 48, 2) := by decide +kernel
theorem dX3_firstFault_12 : decode cX3_firstFault 12 = .ok (.istore 5, 2) := by decide +kernel
theorem dX3_firstFault_14 : decode cX3_firstFault 14 = .ok (.iconst 0, 1) := by decide +kernel
theorem dX3_firstFault_15 : decode cX3_firstFault 15 = .ok (.istore 6, 2) := by decide +kernel
theorem dX3_firstFault_17 : decode cX3_firstFault 17 = .ok (.iload 6, 2) := by decide +kernel
theorem dX3_firstFault_19 : decode cX3_firstFault 19 = .ok (.aload_n 0, 1) := by decide +kernel
theorem dX3_firstFault_20 : decode cX3_firstFault 20 = .ok (.getfield 15, 3) := by decide +kernel
theorem dX3_firstFault_23 : decode cX3_firstFault 23 = .ok (.if_icmp .ge 138, 3) := by decide +kernel
theorem dX3_firstFault_26 : decode cX3_firstFault 26 = .ok (.aload_n 0, 1) := by decide +kernel
theorem dX3_firstFault_27 : decode cX3_firstFault 27 = .ok (.iload 6, 2) := by decide +kernel
theorem dX3_firstFault_29 : decode cX3_firstFault 29 = .ok (.invokevirtual 19, 3) := by decide +kernel
theorem dX3_firstFault_32 : decode cX3_firstFault 32 = .ok (.istore 7, 2) := by decide +kernel
theorem dX3_firstFault_34 : decode cX3_firstFault 34 = .ok (.iload_n 3, 1) := by decide +kernel
theorem dX3_firstFault_35 : decode cX3_firstFault 35 = .ok (.ifCond .le 26, 3) := by decide +kernel
theorem dX3_firstFault_38 : decode cX3_firstFault 38 = .ok (.iload 7, 2) := by decide +kernel
theorem dX3_firstFault_40 : decode cX3_firstFault 40 = .ok (.iload 4, 2) := by decide +kernel
theorem dX3_firstFault_42 : decode cX3_firstFault 42 = .ok (.if_icmp .lt 10, 3) := by decide +kernel
theorem dX3_firstFault_45 : decode cX3_firstFault 45 = .ok (.iload 7, 2) := by decide +kernel
theorem dX3_firstFault_47 : decode cX3_firstFault 47 = .ok (.iload 5, 2) := by decide +kernel
theorem dX3_firstFault_49 : decode cX3_firstFault 49 = .ok (.if_icmp .le 6, 3) := by decide +kernel
theorem dX3_firstFault_52 : decode cX3_firstFault 52 = .ok (.iload 6, 2) := by decide +kernel
theorem dX3_firstFault_54 : decode cX3_firstFault 54 = .ok (.ireturn, 1) := by decide +kernel
theorem dX3_firstFault_55 : decode cX3_firstFault 55 = .ok (.iinc 3 (-1), 3) := by decide +kernel
theorem dX3_firstFault_58 : decode cX3_firstFault 58 = .ok (.goto 97, 3) := by decide +kernel
theorem dX3_firstFault_61 : decode cX3_firstFault 61 = .ok (.iload 6, 2) := by decide +kernel
theorem dX3_firstFault_63 : decode cX3_firstFault 63 = .ok (.ifCond .ne 23, 3) := by decide +kernel
theorem dX3_firstFault_66 : decode cX3_firstFault 66 = .ok (.iload 7, 2) := by decide +kernel
theorem dX3_firstFault_68 : decode cX3_firstFault 68 = .ok (.bipush 76, 2) := by decide +kernel
theorem dX3_firstFault_70 : decode cX3_firstFault 70 = .ok (.if_icmp .ne 16, 3) := by decide +kernel
theorem dX3_firstFault_73 : decode cX3_firstFault 73 = .ok (.iconst 1, 1) := by decide +kernel
theorem dX3_firstFault_74 : decode cX3_firstFault 74 = .ok (.istore_n 3, 1) := by decide +kernel
theorem dX3_firstFault_75 : decode cX3_firstFault 75 = .ok (.bipush 49, 2) := by decide +kernel
theorem dX3_firstFault_77 : decode cX3_firstFault 77 = .ok (.istore 4, 2) := by decide +kernel
theorem dX3_firstFault_79 : decode cX3_firstFault 79 = .ok (.bipush 54, 2) := by decide +kernel
theorem dX3_firstFault_81 : decode cX3_firstFault 81 = .ok (.istore 5, 2) := by decide +kernel
theorem dX3_firstFault_83 : decode cX3_firstFault 83 = .ok (.goto 72, 3) := by decide +kernel
theorem dX3_firstFault_86 : decode cX3_firstFault 86 = .ok (.iload 6, 2) := by decide +kernel
theorem dX3_firstFault_88 : decode cX3_firstFault 88 = .ok (.ifCond .le 31, 3) := by decide +kernel
theorem dX3_firstFault_91 : decode cX3_firstFault 91 = .ok (.iload 7, 2) := by decide +kernel
theorem dX3_firstFault_93 : decode cX3_firstFault 93 = .ok (.bipush 71, 2) := by decide +kernel
theorem dX3_firstFault_95 : decode cX3_firstFault 95 = .ok (.if_icmp .ne 24, 3) := by decide +kernel
theorem dX3_firstFault_98 : decode cX3_firstFault 98 = .ok (.iload_n 1, 1) := by decide +kernel
theorem dX3_firstFault_99 : decode cX3_firstFault 99 = .ok (.iconst 4, 1) := by decide +kernel
theorem dX3_firstFault_100 : decode cX3_firstFault 100 = .ok (.if_icmp .ge 19, 3) := by decide +kernel
theorem dX3_firstFault_103 : decode cX3_firstFault 103 = .ok (.iinc 1 1, 3) := by decide +kernel
theorem dX3_firstFault_106 : decode cX3_firstFault 106 = .ok (.iconst 5, 1) := by decide +kernel
theorem dX3_firstFault_107 : decode cX3_firstFault 107 = .ok (.istore_n 3, 1) := by decide +kernel
theorem dX3_firstFault_108 : decode cX3_firstFault 108 = .ok (.bipush 48, 2) := by decide +kernel
theorem dX3_firstFault_110 : decode cX3_firstFault 110 = .ok (.istore 4, 2) := by decide +kernel
theorem dX3_firstFault_112 : decode cX3_firstFault 112 = .ok (.bipush 51, 2) := by decide +kernel
theorem dX3_firstFault_114 : decode cX3_firstFault 114 = .ok (.istore 5, 2) := by decide +kernel
theorem dX3_firstFault_116 : decode cX3_firstFault 116 = .ok (.goto 39, 3) := by decide +kernel
theorem dX3_firstFault_119 : decode cX3_firstFault 119 = .ok (.iload 6, 2) := by decide +kernel
theorem dX3_firstFault_121 : decode cX3_firstFault 121 = .ok (.ifCond .le 31, 3) := by decide +kernel
theorem dX3_firstFault_124 : decode cX3_firstFault 124 = .ok (.iload 7, 2) := by decide +kernel
theorem dX3_firstFault_126 : decode cX3_firstFault 126 = .ok (.bipush 66, 2) := by decide +kernel
theorem dX3_firstFault_128 : decode cX3_firstFault 128 = .ok (.if_icmp .ne 24, 3) := by decide +kernel
theorem dX3_firstFault_131 : decode cX3_firstFault 131 = .ok (.iload_n 2, 1) := by decide +kernel
theorem dX3_firstFault_132 : decode cX3_firstFault 132 = .ok (.iconst 3, 1) := by decide +kernel
theorem dX3_firstFault_133 : decode cX3_firstFault 133 = .ok (.if_icmp .ge 19, 3) := by decide +kernel
theorem dX3_firstFault_136 : decode cX3_firstFault 136 = .ok (.iinc 2 1, 3) := by decide +kernel
theorem dX3_firstFault_139 : decode cX3_firstFault 139 = .ok (.iconst 1, 1) := by decide +kernel
theorem dX3_firstFault_140 : decode cX3_firstFault 140 = .ok (.istore_n 3, 1) := by decide +kernel
theorem dX3_firstFault_141 : decode cX3_firstFault 141 = .ok (.bipush 48, 2) := by decide +kernel
theorem dX3_firstFault_143 : decode cX3_firstFault 143 = .ok (.istore 4, 2) := by decide +kernel
theorem dX3_firstFault_145 : decode cX3_firstFault 145 = .ok (.bipush 57, 2) := by decide +kernel
theorem dX3_firstFault_147 : decode cX3_firstFault 147 = .ok (.istore 5, 2) := by decide +kernel
theorem dX3_firstFault_149 : decode cX3_firstFault 149 = .ok (.goto 6, 3) := by decide +kernel
theorem dX3_firstFault_152 : decode cX3_firstFault 152 = .ok (.iload 6, 2) := by decide +kernel
theorem dX3_firstFault_154 : decode cX3_firstFault 154 = .ok (.ireturn, 1) := by decide +kernel
theorem dX3_firstFault_155 : decode cX3_firstFault 155 = .ok (.iinc 6 1, 3) := by decide +kernel
theorem dX3_firstFault_158 : decode cX3_firstFault 158 = .ok (.goto (-141), 3) := by decide +kernel
theorem dX3_firstFault_161 : decode cX3_firstFault 161 = .ok (.aload_n 0, 1) := by decide +kernel
theorem dX3_firstFault_162 : decode cX3_firstFault 162 = .ok (.getfield 15, 3) := by decide +kernel
theorem dX3_firstFault_165 : decode cX3_firstFault 165 = .ok (.ifCond .eq 7, 3) := by decide +kernel
theorem dX3_firstFault_168 : decode cX3_firstFault 168 = .ok (.iload_n 3, 1) := by decide +kernel
theorem dX3_firstFault_169 : decode cX3_firstFault 169 = .ok (.ifCond .le 10, 3) := by decide +kernel
theorem dX3_firstFault_172 : decode cX3_firstFault 172 = .ok (.aload_n 0, 1) := by decide +kernel
theorem dX3_firstFault_173 : decode cX3_firstFault 173 = .ok (.getfield 15, 3) := by decide +kernel
theorem dX3_firstFault_176 : decode cX3_firstFault 176 = .ok (.goto 5, 3) := by decide +kernel
theorem dX3_firstFault_179 : decode cX3_firstFault 179 = .ok (.bipush (-9), 2) := by decide +kernel
theorem dX3_firstFault_181 : decode cX3_firstFault 181 = .ok (.ireturn, 1) := by decide +kernel
set_option maxRecDepth 20000 in
theorem ggX4_init_X3_init : GoodIn wsX4_init wsX3_init := goodIn_r _ [24, 25, 2, 3, 20, 26, 38, 39] (by decide +kernel) (by decide +kernel)
set_option maxRecDepth 20000 in
theorem gX4_init_X3_init_n9 : GoodIn wsX4_init (wsX3_init) := ggX4_init_X3_init
set_option maxRecDepth 20000 in
theorem ggX4_init_X1_init : GoodIn wsX4_init wsX1_init := goodIn_r _ [28, 29, 2, 3, 30, 50, 51, 52, 53, 54] (by decide +kernel) (by decide +kernel)
set_option maxRecDepth 20000 in
theorem gX4_init_X1_init_n18 : GoodIn wsX4_init (wsX1_init) := ggX4_init_X1_init
set_option maxRecDepth 20000 in
theorem ggX4_init_X2_init : GoodIn wsX4_init wsX2_init := goodIn_r _ [32, 33, 2, 3] (by decide +kernel) (by decide +kernel)
set_option maxRecDepth 20000 in
theorem gX4_init_X2_init_n25 : GoodIn wsX4_init (wsX2_init) := ggX4_init_X2_init
set_option maxRecDepth 20000 in
theorem ggX4_init_X0_init : GoodIn wsX4_init wsX0_init := goodIn_r _ [35, 36, 2, 3, 20, 37, 59, 60, 61] (by decide +kernel) (by decide +kernel)
set_option maxRecDepth 20000 in
theorem gX4_init_X0_init_n32 : GoodIn wsX4_init (wsX0_init) := ggX4_init_X0_init
theorem dX4_init_0 : decode cX4_init 0 = .ok (.aload_n 0, 1) := by decide +kernel
theorem dX4_init_1 : decode cX4_init 1 = .ok (.invokespecial 1, 3) := by decide +kernel
theorem dX4_init_4 : decode cX4_init 4 = .ok (.aload_n 0, 1) := by decide +kernel
theorem dX4_init_5 : decode cX4_init 5 = .ok (.new 7, 3) := by decide +kernel
theorem dX4_init_8 : decode cX4_init 8 = .ok (.dup, 1) := by decide +kernel
theorem dX4_init_9 : decode cX4_init 9 = .ok (.invokespecial 9, 3) := by decide +kernel
theorem dX4_init_12 : decode cX4_init 12 = .ok (.putfield 10, 3) := by decide +kernel
theorem dX4_init_15 : decode cX4_init 15 = .ok (.aload_n 0, 1) := by decide +kernel
theorem dX4_init_16 : decode cX4_init 16 = .ok (.new 16, 3) := by decide +kernel
theorem dX4_init_19 : decode cX4_init 19 = .ok (.dup, 1) := by decide +kernel
theorem dX4_init_20 : decode cX4_init 20 = .ok (.invokespecial 18, 3) := by decide +kernel
theorem dX4_init_23 : decode cX4_init 23 = .ok (.putfield 19, 3) := by decide +kernel
theorem dX4_init_26 : decode cX4_init 26 = .ok (.aload_n 0, 1) := by decide +kernel
theorem dX4_init_27 : decode cX4_init 27 = .ok (.new 23, 3) := by decide +kernel
theorem dX4_init_30 : decode cX4_init 30 = .ok (.dup, 1) := by decide +kernel
theorem dX4_init_31 : decode cX4_init 31 = .ok (.invokespecial 25, 3) := by decide +kernel
theorem dX4_init_34 : decode cX4_init 34 = .ok (.putfield 26, 3) := by decide +kernel
theorem dX4_init_37 : decode cX4_init 37 = .ok (.aload_n 0, 1) := by decide +kernel
theorem dX4_init_38 : decode cX4_init 38 = .ok (.new 30, 3) := by decide +kernel
theorem dX4_init_41 : decode cX4_init 41 = .ok (.dup, 1) := by decide +kernel
theorem dX4_init_42 : decode cX4_init 42 = .ok (.invokespecial 32, 3) := by decide +kernel
theorem dX4_init_45 : decode cX4_init 45 = .ok (.putfield 33, 3) := by decide +kernel
theorem dX4_init_48 : decode cX4_init 48 = .ok (.aload_n 0, 1) := by decide +kernel
theorem dX4_init_49 : decode cX4_init 49 = .ok (.bipush 8, 2) := by decide +kernel
theorem dX4_init_51 : decode cX4_init 51 = .ok (.newarray .int, 2) := by decide +kernel
theorem dX4_init_53 : decode cX4_init 53 = .ok (.putfield 37, 3) := by decide +kernel
theorem dX4_init_56 : decode cX4_init 56 = .ok (.aload_n 0, 1) := by decide +kernel
theorem dX4_init_57 : decode cX4_init 57 = .ok (.iconst 4, 1) := by decide +kernel
theorem dX4_init_58 : decode cX4_init 58 = .ok (.newarray .int, 2) := by decide +kernel
theorem dX4_init_60 : decode cX4_init 60 = .ok (.putfield 41, 3) := by decide +kernel
theorem dX4_init_63 : decode cX4_init 63 = .ok (.return_, 1) := by decide +kernel
set_option maxRecDepth 20000 in
theorem ggX4_write_X3_append : GoodIn wsX4_write wsX3_append := goodIn_r _ [6, 7, 8, 19, 20] (by decide +kernel) (by decide +kernel)
set_option maxRecDepth 20000 in
theorem gX4_write_X3_append : GoodIn wsX4_write (wsV RX4 44 RX3 yX3_append wsX3_append) := goodIn_app (goodIn_of _ (by decide +kernel)) ggX4_write_X3_append
theorem dX4_write_0 : decode cX4_write 0 = .ok (.iload_n 1, 1) := by decide +kernel
theorem dX4_write_1 : decode cX4_write 1 = .ok (.ifCond .lt 10, 3) := by decide +kernel
theorem dX4_write_4 : decode cX4_write 4 = .ok (.iload_n 1, 1) := by decide +kernel
theorem dX4_write_5 : decode cX4_write 5 = .ok (.sipush 255, 3) := by decide +kernel
theorem dX4_write_8 : decode cX4_write 8 = .ok (.if_icmp .le 6, 3) := by decide +kernel
theorem dX4_write_11 : decode cX4_write 11 = .ok (.bipush (-2), 2) := by decide +kernel
theorem dX4_write_13 : decode cX4_write 13 = .ok (.ireturn, 1) := by decide +kernel
theorem dX4_write_14 : decode cX4_write 14 = .ok (.aload_n 0, 1) := by decide +kernel
theorem dX4_write_15 : decode cX4_write 15 = .ok (.getfield 10, 3) := by decide +kernel
theorem dX4_write_18 : decode cX4_write 18 = .ok (.iload_n 1, 1) := by decide +kernel
theorem dX4_write_19 : decode cX4_write 19 = .ok (.invokevirtual 44, 3) := by decide +kernel
theorem dX4_write_22 : decode cX4_write 22 = .ok (.ifCond .eq 13, 3) := by decide +kernel
theorem dX4_write_25 : decode cX4_write 25 = .ok (.aload_n 0, 1) := by decide +kernel
theorem dX4_write_26 : decode cX4_write 26 = .ok (.getfield 10, 3) := by decide +kernel
theorem dX4_write_29 : decode cX4_write 29 = .ok (.getfield 48, 3) := by decide +kernel
theorem dX4_write_32 : decode cX4_write 32 = .ok (.goto 5, 3) := by decide +kernel
theorem dX4_write_35 : decode cX4_write 35 = .ok (.bipush (-4), 2) := by decide +kernel
theorem dX4_write_37 : decode cX4_write 37 = .ok (.ireturn, 1) := by decide +kernel
theorem dX4_wipe_0 : decode cX4_wipe 0 = .ok (.aload_n 0, 1) := by decide +kernel
theorem dX4_wipe_1 : decode cX4_wipe 1 = .ok (.getfield 10, 3) := by decide +kernel
theorem dX4_wipe_4 : decode cX4_wipe 4 = .ok (.getfield 48, 3) := by decide +kernel
theorem dX4_wipe_7 : decode cX4_wipe 7 = .ok (.istore_n 1, 1) := by decide +kernel
theorem dX4_wipe_8 : decode cX4_wipe 8 = .ok (.aload_n 0, 1) := by decide +kernel
theorem dX4_wipe_9 : decode cX4_wipe 9 = .ok (.getfield 10, 3) := by decide +kernel
theorem dX4_wipe_12 : decode cX4_wipe 12 = .ok (.iconst 0, 1) := by decide +kernel
theorem dX4_wipe_13 : decode cX4_wipe 13 = .ok (.putfield 48, 3) := by decide +kernel
theorem dX4_wipe_16 : decode cX4_wipe 16 = .ok (.iload_n 1, 1) := by decide +kernel
theorem dX4_wipe_17 : decode cX4_wipe 17 = .ok (.ireturn, 1) := by decide +kernel
set_option maxRecDepth 20000 in
theorem ggX4_fault_X3_firstFault : GoodIn wsX4_fault wsX3_firstFault := goodIn_r _ [6, 7, 8, 9, 10, 5, 11, 12, 23, 24] (by decide +kernel) (by decide +kernel)
set_option maxRecDepth 20000 in
theorem gX4_fault_X3_firstFault : GoodIn wsX4_fault (wsV RX4 52 RX3 yX3_firstFault wsX3_firstFault) := goodIn_app (goodIn_of _ (by decide +kernel)) ggX4_fault_X3_firstFault
theorem dX4_fault_0 : decode cX4_fault 0 = .ok (.aload_n 0, 1) := by decide +kernel
theorem dX4_fault_1 : decode cX4_fault 1 = .ok (.getfield 10, 3) := by decide +kernel
theorem dX4_fault_4 : decode cX4_fault 4 = .ok (.invokevirtual 52, 3) := by decide +kernel
theorem dX4_fault_7 : decode cX4_fault 7 = .ok (.ireturn, 1) := by decide +kernel
set_option maxRecDepth 20000 in
theorem ggX4_tunnel_X3_firstFault : GoodIn wsX4_tunnel wsX3_firstFault := goodIn_r _ [9, 10, 11, 12, 13, 8, 14, 15, 79, 80] (by decide +kernel) (by decide +kernel)
set_option maxRecDepth 20000 in
theorem gX4_tunnel_X3_firstFault : GoodIn wsX4_tunnel (wsV RX4 52 RX3 yX3_firstFault wsX3_firstFault) := goodIn_app (goodIn_of _ (by decide +kernel)) ggX4_tunnel_X3_firstFault
set_option maxRecDepth 20000 in
theorem ggX4_tunnel_X4_readTunnel : GoodIn wsX4_tunnel wsX4_readTunnel := goodIn_r _ [20, 4, 1, 21, 22, 23, 24, 8, 25, 11, 12, 13, 14, 10, 15, 26, 27, 28, 29, 30, 31, 32, 33, 34, 35, 36, 37, 38, 39, 40, 41, 42, 43, 44, 45, 46, 47, 48, 49, 50, 51, 52, 53, 54, 55, 56, 57, 64, 65, 66, 67, 68, 69, 70, 71, 72, 73, 79, 80, 74, 75, 76, 77, 78, 81, 82, 83, 84] (by decide +kernel) (by decide +kernel)
set_option maxRecDepth 20000 in
theorem gX4_tunnel_X4_readTunnel : GoodIn wsX4_tunnel (wsV RX4 56 RX4 yX4_readTunnel wsX4_readTunnel) := goodIn_app (goodIn_of _ (by decide +kernel)) ggX4_tunnel_X4_readTunnel
set_option maxRecDepth 20000 in
theorem ggX4_tunnel_X0_forgetAll : GoodIn wsX4_tunnel wsX0_forgetAll := goodIn_r _ [62, 63, 85, 86, 87] (by decide +kernel) (by decide +kernel)
set_option maxRecDepth 20000 in
theorem gX4_tunnel_X0_forgetAll : GoodIn wsX4_tunnel (wsV RX4 59 RX0 yX0_forgetAll wsX0_forgetAll) := goodIn_app (goodIn_of _ (by decide +kernel)) ggX4_tunnel_X0_forgetAll
theorem dX4_tunnel_0 : decode cX4_tunnel 0 = .ok (.aload_n 0, 1) := by decide +kernel
theorem dX4_tunnel_1 : decode cX4_tunnel 1 = .ok (.getfield 10, 3) := by decide +kernel
theorem dX4_tunnel_4 : decode cX4_tunnel 4 = .ok (.invokevirtual 52, 3) := by decide +kernel
theorem dX4_tunnel_7 : decode cX4_tunnel 7 = .ok (.bipush (-9), 2) := by decide +kernel
theorem dX4_tunnel_9 : decode cX4_tunnel 9 = .ok (.if_icmp .eq 6, 3) := by decide +kernel
theorem dX4_tunnel_12 : decode cX4_tunnel 12 = .ok (.bipush (-3), 2) := by decide +kernel
theorem dX4_tunnel_14 : decode cX4_tunnel 14 = .ok (.ireturn, 1) := by decide +kernel
theorem dX4_tunnel_15 : decode cX4_tunnel 15 = .ok (.aload_n 0, 1) := by decide +kernel
theorem dX4_tunnel_16 : decode cX4_tunnel 16 = .ok (.invokevirtual 56, 3) := by decide +kernel
theorem dX4_tunnel_19 : decode cX4_tunnel 19 = .ok (.aload_n 0, 1) := by decide +kernel
theorem dX4_tunnel_20 : decode cX4_tunnel 20 = .ok (.getfield 33, 3) := by decide +kernel
theorem dX4_tunnel_23 : decode cX4_tunnel 23 = .ok (.invokevirtual 59, 3) := by decide +kernel
theorem dX4_tunnel_26 : decode cX4_tunnel 26 = .ok (.aload_n 0, 1) := by decide +kernel
theorem dX4_tunnel_27 : decode cX4_tunnel 27 = .ok (.iconst 0, 1) := by decide +kernel
theorem dX4_tunnel_28 : decode cX4_tunnel 28 = .ok (.putfield 62, 3) := by decide +kernel
theorem dX4_tunnel_31 : decode cX4_tunnel 31 = .ok (.bipush 10, 2) := by decide +kernel
theorem dX4_tunnel_33 : decode cX4_tunnel 33 = .ok (.aload_n 0, 1) := by decide +kernel
theorem dX4_tunnel_34 : decode cX4_tunnel 34 = .ok (.getfield 19, 3) := by decide +kernel
theorem dX4_tunnel_37 : decode cX4_tunnel 37 = .ok (.getfield 65, 3) := by decide +kernel
theorem dX4_tunnel_40 : decode cX4_tunnel 40 = .ok (.imul, 1) := by decide +kernel
theorem dX4_tunnel_41 : decode cX4_tunnel 41 = .ok (.aload_n 0, 1) := by decide +kernel
theorem dX4_tunnel_42 : decode cX4_tunnel 42 = .ok (.getfield 19, 3) := by decide +kernel
theorem dX4_tunnel_45 : decode cX4_tunnel 45 = .ok (.getfield 68, 3) := by decide +kernel
theorem dX4_tunnel_48 : decode cX4_tunnel 48 = .ok (.iadd, 1) := by decide +kernel
theorem dX4_tunnel_49 : decode cX4_tunnel 49 = .ok (.ireturn, 1) := by decide +kernel
theorem dX4_about_0 : decode cX4_about 0 = .ok (.iload_n 1, 1) := by decide +kernel
theorem dX4_about_1 : decode cX4_about 1 = .ok (.tableswitch 108 0 7 #[47, 55, 63, 71, 79, 87, 95, 100], 47) := by decide +kernel
theorem dX4_about_48 : decode cX4_about 48 = .ok (.aload_n 0, 1) := by decide +kernel
theorem dX4_about_49 : decode cX4_about 49 = .ok (.getfield 19, 3) := by decide +kernel
theorem dX4_about_52 : decode cX4_about 52 = .ok (.getfield 71, 3) := by decide +kernel
theorem dX4_about_55 : decode cX4_about 55 = .ok (.ireturn, 1) := by decide +kernel
theorem dX4_about_56 : decode cX4_about 56 = .ok (.aload_n 0, 1) := by decide +kernel
theorem dX4_about_57 : decode cX4_about 57 = .ok (.getfield 19, 3) := by decide +kernel
theorem dX4_about_60 : decode cX4_about 60 = .ok (.getfield 65, 3) := by decide +kernel
theorem dX4_about_63 : decode cX4_about 63 = .ok (.ireturn, 1) := by decide +kernel
theorem dX4_about_64 : decode cX4_about 64 = .ok (.aload_n 0, 1) := by decide +kernel
theorem dX4_about_65 : decode cX4_about 65 = .ok (.getfield 19, 3) := by decide +kernel
theorem dX4_about_68 : decode cX4_about 68 = .ok (.getfield 68, 3) := by decide +kernel
theorem dX4_about_71 : decode cX4_about 71 = .ok (.ireturn, 1) := by decide +kernel
theorem dX4_about_72 : decode cX4_about 72 = .ok (.aload_n 0, 1) := by decide +kernel
theorem dX4_about_73 : decode cX4_about 73 = .ok (.getfield 26, 3) := by decide +kernel
theorem dX4_about_76 : decode cX4_about 76 = .ok (.getfield 74, 3) := by decide +kernel
theorem dX4_about_79 : decode cX4_about 79 = .ok (.ireturn, 1) := by decide +kernel
theorem dX4_about_80 : decode cX4_about 80 = .ok (.aload_n 0, 1) := by decide +kernel
theorem dX4_about_81 : decode cX4_about 81 = .ok (.getfield 26, 3) := by decide +kernel
theorem dX4_about_84 : decode cX4_about 84 = .ok (.getfield 77, 3) := by decide +kernel
theorem dX4_about_87 : decode cX4_about 87 = .ok (.ireturn, 1) := by decide +kernel
theorem dX4_about_88 : decode cX4_about 88 = .ok (.aload_n 0, 1) := by decide +kernel
theorem dX4_about_89 : decode cX4_about 89 = .ok (.getfield 33, 3) := by decide +kernel
theorem dX4_about_92 : decode cX4_about 92 = .ok (.getfield 80, 3) := by decide +kernel
theorem dX4_about_95 : decode cX4_about 95 = .ok (.ireturn, 1) := by decide +kernel
theorem dX4_about_96 : decode cX4_about 96 = .ok (.aload_n 0, 1) := by decide +kernel
theorem dX4_about_97 : decode cX4_about 97 = .ok (.getfield 83, 3) := by decide +kernel
theorem dX4_about_100 : decode cX4_about 100 = .ok (.ireturn, 1) := by decide +kernel
theorem dX4_about_101 : decode cX4_about 101 = .ok (.aload_n 0, 1) := by decide +kernel
theorem dX4_about_102 : decode cX4_about 102 = .ok (.getfield 10, 3) := by decide +kernel
theorem dX4_about_105 : decode cX4_about 105 = .ok (.getfield 48, 3) := by decide +kernel
theorem dX4_about_108 : decode cX4_about 108 = .ok (.ireturn, 1) := by decide +kernel
theorem dX4_about_109 : decode cX4_about 109 = .ok (.bipush (-2), 2) := by decide +kernel
theorem dX4_about_111 : decode cX4_about 111 = .ok (.ireturn, 1) := by decide +kernel
set_option maxRecDepth 20000 in
theorem ggX4_legger_X1_hasLegger : GoodIn wsX4_legger wsX1_hasLegger := goodIn_r _ [7, 8, 43, 44, 45, 46, 47] (by decide +kernel) (by decide +kernel)
set_option maxRecDepth 20000 in
theorem gX4_legger_X1_hasLegger : GoodIn wsX4_legger (wsV RX4 86 RX1 yX1_hasLegger wsX1_hasLegger) := goodIn_app (goodIn_of _ (by decide +kernel)) ggX4_legger_X1_hasLegger
set_option maxRecDepth 20000 in
theorem ggX4_legger_X4_isPlace : GoodIn wsX4_legger wsX4_isPlace := goodIn_r _ [12] (by decide +kernel) (by decide +kernel)
set_option maxRecDepth 20000 in
theorem gX4_legger_X4_isPlace : GoodIn wsX4_legger (va_wsS RX4 89 yX4_isPlace wsX4_isPlace) := goodIn_app (goodIn_of _ (by decide +kernel)) ggX4_legger_X4_isPlace
set_option maxRecDepth 20000 in
theorem ggX4_legger_X2_groundAt : GoodIn wsX4_legger wsX2_groundAt := goodIn_r _ [17, 18, 19, 11, 20, 39, 40, 41, 42] (by decide +kernel) (by decide +kernel)
set_option maxRecDepth 20000 in
theorem gX4_legger_X2_groundAt : GoodIn wsX4_legger (wsV RX4 92 RX2 yX2_groundAt wsX2_groundAt) := goodIn_app (goodIn_of _ (by decide +kernel)) ggX4_legger_X2_groundAt
set_option maxRecDepth 20000 in
theorem ggX4_legger_X1_kindOf : GoodIn wsX4_legger wsX1_kindOf := goodIn_r _ [24, 25, 43, 44, 45, 46, 47] (by decide +kernel) (by decide +kernel)
set_option maxRecDepth 20000 in
theorem gX4_legger_X1_kindOf : GoodIn wsX4_legger (wsV RX4 96 RX1 yX1_kindOf wsX1_kindOf) := goodIn_app (goodIn_of _ (by decide +kernel)) ggX4_legger_X1_kindOf
set_option maxRecDepth 20000 in
theorem ggX4_legger_X4_timesTired : GoodIn wsX4_legger wsX4_timesTired := goodIn_r _ [28] (by decide +kernel) (by decide +kernel)
set_option maxRecDepth 20000 in
theorem gX4_legger_X4_timesTired : GoodIn wsX4_legger (va_wsS RX4 103 yX4_timesTired wsX4_timesTired) := goodIn_app (goodIn_of _ (by decide +kernel)) ggX4_legger_X4_timesTired
theorem dX4_legger_0 : decode cX4_legger 0 = .ok (.aload_n 0, 1) := by decide +kernel
theorem dX4_legger_1 : decode cX4_legger 1 = .ok (.getfield 19, 3) := by decide +kernel
theorem dX4_legger_4 : decode cX4_legger 4 = .ok (.iload_n 1, 1) := by decide +kernel
theorem dX4_legger_5 : decode cX4_legger 5 = .ok (.invokevirtual 86, 3) := by decide +kernel
theorem dX4_legger_8 : decode cX4_legger 8 = .ok (.ifCond .ne 5, 3) := by decide +kernel
theorem dX4_legger_11 : decode cX4_legger 11 = .ok (.iconst (-1), 1) := by decide +kernel
theorem dX4_legger_12 : decode cX4_legger 12 = .ok (.ireturn, 1) := by decide +kernel
theorem dX4_legger_13 : decode cX4_legger 13 = .ok (.iload_n 2, 1) := by decide +kernel
theorem dX4_legger_14 : decode cX4_legger 14 = .ok (.invokestatic 89, 3) := by decide +kernel
theorem dX4_legger_17 : decode cX4_legger 17 = .ok (.ifCond .eq 13, 3) := by decide +kernel
theorem dX4_legger_20 : decode cX4_legger 20 = .ok (.aload_n 0, 1) := by decide +kernel
theorem dX4_legger_21 : decode cX4_legger 21 = .ok (.getfield 26, 3) := by decide +kernel
theorem dX4_legger_24 : decode cX4_legger 24 = .ok (.iload_n 1, 1) := by decide +kernel
theorem dX4_legger_25 : decode cX4_legger 25 = .ok (.iload_n 2, 1) := by decide +kernel
theorem dX4_legger_26 : decode cX4_legger 26 = .ok (.invokevirtual 92, 3) := by decide +kernel
theorem dX4_legger_29 : decode cX4_legger 29 = .ok (.ireturn, 1) := by decide +kernel
theorem dX4_legger_30 : decode cX4_legger 30 = .ok (.iload_n 2, 1) := by decide +kernel
theorem dX4_legger_31 : decode cX4_legger 31 = .ok (.lookupswitch 46 #[(4, 25), (5, 34)], 25) := by decide +kernel
theorem dX4_legger_56 : decode cX4_legger 56 = .ok (.aload_n 0, 1) := by decide +kernel
theorem dX4_legger_57 : decode cX4_legger 57 = .ok (.getfield 19, 3) := by decide +kernel
theorem dX4_legger_60 : decode cX4_legger 60 = .ok (.iload_n 1, 1) := by decide +kernel
theorem dX4_legger_61 : decode cX4_legger 61 = .ok (.invokevirtual 96, 3) := by decide +kernel
theorem dX4_legger_64 : decode cX4_legger 64 = .ok (.ireturn, 1) := by decide +kernel
theorem dX4_legger_65 : decode cX4_legger 65 = .ok (.aload_n 0, 1) := by decide +kernel
theorem dX4_legger_66 : decode cX4_legger 66 = .ok (.getfield 26, 3) := by decide +kernel
theorem dX4_legger_69 : decode cX4_legger 69 = .ok (.getfield 100, 3) := by decide +kernel
theorem dX4_legger_72 : decode cX4_legger 72 = .ok (.iload_n 1, 1) := by decide +kernel
theorem dX4_legger_73 : decode cX4_legger 73 = .ok (.invokestatic 103, 3) := by decide +kernel
theorem dX4_legger_76 : decode cX4_legger 76 = .ok (.ireturn, 1) := by decide +kernel
theorem dX4_legger_77 : decode cX4_legger 77 = .ok (.bipush (-2), 2) := by decide +kernel
theorem dX4_legger_79 : decode cX4_legger 79 = .ok (.ireturn, 1) := by decide +kernel
set_option maxRecDepth 20000 in
theorem ggX4_load_X1_hasBoat : GoodIn wsX4_load wsX1_hasBoat := goodIn_r _ [6, 7, 23, 24, 25, 26, 27] (by decide +kernel) (by decide +kernel)
set_option maxRecDepth 20000 in
theorem gX4_load_X1_hasBoat : GoodIn wsX4_load (wsV RX4 106 RX1 yX1_hasBoat wsX1_hasBoat) := goodIn_app (goodIn_of _ (by decide +kernel)) ggX4_load_X1_hasBoat
set_option maxRecDepth 20000 in
theorem ggX4_load_X1_loadOf : GoodIn wsX4_load wsX1_loadOf := goodIn_r _ [11, 12, 23, 24, 25, 26, 27] (by decide +kernel) (by decide +kernel)
set_option maxRecDepth 20000 in
theorem gX4_load_X1_loadOf : GoodIn wsX4_load (wsV RX4 109 RX1 yX1_loadOf wsX1_loadOf) := goodIn_app (goodIn_of _ (by decide +kernel)) ggX4_load_X1_loadOf
theorem dX4_load_0 : decode cX4_load 0 = .ok (.aload_n 0, 1) := by decide +kernel
theorem dX4_load_1 : decode cX4_load 1 = .ok (.getfield 19, 3) := by decide +kernel
theorem dX4_load_4 : decode cX4_load 4 = .ok (.iload_n 1, 1) := by decide +kernel
theorem dX4_load_5 : decode cX4_load 5 = .ok (.invokevirtual 106, 3) := by decide +kernel
theorem dX4_load_8 : decode cX4_load 8 = .ok (.ifCond .eq 14, 3) := by decide +kernel
theorem dX4_load_11 : decode cX4_load 11 = .ok (.aload_n 0, 1) := by decide +kernel
theorem dX4_load_12 : decode cX4_load 12 = .ok (.getfield 19, 3) := by decide +kernel
theorem dX4_load_15 : decode cX4_load 15 = .ok (.iload_n 1, 1) := by decide +kernel
theorem dX4_load_16 : decode cX4_load 16 = .ok (.invokevirtual 109, 3) := by decide +kernel
theorem dX4_load_19 : decode cX4_load 19 = .ok (.goto 4, 3) := by decide +kernel
theorem dX4_load_22 : decode cX4_load 22 = .ok (.iconst (-1), 1) := by decide +kernel
theorem dX4_load_23 : decode cX4_load 23 = .ok (.ireturn, 1) := by decide +kernel
set_option maxRecDepth 20000 in
theorem ggX4_leg_X4_pairRefusal : GoodIn wsX4_leg wsX4_pairRefusal := goodIn_r _ [8, 3, 9, 10, 11, 12, 13, 14, 15, 16, 17, 18, 19, 83, 84, 85, 86, 87, 88, 89, 90, 91, 92, 97, 98, 99, 100, 101] (by decide +kernel) (by decide +kernel)
set_option maxRecDepth 20000 in
theorem gX4_leg_X4_pairRefusal : GoodIn wsX4_leg (wsV RX4 112 RX4 yX4_pairRefusal wsX4_pairRefusal) := goodIn_app (goodIn_of _ (by decide +kernel)) ggX4_leg_X4_pairRefusal
set_option maxRecDepth 20000 in
theorem ggX4_leg_X4_isIn : GoodIn wsX4_leg wsX4_isIn := goodIn_r _ [22] (by decide +kernel) (by decide +kernel)
set_option maxRecDepth 20000 in
theorem gX4_leg_X4_isIn : GoodIn wsX4_leg (va_wsS RX4 116 yX4_isIn wsX4_isIn) := goodIn_app (goodIn_of _ (by decide +kernel)) ggX4_leg_X4_isIn
set_option maxRecDepth 20000 in
theorem ggX4_leg_X0_remember : GoodIn wsX4_leg wsX0_remember := goodIn_r _ [27, 28, 29, 30, 31, 32, 33, 34, 35, 36, 37, 38, 39, 102, 103, 104, 93, 94, 95, 96] (by decide +kernel) (by decide +kernel)
set_option maxRecDepth 20000 in
theorem gX4_leg_X0_remember : GoodIn wsX4_leg (wsV RX4 120 RX0 yX0_remember wsX0_remember) := goodIn_app (goodIn_of _ (by decide +kernel)) ggX4_leg_X0_remember
set_option maxRecDepth 20000 in
theorem ggX4_leg_X4_pairMinutes : GoodIn wsX4_leg wsX4_pairMinutes := goodIn_r _ [43, 3, 1, 44, 45, 46, 47, 48, 49, 50, 34, 51, 36, 52, 7, 53, 54, 55, 56, 57, 58, 59, 60, 61, 62, 63, 12, 64, 65, 66, 67, 68, 69, 70, 71, 83, 84, 85, 86, 87, 88, 89, 90, 91, 92, 97, 98, 99, 100, 101, 93, 94, 95, 96] (by decide +kernel) (by decide +kernel)
set_option maxRecDepth 20000 in
theorem gX4_leg_X4_pairMinutes : GoodIn wsX4_leg (wsV RX4 124 RX4 yX4_pairMinutes wsX4_pairMinutes) := goodIn_app (goodIn_of _ (by decide +kernel)) ggX4_leg_X4_pairMinutes
set_option maxRecDepth 20000 in
theorem ggX4_leg_X1_loadOf : GoodIn wsX4_leg wsX1_loadOf := goodIn_r _ [75, 76, 97, 98, 99, 100, 101] (by decide +kernel) (by decide +kernel)
set_option maxRecDepth 20000 in
theorem gX4_leg_X1_loadOf : GoodIn wsX4_leg (wsV RX4 109 RX1 yX1_loadOf wsX1_loadOf) := goodIn_app (goodIn_of _ (by decide +kernel)) ggX4_leg_X1_loadOf
set_option maxRecDepth 20000 in
theorem ggX4_leg_X4_tireBoth : GoodIn wsX4_leg wsX4_tireBoth := goodIn_r _ [79, 80, 81, 7, 82, 66, 67, 68] (by decide +kernel) (by decide +kernel)
set_option maxRecDepth 20000 in
theorem gX4_leg_X4_tireBoth : GoodIn wsX4_leg (va_wsS RX4 128 yX4_tireBoth wsX4_tireBoth) := goodIn_app (goodIn_of _ (by decide +kernel)) ggX4_leg_X4_tireBoth
theorem dX4_leg_0 : decode cX4_leg 0 = .ok (.aload_n 0, 1) := by decide +kernel
theorem dX4_leg_1 : decode cX4_leg 1 = .ok (.iload_n 1, 1) := by decide +kernel
theorem dX4_leg_2 : decode cX4_leg 2 = .ok (.iload_n 2, 1) := by decide +kernel
theorem dX4_leg_3 : decode cX4_leg 3 = .ok (.iload_n 3, 1) := by decide +kernel
theorem dX4_leg_4 : decode cX4_leg 4 = .ok (.invokevirtual 112, 3) := by decide +kernel
theorem dX4_leg_7 : decode cX4_leg 7 = .ok (.istore 4, 2) := by decide +kernel
theorem dX4_leg_9 : decode cX4_leg 9 = .ok (.iload 4, 2) := by decide +kernel
theorem dX4_leg_11 : decode cX4_leg 11 = .ok (.ifCond .eq 6, 3) := by decide +kernel
theorem dX4_leg_14 : decode cX4_leg 14 = .ok (.iload 4, 2) := by decide +kernel
theorem dX4_leg_16 : decode cX4_leg 16 = .ok (.ireturn, 1) := by decide +kernel
theorem dX4_leg_17 : decode cX4_leg 17 = .ok (.aload_n 0, 1) := by decide +kernel
theorem dX4_leg_18 : decode cX4_leg 18 = .ok (.getfield 26, 3) := by decide +kernel
theorem dX4_leg_21 : decode cX4_leg 21 = .ok (.getfield 74, 3) := by decide +kernel
theorem dX4_leg_24 : decode cX4_leg 24 = .ok (.iload_n 1, 1) := by decide +kernel
theorem dX4_leg_25 : decode cX4_leg 25 = .ok (.invokestatic 116, 3) := by decide +kernel
theorem dX4_leg_28 : decode cX4_leg 28 = .ok (.ifCond .eq 6, 3) := by decide +kernel
theorem dX4_leg_31 : decode cX4_leg 31 = .ok (.bipush (-3), 2) := by decide +kernel
theorem dX4_leg_33 : decode cX4_leg 33 = .ok (.ireturn, 1) := by decide +kernel
theorem dX4_leg_34 : decode cX4_leg 34 = .ok (.aload_n 0, 1) := by decide +kernel
theorem dX4_leg_35 : decode cX4_leg 35 = .ok (.getfield 33, 3) := by decide +kernel
theorem dX4_leg_38 : decode cX4_leg 38 = .ok (.aload_n 0, 1) := by decide +kernel
theorem dX4_leg_39 : decode cX4_leg 39 = .ok (.getfield 26, 3) := by decide +kernel
theorem dX4_leg_42 : decode cX4_leg 42 = .ok (.invokevirtual 120, 3) := by decide +kernel
theorem dX4_leg_45 : decode cX4_leg 45 = .ok (.aload_n 0, 1) := by decide +kernel
theorem dX4_leg_46 : decode cX4_leg 46 = .ok (.getfield 26, 3) := by decide +kernel
theorem dX4_leg_49 : decode cX4_leg 49 = .ok (.dup, 1) := by decide +kernel
theorem dX4_leg_50 : decode cX4_leg 50 = .ok (.getfield 77, 3) := by decide +kernel
theorem dX4_leg_53 : decode cX4_leg 53 = .ok (.aload_n 0, 1) := by decide +kernel
theorem dX4_leg_54 : decode cX4_leg 54 = .ok (.iload_n 2, 1) := by decide +kernel
theorem dX4_leg_55 : decode cX4_leg 55 = .ok (.iload_n 3, 1) := by decide +kernel
theorem dX4_leg_56 : decode cX4_leg 56 = .ok (.iconst 0, 1) := by decide +kernel
theorem dX4_leg_57 : decode cX4_leg 57 = .ok (.iconst 0, 1) := by decide +kernel
theorem dX4_leg_58 : decode cX4_leg 58 = .ok (.aload_n 0, 1) := by decide +kernel
theorem dX4_leg_59 : decode cX4_leg 59 = .ok (.getfield 26, 3) := by decide +kernel
theorem dX4_leg_62 : decode cX4_leg 62 = .ok (.getfield 100, 3) := by decide +kernel
theorem dX4_leg_65 : decode cX4_leg 65 = .ok (.invokevirtual 124, 3) := by decide +kernel
theorem dX4_leg_68 : decode cX4_leg 68 = .ok (.aload_n 0, 1) := by decide +kernel
theorem dX4_leg_69 : decode cX4_leg 69 = .ok (.getfield 19, 3) := by decide +kernel
theorem dX4_leg_72 : decode cX4_leg 72 = .ok (.iload_n 1, 1) := by decide +kernel
theorem dX4_leg_73 : decode cX4_leg 73 = .ok (.invokevirtual 109, 3) := by decide +kernel
theorem dX4_leg_76 : decode cX4_leg 76 = .ok (.iadd, 1) := by decide +kernel
theorem dX4_leg_77 : decode cX4_leg 77 = .ok (.iadd, 1) := by decide +kernel
theorem dX4_leg_78 : decode cX4_leg 78 = .ok (.putfield 77, 3) := by decide +kernel
theorem dX4_leg_81 : decode cX4_leg 81 = .ok (.aload_n 0, 1) := by decide +kernel
theorem dX4_leg_82 : decode cX4_leg 82 = .ok (.getfield 26, 3) := by decide +kernel
theorem dX4_leg_85 : decode cX4_leg 85 = .ok (.dup, 1) := by decide +kernel
theorem dX4_leg_86 : decode cX4_leg 86 = .ok (.getfield 74, 3) := by decide +kernel
theorem dX4_leg_89 : decode cX4_leg 89 = .ok (.iconst 1, 1) := by decide +kernel
theorem dX4_leg_90 : decode cX4_leg 90 = .ok (.iload_n 1, 1) := by decide +kernel
theorem dX4_leg_91 : decode cX4_leg 91 = .ok (.ishl, 1) := by decide +kernel
theorem dX4_leg_92 : decode cX4_leg 92 = .ok (.ior, 1) := by decide +kernel
theorem dX4_leg_93 : decode cX4_leg 93 = .ok (.putfield 74, 3) := by decide +kernel
theorem dX4_leg_96 : decode cX4_leg 96 = .ok (.aload_n 0, 1) := by decide +kernel
theorem dX4_leg_97 : decode cX4_leg 97 = .ok (.getfield 26, 3) := by decide +kernel
theorem dX4_leg_100 : decode cX4_leg 100 = .ok (.aload_n 0, 1) := by decide +kernel
theorem dX4_leg_101 : decode cX4_leg 101 = .ok (.getfield 26, 3) := by decide +kernel
theorem dX4_leg_104 : decode cX4_leg 104 = .ok (.getfield 100, 3) := by decide +kernel
theorem dX4_leg_107 : decode cX4_leg 107 = .ok (.iload_n 2, 1) := by decide +kernel
theorem dX4_leg_108 : decode cX4_leg 108 = .ok (.iload_n 3, 1) := by decide +kernel
theorem dX4_leg_109 : decode cX4_leg 109 = .ok (.invokestatic 128, 3) := by decide +kernel
theorem dX4_leg_112 : decode cX4_leg 112 = .ok (.putfield 100, 3) := by decide +kernel
theorem dX4_leg_115 : decode cX4_leg 115 = .ok (.aload_n 0, 1) := by decide +kernel
theorem dX4_leg_116 : decode cX4_leg 116 = .ok (.getfield 26, 3) := by decide +kernel
theorem dX4_leg_119 : decode cX4_leg 119 = .ok (.getfield 77, 3) := by decide +kernel
theorem dX4_leg_122 : decode cX4_leg 122 = .ok (.ireturn, 1) := by decide +kernel
set_option maxRecDepth 20000 in
theorem ggX4_rest_X1_hasLegger : GoodIn wsX4_rest wsX1_hasLegger := goodIn_r _ [8, 9, 45, 46, 47, 48, 49] (by decide +kernel) (by decide +kernel)
set_option maxRecDepth 20000 in
theorem gX4_rest_X1_hasLegger : GoodIn wsX4_rest (wsV RX4 86 RX1 yX1_hasLegger wsX1_hasLegger) := goodIn_app (goodIn_of _ (by decide +kernel)) ggX4_rest_X1_hasLegger
set_option maxRecDepth 20000 in
theorem ggX4_rest_X4_timesTired : GoodIn wsX4_rest wsX4_timesTired := goodIn_r _ [13] (by decide +kernel) (by decide +kernel)
set_option maxRecDepth 20000 in
theorem gX4_rest_X4_timesTired : GoodIn wsX4_rest (va_wsS RX4 103 yX4_timesTired wsX4_timesTired) := goodIn_app (goodIn_of _ (by decide +kernel)) ggX4_rest_X4_timesTired
set_option maxRecDepth 20000 in
theorem ggX4_rest_X0_remember : GoodIn wsX4_rest wsX0_remember := goodIn_r _ [18, 19, 20, 21, 22, 23, 24, 25, 26, 27, 28, 29, 30, 50, 51, 52, 41, 42, 43, 44] (by decide +kernel) (by decide +kernel)
set_option maxRecDepth 20000 in
theorem gX4_rest_X0_remember : GoodIn wsX4_rest (wsV RX4 120 RX0 yX0_remember wsX0_remember) := goodIn_app (goodIn_of _ (by decide +kernel)) ggX4_rest_X0_remember
theorem dX4_rest_0 : decode cX4_rest 0 = .ok (.aload_n 0, 1) := by decide +kernel
theorem dX4_rest_1 : decode cX4_rest 1 = .ok (.getfield 19, 3) := by decide +kernel
theorem dX4_rest_4 : decode cX4_rest 4 = .ok (.iload_n 1, 1) := by decide +kernel
theorem dX4_rest_5 : decode cX4_rest 5 = .ok (.invokevirtual 86, 3) := by decide +kernel
theorem dX4_rest_8 : decode cX4_rest 8 = .ok (.ifCond .ne 5, 3) := by decide +kernel
theorem dX4_rest_11 : decode cX4_rest 11 = .ok (.iconst (-1), 1) := by decide +kernel
theorem dX4_rest_12 : decode cX4_rest 12 = .ok (.ireturn, 1) := by decide +kernel
theorem dX4_rest_13 : decode cX4_rest 13 = .ok (.aload_n 0, 1) := by decide +kernel
theorem dX4_rest_14 : decode cX4_rest 14 = .ok (.getfield 26, 3) := by decide +kernel
theorem dX4_rest_17 : decode cX4_rest 17 = .ok (.getfield 100, 3) := by decide +kernel
theorem dX4_rest_20 : decode cX4_rest 20 = .ok (.iload_n 1, 1) := by decide +kernel
theorem dX4_rest_21 : decode cX4_rest 21 = .ok (.invokestatic 103, 3) := by decide +kernel
theorem dX4_rest_24 : decode cX4_rest 24 = .ok (.ifCond .ne 6, 3) := by decide +kernel
theorem dX4_rest_27 : decode cX4_rest 27 = .ok (.bipush (-3), 2) := by decide +kernel
theorem dX4_rest_29 : decode cX4_rest 29 = .ok (.ireturn, 1) := by decide +kernel
theorem dX4_rest_30 : decode cX4_rest 30 = .ok (.aload_n 0, 1) := by decide +kernel
theorem dX4_rest_31 : decode cX4_rest 31 = .ok (.getfield 33, 3) := by decide +kernel
theorem dX4_rest_34 : decode cX4_rest 34 = .ok (.aload_n 0, 1) := by decide +kernel
theorem dX4_rest_35 : decode cX4_rest 35 = .ok (.getfield 26, 3) := by decide +kernel
theorem dX4_rest_38 : decode cX4_rest 38 = .ok (.invokevirtual 120, 3) := by decide +kernel
theorem dX4_rest_41 : decode cX4_rest 41 = .ok (.aload_n 0, 1) := by decide +kernel
theorem dX4_rest_42 : decode cX4_rest 42 = .ok (.getfield 26, 3) := by decide +kernel
theorem dX4_rest_45 : decode cX4_rest 45 = .ok (.dup, 1) := by decide +kernel
theorem dX4_rest_46 : decode cX4_rest 46 = .ok (.getfield 100, 3) := by decide +kernel
theorem dX4_rest_49 : decode cX4_rest 49 = .ok (.iconst 3, 1) := by decide +kernel
theorem dX4_rest_50 : decode cX4_rest 50 = .ok (.iconst 2, 1) := by decide +kernel
theorem dX4_rest_51 : decode cX4_rest 51 = .ok (.iload_n 1, 1) := by decide +kernel
theorem dX4_rest_52 : decode cX4_rest 52 = .ok (.imul, 1) := by decide +kernel
theorem dX4_rest_53 : decode cX4_rest 53 = .ok (.ishl, 1) := by decide +kernel
theorem dX4_rest_54 : decode cX4_rest 54 = .ok (.iconst (-1), 1) := by decide +kernel
theorem dX4_rest_55 : decode cX4_rest 55 = .ok (.ixor, 1) := by decide +kernel
theorem dX4_rest_56 : decode cX4_rest 56 = .ok (.iand, 1) := by decide +kernel
theorem dX4_rest_57 : decode cX4_rest 57 = .ok (.putfield 100, 3) := by decide +kernel
theorem dX4_rest_60 : decode cX4_rest 60 = .ok (.aload_n 0, 1) := by decide +kernel
theorem dX4_rest_61 : decode cX4_rest 61 = .ok (.getfield 26, 3) := by decide +kernel
theorem dX4_rest_64 : decode cX4_rest 64 = .ok (.dup, 1) := by decide +kernel
theorem dX4_rest_65 : decode cX4_rest 65 = .ok (.getfield 77, 3) := by decide +kernel
theorem dX4_rest_68 : decode cX4_rest 68 = .ok (.iconst 5, 1) := by decide +kernel
theorem dX4_rest_69 : decode cX4_rest 69 = .ok (.iadd, 1) := by decide +kernel
theorem dX4_rest_70 : decode cX4_rest 70 = .ok (.putfield 77, 3) := by decide +kernel
theorem dX4_rest_73 : decode cX4_rest 73 = .ok (.aload_n 0, 1) := by decide +kernel
theorem dX4_rest_74 : decode cX4_rest 74 = .ok (.getfield 26, 3) := by decide +kernel
theorem dX4_rest_77 : decode cX4_rest 77 = .ok (.getfield 77, 3) := by decide +kernel
theorem dX4_rest_80 : decode cX4_rest 80 = .ok (.ireturn, 1) := by decide +kernel
set_option maxRecDepth 20000 in
theorem ggX4_wet_X4_placeRefusal : GoodIn wsX4_wet wsX4_placeRefusal := goodIn_r _ [7, 8, 9, 10, 11, 12, 13, 14, 15, 16, 6, 17, 45, 46, 47, 48, 49, 50, 51, 52, 53, 54, 55, 56, 57, 58, 59] (by decide +kernel) (by decide +kernel)
set_option maxRecDepth 20000 in
theorem gX4_wet_X4_placeRefusal : GoodIn wsX4_wet (wsV RX4 131 RX4 yX4_placeRefusal wsX4_placeRefusal) := goodIn_app (goodIn_of _ (by decide +kernel)) ggX4_wet_X4_placeRefusal
set_option maxRecDepth 20000 in
theorem ggX4_wet_X2_groundAt : GoodIn wsX4_wet wsX2_groundAt := goodIn_r _ [22, 23, 24, 6, 25, 60, 61, 62, 63] (by decide +kernel) (by decide +kernel)
set_option maxRecDepth 20000 in
theorem gX4_wet_X2_groundAt : GoodIn wsX4_wet (wsV RX4 92 RX2 yX2_groundAt wsX2_groundAt) := goodIn_app (goodIn_of _ (by decide +kernel)) ggX4_wet_X2_groundAt
set_option maxRecDepth 20000 in
theorem ggX4_wet_X0_remember : GoodIn wsX4_wet wsX0_remember := goodIn_r _ [30, 31, 32, 33, 34, 35, 36, 21, 37, 23, 38, 39, 40, 64, 65, 66, 60, 61, 62, 63] (by decide +kernel) (by decide +kernel)
set_option maxRecDepth 20000 in
theorem gX4_wet_X0_remember : GoodIn wsX4_wet (wsV RX4 120 RX0 yX0_remember wsX0_remember) := goodIn_app (goodIn_of _ (by decide +kernel)) ggX4_wet_X0_remember
set_option maxRecDepth 20000 in
theorem ggX4_wet_X2_cover : GoodIn wsX4_wet wsX2_cover := goodIn_r _ [44, 23, 60, 61, 62, 63] (by decide +kernel) (by decide +kernel)
set_option maxRecDepth 20000 in
theorem gX4_wet_X2_cover : GoodIn wsX4_wet (wsV RX4 134 RX2 yX2_cover wsX2_cover) := goodIn_app (goodIn_of _ (by decide +kernel)) ggX4_wet_X2_cover
theorem dX4_wet_0 : decode cX4_wet 0 = .ok (.aload_n 0, 1) := by decide +kernel
theorem dX4_wet_1 : decode cX4_wet 1 = .ok (.iload_n 1, 1) := by decide +kernel
theorem dX4_wet_2 : decode cX4_wet 2 = .ok (.iload_n 2, 1) := by decide +kernel
theorem dX4_wet_3 : decode cX4_wet 3 = .ok (.invokevirtual 131, 3) := by decide +kernel
theorem dX4_wet_6 : decode cX4_wet 6 = .ok (.istore_n 3, 1) := by decide +kernel
theorem dX4_wet_7 : decode cX4_wet 7 = .ok (.iload_n 3, 1) := by decide +kernel
theorem dX4_wet_8 : decode cX4_wet 8 = .ok (.ifCond .eq 5, 3) := by decide +kernel
theorem dX4_wet_11 : decode cX4_wet 11 = .ok (.iload_n 3, 1) := by decide +kernel
theorem dX4_wet_12 : decode cX4_wet 12 = .ok (.ireturn, 1) := by decide +kernel
theorem dX4_wet_13 : decode cX4_wet 13 = .ok (.aload_n 0, 1) := by decide +kernel
theorem dX4_wet_14 : decode cX4_wet 14 = .ok (.getfield 26, 3) := by decide +kernel
theorem dX4_wet_17 : decode cX4_wet 17 = .ok (.iload_n 1, 1) := by decide +kernel
theorem dX4_wet_18 : decode cX4_wet 18 = .ok (.iload_n 2, 1) := by decide +kernel
theorem dX4_wet_19 : decode cX4_wet 19 = .ok (.invokevirtual 92, 3) := by decide +kernel
theorem dX4_wet_22 : decode cX4_wet 22 = .ok (.istore 4, 2) := by decide +kernel
theorem dX4_wet_24 : decode cX4_wet 24 = .ok (.iload 4, 2) := by decide +kernel
theorem dX4_wet_26 : decode cX4_wet 26 = .ok (.iconst 2, 1) := by decide +kernel
theorem dX4_wet_27 : decode cX4_wet 27 = .ok (.if_icmp .ne 6, 3) := by decide +kernel
theorem dX4_wet_30 : decode cX4_wet 30 = .ok (.bipush (-3), 2) := by decide +kernel
theorem dX4_wet_32 : decode cX4_wet 32 = .ok (.ireturn, 1) := by decide +kernel
theorem dX4_wet_33 : decode cX4_wet 33 = .ok (.aload_n 0, 1) := by decide +kernel
theorem dX4_wet_34 : decode cX4_wet 34 = .ok (.getfield 33, 3) := by decide +kernel
theorem dX4_wet_37 : decode cX4_wet 37 = .ok (.aload_n 0, 1) := by decide +kernel
theorem dX4_wet_38 : decode cX4_wet 38 = .ok (.getfield 26, 3) := by decide +kernel
theorem dX4_wet_41 : decode cX4_wet 41 = .ok (.invokevirtual 120, 3) := by decide +kernel
theorem dX4_wet_44 : decode cX4_wet 44 = .ok (.aload_n 0, 1) := by decide +kernel
theorem dX4_wet_45 : decode cX4_wet 45 = .ok (.getfield 26, 3) := by decide +kernel
theorem dX4_wet_48 : decode cX4_wet 48 = .ok (.iload_n 1, 1) := by decide +kernel
theorem dX4_wet_49 : decode cX4_wet 49 = .ok (.iload_n 2, 1) := by decide +kernel
theorem dX4_wet_50 : decode cX4_wet 50 = .ok (.iconst 2, 1) := by decide +kernel
theorem dX4_wet_51 : decode cX4_wet 51 = .ok (.invokevirtual 134, 3) := by decide +kernel
theorem dX4_wet_54 : decode cX4_wet 54 = .ok (.iload 4, 2) := by decide +kernel
theorem dX4_wet_56 : decode cX4_wet 56 = .ok (.ireturn, 1) := by decide +kernel
set_option maxRecDepth 20000 in
theorem ggX4_dry_X4_placeRefusal : GoodIn wsX4_dry wsX4_placeRefusal := goodIn_r _ [7, 8, 9, 10, 11, 12, 13, 14, 15, 16, 6, 17, 50, 51, 52, 53, 54, 55, 56, 57, 58, 59, 60, 61, 62, 63, 64] (by decide +kernel) (by decide +kernel)
set_option maxRecDepth 20000 in
theorem gX4_dry_X4_placeRefusal : GoodIn wsX4_dry (wsV RX4 131 RX4 yX4_placeRefusal wsX4_placeRefusal) := goodIn_app (goodIn_of _ (by decide +kernel)) ggX4_dry_X4_placeRefusal
set_option maxRecDepth 20000 in
theorem ggX4_dry_X2_groundAt : GoodIn wsX4_dry wsX2_groundAt := goodIn_r _ [22, 23, 24, 6, 25, 65, 66, 67, 68] (by decide +kernel) (by decide +kernel)
set_option maxRecDepth 20000 in
theorem gX4_dry_X2_groundAt : GoodIn wsX4_dry (wsV RX4 92 RX2 yX2_groundAt wsX2_groundAt) := goodIn_app (goodIn_of _ (by decide +kernel)) ggX4_dry_X2_groundAt
set_option maxRecDepth 20000 in
theorem ggX4_dry_X0_remember : GoodIn wsX4_dry wsX0_remember := goodIn_r _ [30, 31, 32, 33, 34, 35, 36, 21, 37, 23, 38, 39, 40, 69, 70, 71, 65, 66, 67, 68] (by decide +kernel) (by decide +kernel)
set_option maxRecDepth 20000 in
theorem gX4_dry_X0_remember : GoodIn wsX4_dry (wsV RX4 120 RX0 yX0_remember wsX0_remember) := goodIn_app (goodIn_of _ (by decide +kernel)) ggX4_dry_X0_remember
set_option maxRecDepth 20000 in
theorem ggX4_dry_X2_cover : GoodIn wsX4_dry wsX2_cover := goodIn_r _ [44, 23, 65, 66, 67, 68] (by decide +kernel) (by decide +kernel)
set_option maxRecDepth 20000 in
theorem gX4_dry_X2_cover : GoodIn wsX4_dry (wsV RX4 134 RX2 yX2_cover wsX2_cover) := goodIn_app (goodIn_of _ (by decide +kernel)) ggX4_dry_X2_cover
set_option maxRecDepth 20000 in
theorem ggX4_dry_X2_wetPlaces : GoodIn wsX4_dry wsX2_wetPlaces := goodIn_r _ [48, 49, 19, 20, 21, 22, 23, 24, 6, 25, 65, 66, 67, 68] (by decide +kernel) (by decide +kernel)
set_option maxRecDepth 20000 in
theorem gX4_dry_X2_wetPlaces : GoodIn wsX4_dry (wsV RX4 138 RX2 yX2_wetPlaces wsX2_wetPlaces) := goodIn_app (goodIn_of _ (by decide +kernel)) ggX4_dry_X2_wetPlaces
theorem dX4_dry_0 : decode cX4_dry 0 = .ok (.aload_n 0, 1) := by decide +kernel
theorem dX4_dry_1 : decode cX4_dry 1 = .ok (.iload_n 1, 1) := by decide +kernel
theorem dX4_dry_2 : decode cX4_dry 2 = .ok (.iload_n 2, 1) := by decide +kernel
theorem dX4_dry_3 : decode cX4_dry 3 = .ok (.invokevirtual 131, 3) := by decide +kernel
theorem dX4_dry_6 : decode cX4_dry 6 = .ok (.istore_n 3, 1) := by decide +kernel
theorem dX4_dry_7 : decode cX4_dry 7 = .ok (.iload_n 3, 1) := by decide +kernel
theorem dX4_dry_8 : decode cX4_dry 8 = .ok (.ifCond .eq 5, 3) := by decide +kernel
theorem dX4_dry_11 : decode cX4_dry 11 = .ok (.iload_n 3, 1) := by decide +kernel
theorem dX4_dry_12 : decode cX4_dry 12 = .ok (.ireturn, 1) := by decide +kernel
theorem dX4_dry_13 : decode cX4_dry 13 = .ok (.aload_n 0, 1) := by decide +kernel
theorem dX4_dry_14 : decode cX4_dry 14 = .ok (.getfield 26, 3) := by decide +kernel
theorem dX4_dry_17 : decode cX4_dry 17 = .ok (.iload_n 1, 1) := by decide +kernel
theorem dX4_dry_18 : decode cX4_dry 18 = .ok (.iload_n 2, 1) := by decide +kernel
theorem dX4_dry_19 : decode cX4_dry 19 = .ok (.invokevirtual 92, 3) := by decide +kernel
theorem dX4_dry_22 : decode cX4_dry 22 = .ok (.iconst 2, 1) := by decide +kernel
theorem dX4_dry_23 : decode cX4_dry 23 = .ok (.if_icmp .eq 6, 3) := by decide +kernel
theorem dX4_dry_26 : decode cX4_dry 26 = .ok (.bipush (-3), 2) := by decide +kernel
theorem dX4_dry_28 : decode cX4_dry 28 = .ok (.ireturn, 1) := by decide +kernel
theorem dX4_dry_29 : decode cX4_dry 29 = .ok (.aload_n 0, 1) := by decide +kernel
theorem dX4_dry_30 : decode cX4_dry 30 = .ok (.getfield 33, 3) := by decide +kernel
theorem dX4_dry_33 : decode cX4_dry 33 = .ok (.aload_n 0, 1) := by decide +kernel
theorem dX4_dry_34 : decode cX4_dry 34 = .ok (.getfield 26, 3) := by decide +kernel
theorem dX4_dry_37 : decode cX4_dry 37 = .ok (.invokevirtual 120, 3) := by decide +kernel
theorem dX4_dry_40 : decode cX4_dry 40 = .ok (.aload_n 0, 1) := by decide +kernel
theorem dX4_dry_41 : decode cX4_dry 41 = .ok (.getfield 26, 3) := by decide +kernel
theorem dX4_dry_44 : decode cX4_dry 44 = .ok (.iload_n 1, 1) := by decide +kernel
theorem dX4_dry_45 : decode cX4_dry 45 = .ok (.iload_n 2, 1) := by decide +kernel
theorem dX4_dry_46 : decode cX4_dry 46 = .ok (.iconst 0, 1) := by decide +kernel
theorem dX4_dry_47 : decode cX4_dry 47 = .ok (.invokevirtual 134, 3) := by decide +kernel
theorem dX4_dry_50 : decode cX4_dry 50 = .ok (.aload_n 0, 1) := by decide +kernel
theorem dX4_dry_51 : decode cX4_dry 51 = .ok (.getfield 26, 3) := by decide +kernel
theorem dX4_dry_54 : decode cX4_dry 54 = .ok (.iload_n 1, 1) := by decide +kernel
theorem dX4_dry_55 : decode cX4_dry 55 = .ok (.invokevirtual 138, 3) := by decide +kernel
theorem dX4_dry_58 : decode cX4_dry 58 = .ok (.ireturn, 1) := by decide +kernel
set_option maxRecDepth 20000 in
theorem ggX4_undo_X0_takeBack : GoodIn wsX4_undo wsX0_takeBack := goodIn_r _ [7, 8, 9, 10, 11, 12, 13, 14, 15, 16, 17, 18, 19, 30, 31, 32, 33, 34, 35, 36] (by decide +kernel) (by decide +kernel)
set_option maxRecDepth 20000 in
theorem gX4_undo_X0_takeBack : GoodIn wsX4_undo (wsV RX4 141 RX0 yX0_takeBack wsX0_takeBack) := goodIn_app (goodIn_of _ (by decide +kernel)) ggX4_undo_X0_takeBack
theorem dX4_undo_0 : decode cX4_undo 0 = .ok (.aload_n 0, 1) := by decide +kernel
theorem dX4_undo_1 : decode cX4_undo 1 = .ok (.getfield 33, 3) := by decide +kernel
theorem dX4_undo_4 : decode cX4_undo 4 = .ok (.getfield 80, 3) := by decide +kernel
theorem dX4_undo_7 : decode cX4_undo 7 = .ok (.ifCond .ne 6, 3) := by decide +kernel
theorem dX4_undo_10 : decode cX4_undo 10 = .ok (.bipush (-3), 2) := by decide +kernel
theorem dX4_undo_12 : decode cX4_undo 12 = .ok (.ireturn, 1) := by decide +kernel
theorem dX4_undo_13 : decode cX4_undo 13 = .ok (.aload_n 0, 1) := by decide +kernel
theorem dX4_undo_14 : decode cX4_undo 14 = .ok (.getfield 33, 3) := by decide +kernel
theorem dX4_undo_17 : decode cX4_undo 17 = .ok (.aload_n 0, 1) := by decide +kernel
theorem dX4_undo_18 : decode cX4_undo 18 = .ok (.getfield 26, 3) := by decide +kernel
theorem dX4_undo_21 : decode cX4_undo 21 = .ok (.invokevirtual 141, 3) := by decide +kernel
theorem dX4_undo_24 : decode cX4_undo 24 = .ok (.aload_n 0, 1) := by decide +kernel
theorem dX4_undo_25 : decode cX4_undo 25 = .ok (.getfield 33, 3) := by decide +kernel
theorem dX4_undo_28 : decode cX4_undo 28 = .ok (.getfield 80, 3) := by decide +kernel
theorem dX4_undo_31 : decode cX4_undo 31 = .ok (.ireturn, 1) := by decide +kernel
set_option maxRecDepth 20000 in
theorem ggX4_alone_X4_placeRefusal : GoodIn wsX4_alone wsX4_placeRefusal := goodIn_r _ [5, 6, 7, 8, 9, 10, 11, 12, 13, 14, 4, 15, 51, 52, 53, 54, 55, 56, 57, 58, 59, 60, 61, 62, 63, 64, 65] (by decide +kernel) (by decide +kernel)
set_option maxRecDepth 20000 in
theorem gX4_alone_X4_placeRefusal : GoodIn wsX4_alone (wsV RX4 131 RX4 yX4_placeRefusal wsX4_placeRefusal) := goodIn_app (goodIn_of _ (by decide +kernel)) ggX4_alone_X4_placeRefusal
set_option maxRecDepth 20000 in
theorem ggX4_alone_X4_aloneMinutes : GoodIn wsX4_alone wsX4_aloneMinutes := goodIn_r _ [19, 6, 20, 21, 22, 23, 24, 25, 26, 27, 4, 28, 29, 30, 31, 32, 33, 34, 35, 36, 37, 38, 39, 40, 41, 42, 10, 43, 44, 45, 46, 47, 48, 49, 50, 51, 52, 53, 54, 55, 56, 57, 58, 59, 60, 61, 62, 63, 64, 65, 66, 67, 68, 69] (by decide +kernel) (by decide +kernel)
set_option maxRecDepth 20000 in
theorem gX4_alone_X4_aloneMinutes : GoodIn wsX4_alone (wsV RX4 144 RX4 yX4_aloneMinutes wsX4_aloneMinutes) := goodIn_app (goodIn_of _ (by decide +kernel)) ggX4_alone_X4_aloneMinutes
theorem dX4_alone_0 : decode cX4_alone 0 = .ok (.aload_n 0, 1) := by decide +kernel
theorem dX4_alone_1 : decode cX4_alone 1 = .ok (.iload_n 1, 1) := by decide +kernel
theorem dX4_alone_2 : decode cX4_alone 2 = .ok (.iload_n 2, 1) := by decide +kernel
theorem dX4_alone_3 : decode cX4_alone 3 = .ok (.invokevirtual 131, 3) := by decide +kernel
theorem dX4_alone_6 : decode cX4_alone 6 = .ok (.istore_n 3, 1) := by decide +kernel
theorem dX4_alone_7 : decode cX4_alone 7 = .ok (.iload_n 3, 1) := by decide +kernel
theorem dX4_alone_8 : decode cX4_alone 8 = .ok (.ifCond .eq 7, 3) := by decide +kernel
theorem dX4_alone_11 : decode cX4_alone 11 = .ok (.iload_n 3, 1) := by decide +kernel
theorem dX4_alone_12 : decode cX4_alone 12 = .ok (.goto 9, 3) := by decide +kernel
theorem dX4_alone_15 : decode cX4_alone 15 = .ok (.aload_n 0, 1) := by decide +kernel
theorem dX4_alone_16 : decode cX4_alone 16 = .ok (.iload_n 1, 1) := by decide +kernel
theorem dX4_alone_17 : decode cX4_alone 17 = .ok (.iload_n 2, 1) := by decide +kernel
theorem dX4_alone_18 : decode cX4_alone 18 = .ok (.invokevirtual 144, 3) := by decide +kernel
theorem dX4_alone_21 : decode cX4_alone 21 = .ok (.ireturn, 1) := by decide +kernel
set_option maxRecDepth 20000 in
theorem ggX4_time_X4_pairRefusal : GoodIn wsX4_time wsX4_pairRefusal := goodIn_r _ [7, 2, 8, 9, 10, 11, 12, 13, 14, 15, 16, 17, 18, 61, 62, 63, 64, 65, 66, 67, 68, 69, 70, 75, 76, 77, 78, 79] (by decide +kernel) (by decide +kernel)
set_option maxRecDepth 20000 in
theorem gX4_time_X4_pairRefusal : GoodIn wsX4_time (wsV RX4 112 RX4 yX4_pairRefusal wsX4_pairRefusal) := goodIn_app (goodIn_of _ (by decide +kernel)) ggX4_time_X4_pairRefusal
set_option maxRecDepth 20000 in
theorem ggX4_time_X4_isPlace : GoodIn wsX4_time wsX4_isPlace := goodIn_r _ [21] (by decide +kernel) (by decide +kernel)
set_option maxRecDepth 20000 in
theorem gX4_time_X4_isPlace : GoodIn wsX4_time (va_wsS RX4 89 yX4_isPlace wsX4_isPlace) := goodIn_app (goodIn_of _ (by decide +kernel)) ggX4_time_X4_isPlace
set_option maxRecDepth 20000 in
theorem ggX4_time_X4_pairMinutes : GoodIn wsX4_time wsX4_pairMinutes := goodIn_r _ [25, 2, 1, 26, 27, 28, 29, 30, 31, 32, 33, 34, 35, 36, 6, 37, 38, 39, 40, 41, 42, 43, 44, 45, 46, 47, 11, 48, 49, 50, 51, 52, 53, 54, 55, 61, 62, 63, 64, 65, 66, 67, 68, 69, 70, 75, 76, 77, 78, 79, 71, 72, 73, 74] (by decide +kernel) (by decide +kernel)
set_option maxRecDepth 20000 in
theorem gX4_time_X4_pairMinutes : GoodIn wsX4_time (wsV RX4 124 RX4 yX4_pairMinutes wsX4_pairMinutes) := goodIn_app (goodIn_of _ (by decide +kernel)) ggX4_time_X4_pairMinutes
set_option maxRecDepth 20000 in
theorem ggX4_time_X1_loadOf : GoodIn wsX4_time wsX1_loadOf := goodIn_r _ [59, 60, 75, 76, 77, 78, 79] (by decide +kernel) (by decide +kernel)
set_option maxRecDepth 20000 in
theorem gX4_time_X1_loadOf : GoodIn wsX4_time (wsV RX4 109 RX1 yX1_loadOf wsX1_loadOf) := goodIn_app (goodIn_of _ (by decide +kernel)) ggX4_time_X1_loadOf
theorem dX4_time_0 : decode cX4_time 0 = .ok (.aload_n 0, 1) := by decide +kernel
theorem dX4_time_1 : decode cX4_time 1 = .ok (.iload_n 1, 1) := by decide +kernel
theorem dX4_time_2 : decode cX4_time 2 = .ok (.iload_n 2, 1) := by decide +kernel
theorem dX4_time_3 : decode cX4_time 3 = .ok (.iload_n 3, 1) := by decide +kernel
theorem dX4_time_4 : decode cX4_time 4 = .ok (.invokevirtual 112, 3) := by decide +kernel
theorem dX4_time_7 : decode cX4_time 7 = .ok (.istore 6, 2) := by decide +kernel
theorem dX4_time_9 : decode cX4_time 9 = .ok (.iload 6, 2) := by decide +kernel
theorem dX4_time_11 : decode cX4_time 11 = .ok (.ifCond .eq 6, 3) := by decide +kernel
theorem dX4_time_14 : decode cX4_time 14 = .ok (.iload 6, 2) := by decide +kernel
theorem dX4_time_16 : decode cX4_time 16 = .ok (.ireturn, 1) := by decide +kernel
theorem dX4_time_17 : decode cX4_time 17 = .ok (.iload 4, 2) := by decide +kernel
theorem dX4_time_19 : decode cX4_time 19 = .ok (.invokestatic 89, 3) := by decide +kernel
theorem dX4_time_22 : decode cX4_time 22 = .ok (.ifCond .eq 11, 3) := by decide +kernel
theorem dX4_time_25 : decode cX4_time 25 = .ok (.iload 5, 2) := by decide +kernel
theorem dX4_time_27 : decode cX4_time 27 = .ok (.invokestatic 89, 3) := by decide +kernel
theorem dX4_time_30 : decode cX4_time 30 = .ok (.ifCond .ne 6, 3) := by decide +kernel
theorem dX4_time_33 : decode cX4_time 33 = .ok (.bipush (-2), 2) := by decide +kernel
theorem dX4_time_35 : decode cX4_time 35 = .ok (.ireturn, 1) := by decide +kernel
theorem dX4_time_36 : decode cX4_time 36 = .ok (.aload_n 0, 1) := by decide +kernel
theorem dX4_time_37 : decode cX4_time 37 = .ok (.iload_n 2, 1) := by decide +kernel
theorem dX4_time_38 : decode cX4_time 38 = .ok (.iload_n 3, 1) := by decide +kernel
theorem dX4_time_39 : decode cX4_time 39 = .ok (.iload 4, 2) := by decide +kernel
theorem dX4_time_41 : decode cX4_time 41 = .ok (.iload 5, 2) := by decide +kernel
theorem dX4_time_43 : decode cX4_time 43 = .ok (.aload_n 0, 1) := by decide +kernel
theorem dX4_time_44 : decode cX4_time 44 = .ok (.getfield 26, 3) := by decide +kernel
theorem dX4_time_47 : decode cX4_time 47 = .ok (.getfield 100, 3) := by decide +kernel
theorem dX4_time_50 : decode cX4_time 50 = .ok (.invokevirtual 124, 3) := by decide +kernel
theorem dX4_time_53 : decode cX4_time 53 = .ok (.aload_n 0, 1) := by decide +kernel
theorem dX4_time_54 : decode cX4_time 54 = .ok (.getfield 19, 3) := by decide +kernel
theorem dX4_time_57 : decode cX4_time 57 = .ok (.iload_n 1, 1) := by decide +kernel
theorem dX4_time_58 : decode cX4_time 58 = .ok (.invokevirtual 109, 3) := by decide +kernel
theorem dX4_time_61 : decode cX4_time 61 = .ok (.iadd, 1) := by decide +kernel
theorem dX4_time_62 : decode cX4_time 62 = .ok (.ireturn, 1) := by decide +kernel
set_option maxRecDepth 20000 in
theorem ggX4_best_X1_hasBoat : GoodIn wsX4_best wsX1_hasBoat := goodIn_r _ [6, 7, 74, 75, 76, 77, 78] (by decide +kernel) (by decide +kernel)
set_option maxRecDepth 20000 in
theorem gX4_best_X1_hasBoat : GoodIn wsX4_best (wsV RX4 106 RX1 yX1_hasBoat wsX1_hasBoat) := goodIn_app (goodIn_of _ (by decide +kernel)) ggX4_best_X1_hasBoat
set_option maxRecDepth 20000 in
theorem ggX4_best_X1_allLeggers : GoodIn wsX4_best wsX1_allLeggers := goodIn_r _ [11, 12, 74, 75, 76, 77, 78] (by decide +kernel) (by decide +kernel)
set_option maxRecDepth 20000 in
theorem gX4_best_X1_allLeggers : GoodIn wsX4_best (wsV RX4 147 RX1 yX1_allLeggers wsX1_allLeggers) := goodIn_app (goodIn_of _ (by decide +kernel)) ggX4_best_X1_allLeggers
set_option maxRecDepth 20000 in
theorem ggX4_best_X4_leastPair : GoodIn wsX4_best wsX4_leastPair := goodIn_r _ [17, 1, 18, 19, 20, 21, 22, 23, 24, 16, 25, 26, 27, 28, 29, 30, 31, 32, 33, 34, 35, 36, 37, 38, 39, 40, 41, 42, 43, 44, 45, 46, 47, 48, 49, 50, 5, 51, 52, 53, 54, 55, 56, 57, 58, 64, 65, 66, 67, 68, 69, 70, 71, 72, 73, 74, 75, 76, 77, 78, 79, 80, 81, 82] (by decide +kernel) (by decide +kernel)
set_option maxRecDepth 20000 in
theorem gX4_best_X4_leastPair : GoodIn wsX4_best (wsV RX4 150 RX4 yX4_leastPair wsX4_leastPair) := goodIn_app (goodIn_of _ (by decide +kernel)) ggX4_best_X4_leastPair
set_option maxRecDepth 20000 in
theorem ggX4_best_X1_loadOf : GoodIn wsX4_best wsX1_loadOf := goodIn_r _ [62, 63, 74, 75, 76, 77, 78] (by decide +kernel) (by decide +kernel)
set_option maxRecDepth 20000 in
theorem gX4_best_X1_loadOf : GoodIn wsX4_best (wsV RX4 109 RX1 yX1_loadOf wsX1_loadOf) := goodIn_app (goodIn_of _ (by decide +kernel)) ggX4_best_X1_loadOf
theorem dX4_best_0 : decode cX4_best 0 = .ok (.aload_n 0, 1) := by decide +kernel
theorem dX4_best_1 : decode cX4_best 1 = .ok (.getfield 19, 3) := by decide +kernel
theorem dX4_best_4 : decode cX4_best 4 = .ok (.iload_n 1, 1) := by decide +kernel
theorem dX4_best_5 : decode cX4_best 5 = .ok (.invokevirtual 106, 3) := by decide +kernel
theorem dX4_best_8 : decode cX4_best 8 = .ok (.ifCond .ne 5, 3) := by decide +kernel
theorem dX4_best_11 : decode cX4_best 11 = .ok (.iconst (-1), 1) := by decide +kernel
theorem dX4_best_12 : decode cX4_best 12 = .ok (.ireturn, 1) := by decide +kernel
theorem dX4_best_13 : decode cX4_best 13 = .ok (.iload_n 2, 1) := by decide +kernel
theorem dX4_best_14 : decode cX4_best 14 = .ok (.ifCond .eq 11, 3) := by decide +kernel
theorem dX4_best_17 : decode cX4_best 17 = .ok (.iload_n 2, 1) := by decide +kernel
theorem dX4_best_18 : decode cX4_best 18 = .ok (.iconst 1, 1) := by decide +kernel
theorem dX4_best_19 : decode cX4_best 19 = .ok (.if_icmp .eq 6, 3) := by decide +kernel
theorem dX4_best_22 : decode cX4_best 22 = .ok (.bipush (-2), 2) := by decide +kernel
theorem dX4_best_24 : decode cX4_best 24 = .ok (.ireturn, 1) := by decide +kernel
theorem dX4_best_25 : decode cX4_best 25 = .ok (.aload_n 0, 1) := by decide +kernel
theorem dX4_best_26 : decode cX4_best 26 = .ok (.aload_n 0, 1) := by decide +kernel
theorem dX4_best_27 : decode cX4_best 27 = .ok (.getfield 19, 3) := by decide +kernel
theorem dX4_best_30 : decode cX4_best 30 = .ok (.invokevirtual 147, 3) := by decide +kernel
theorem dX4_best_33 : decode cX4_best 33 = .ok (.invokevirtual 150, 3) := by decide +kernel
theorem dX4_best_36 : decode cX4_best 36 = .ok (.istore_n 3, 1) := by decide +kernel
theorem dX4_best_37 : decode cX4_best 37 = .ok (.iload_n 3, 1) := by decide +kernel
theorem dX4_best_38 : decode cX4_best 38 = .ok (.bipush (-9), 2) := by decide +kernel
theorem dX4_best_40 : decode cX4_best 40 = .ok (.if_icmp .ne 6, 3) := by decide +kernel
theorem dX4_best_43 : decode cX4_best 43 = .ok (.bipush (-9), 2) := by decide +kernel
theorem dX4_best_45 : decode cX4_best 45 = .ok (.ireturn, 1) := by decide +kernel
theorem dX4_best_46 : decode cX4_best 46 = .ok (.iload_n 2, 1) := by decide +kernel
theorem dX4_best_47 : decode cX4_best 47 = .ok (.ifCond .ne 10, 3) := by decide +kernel
theorem dX4_best_50 : decode cX4_best 50 = .ok (.iload_n 3, 1) := by decide +kernel
theorem dX4_best_51 : decode cX4_best 51 = .ok (.bipush 100, 2) := by decide +kernel
theorem dX4_best_53 : decode cX4_best 53 = .ok (.irem, 1) := by decide +kernel
theorem dX4_best_54 : decode cX4_best 54 = .ok (.goto 16, 3) := by decide +kernel
theorem dX4_best_57 : decode cX4_best 57 = .ok (.iload_n 3, 1) := by decide +kernel
theorem dX4_best_58 : decode cX4_best 58 = .ok (.bipush 100, 2) := by decide +kernel
theorem dX4_best_60 : decode cX4_best 60 = .ok (.idiv, 1) := by decide +kernel
theorem dX4_best_61 : decode cX4_best 61 = .ok (.aload_n 0, 1) := by decide +kernel
theorem dX4_best_62 : decode cX4_best 62 = .ok (.getfield 19, 3) := by decide +kernel
theorem dX4_best_65 : decode cX4_best 65 = .ok (.iload_n 1, 1) := by decide +kernel
theorem dX4_best_66 : decode cX4_best 66 = .ok (.invokevirtual 109, 3) := by decide +kernel
theorem dX4_best_69 : decode cX4_best 69 = .ok (.iadd, 1) := by decide +kernel
theorem dX4_best_70 : decode cX4_best 70 = .ok (.ireturn, 1) := by decide +kernel
set_option maxRecDepth 20000 in
theorem ggX4_begin_X4_pairRefusal : GoodIn wsX4_begin wsX4_pairRefusal := goodIn_r _ [6, 1, 7, 8, 9, 10, 11, 12, 13, 14, 15, 16, 17, 66, 67, 68, 69, 70, 71, 72, 73, 74, 75, 76, 77, 78, 79, 80] (by decide +kernel) (by decide +kernel)
set_option maxRecDepth 20000 in
theorem gX4_begin_X4_pairRefusal : GoodIn wsX4_begin (wsV RX4 112 RX4 yX4_pairRefusal wsX4_pairRefusal) := goodIn_app (goodIn_of _ (by decide +kernel)) ggX4_begin_X4_pairRefusal
set_option maxRecDepth 20000 in
theorem ggX4_begin_X4_leastBegin : GoodIn wsX4_begin wsX4_leastBegin := goodIn_r _ [21, 22, 23, 24, 25, 26, 27, 28, 29, 30, 5, 31, 1, 32, 33, 34, 35, 36, 37, 38, 39, 40, 41, 42, 43, 44, 45, 46, 47, 48, 49, 50, 51, 52, 10, 53, 54, 55, 56, 57, 58, 59, 60, 66, 67, 68, 69, 70, 71, 72, 73, 74, 75, 81, 82, 83, 84, 76, 77, 78, 79, 80] (by decide +kernel) (by decide +kernel)
set_option maxRecDepth 20000 in
theorem gX4_begin_X4_leastBegin : GoodIn wsX4_begin (wsV RX4 153 RX4 yX4_leastBegin wsX4_leastBegin) := goodIn_app (goodIn_of _ (by decide +kernel)) ggX4_begin_X4_leastBegin
set_option maxRecDepth 20000 in
theorem ggX4_begin_X1_loadOf : GoodIn wsX4_begin wsX1_loadOf := goodIn_r _ [64, 65, 76, 77, 78, 79, 80] (by decide +kernel) (by decide +kernel)
set_option maxRecDepth 20000 in
theorem gX4_begin_X1_loadOf : GoodIn wsX4_begin (wsV RX4 109 RX1 yX1_loadOf wsX1_loadOf) := goodIn_app (goodIn_of _ (by decide +kernel)) ggX4_begin_X1_loadOf
theorem dX4_begin_0 : decode cX4_begin 0 = .ok (.aload_n 0, 1) := by decide +kernel
theorem dX4_begin_1 : decode cX4_begin 1 = .ok (.iload_n 1, 1) := by decide +kernel
theorem dX4_begin_2 : decode cX4_begin 2 = .ok (.iload_n 2, 1) := by decide +kernel
theorem dX4_begin_3 : decode cX4_begin 3 = .ok (.iload_n 3, 1) := by decide +kernel
theorem dX4_begin_4 : decode cX4_begin 4 = .ok (.invokevirtual 112, 3) := by decide +kernel
theorem dX4_begin_7 : decode cX4_begin 7 = .ok (.istore 5, 2) := by decide +kernel
theorem dX4_begin_9 : decode cX4_begin 9 = .ok (.iload 5, 2) := by decide +kernel
theorem dX4_begin_11 : decode cX4_begin 11 = .ok (.ifCond .eq 6, 3) := by decide +kernel
theorem dX4_begin_14 : decode cX4_begin 14 = .ok (.iload 5, 2) := by decide +kernel
theorem dX4_begin_16 : decode cX4_begin 16 = .ok (.ireturn, 1) := by decide +kernel
theorem dX4_begin_17 : decode cX4_begin 17 = .ok (.iload 4, 2) := by decide +kernel
theorem dX4_begin_19 : decode cX4_begin 19 = .ok (.ifCond .eq 12, 3) := by decide +kernel
theorem dX4_begin_22 : decode cX4_begin 22 = .ok (.iload 4, 2) := by decide +kernel
theorem dX4_begin_24 : decode cX4_begin 24 = .ok (.iconst 1, 1) := by decide +kernel
theorem dX4_begin_25 : decode cX4_begin 25 = .ok (.if_icmp .eq 6, 3) := by decide +kernel
theorem dX4_begin_28 : decode cX4_begin 28 = .ok (.bipush (-2), 2) := by decide +kernel
theorem dX4_begin_30 : decode cX4_begin 30 = .ok (.ireturn, 1) := by decide +kernel
theorem dX4_begin_31 : decode cX4_begin 31 = .ok (.aload_n 0, 1) := by decide +kernel
theorem dX4_begin_32 : decode cX4_begin 32 = .ok (.iload_n 2, 1) := by decide +kernel
theorem dX4_begin_33 : decode cX4_begin 33 = .ok (.iload_n 3, 1) := by decide +kernel
theorem dX4_begin_34 : decode cX4_begin 34 = .ok (.invokevirtual 153, 3) := by decide +kernel
theorem dX4_begin_37 : decode cX4_begin 37 = .ok (.istore 6, 2) := by decide +kernel
theorem dX4_begin_39 : decode cX4_begin 39 = .ok (.iload 4, 2) := by decide +kernel
theorem dX4_begin_41 : decode cX4_begin 41 = .ok (.ifCond .ne 11, 3) := by decide +kernel
theorem dX4_begin_44 : decode cX4_begin 44 = .ok (.iload 6, 2) := by decide +kernel
theorem dX4_begin_46 : decode cX4_begin 46 = .ok (.bipush 100, 2) := by decide +kernel
theorem dX4_begin_48 : decode cX4_begin 48 = .ok (.irem, 1) := by decide +kernel
theorem dX4_begin_49 : decode cX4_begin 49 = .ok (.goto 17, 3) := by decide +kernel
theorem dX4_begin_52 : decode cX4_begin 52 = .ok (.iload 6, 2) := by decide +kernel
theorem dX4_begin_54 : decode cX4_begin 54 = .ok (.bipush 100, 2) := by decide +kernel
theorem dX4_begin_56 : decode cX4_begin 56 = .ok (.idiv, 1) := by decide +kernel
theorem dX4_begin_57 : decode cX4_begin 57 = .ok (.aload_n 0, 1) := by decide +kernel
theorem dX4_begin_58 : decode cX4_begin 58 = .ok (.getfield 19, 3) := by decide +kernel
theorem dX4_begin_61 : decode cX4_begin 61 = .ok (.iload_n 1, 1) := by decide +kernel
theorem dX4_begin_62 : decode cX4_begin 62 = .ok (.invokevirtual 109, 3) := by decide +kernel
theorem dX4_begin_65 : decode cX4_begin 65 = .ok (.iadd, 1) := by decide +kernel
theorem dX4_begin_66 : decode cX4_begin 66 = .ok (.ireturn, 1) := by decide +kernel
set_option maxRecDepth 20000 in
theorem ggX4_soonest_X4_soonestLegs : GoodIn wsX4_soonest wsX4_soonestLegs := goodIn_r _ [7, 8, 9, 1, 10, 11, 12, 13, 14, 15, 16, 17, 18, 19, 6, 20, 2, 21, 22, 23, 24, 25, 26, 27, 28, 29, 30, 31, 32, 33, 34, 35, 36, 37, 38, 39, 40, 41, 42, 43, 44, 45, 46, 47, 48, 49, 50, 51, 52, 53, 54, 55, 56, 57, 58, 59, 60, 61, 62, 63, 64, 65, 66, 67, 68, 69, 70, 71, 72, 73, 74, 75, 76, 77, 78, 79, 80, 81, 82, 83, 84, 85, 86, 87, 88, 89, 90] (by decide +kernel) (by decide +kernel)
set_option maxRecDepth 20000 in
theorem gX4_soonest_X4_soonestLegs : GoodIn wsX4_soonest (wsV RX4 156 RX4 yX4_soonestLegs wsX4_soonestLegs) := goodIn_app (goodIn_of _ (by decide +kernel)) ggX4_soonest_X4_soonestLegs
theorem dX4_soonest_0 : decode cX4_soonest 0 = .ok (.aload_n 0, 1) := by decide +kernel
theorem dX4_soonest_1 : decode cX4_soonest 1 = .ok (.invokevirtual 156, 3) := by decide +kernel
theorem dX4_soonest_4 : decode cX4_soonest 4 = .ok (.lstore_n 2, 1) := by decide +kernel
theorem dX4_soonest_5 : decode cX4_soonest 5 = .ok (.lload_n 2, 1) := by decide +kernel
theorem dX4_soonest_6 : decode cX4_soonest 6 = .ok (.ldc2_w 160, 3) := by decide +kernel
theorem dX4_soonest_9 : decode cX4_soonest 9 = .ok (.lcmp, 1) := by decide +kernel
theorem dX4_soonest_10 : decode cX4_soonest 10 = .ok (.ifCond .ne 6, 3) := by decide +kernel
theorem dX4_soonest_13 : decode cX4_soonest 13 = .ok (.bipush (-9), 2) := by decide +kernel
theorem dX4_soonest_15 : decode cX4_soonest 15 = .ok (.ireturn, 1) := by decide +kernel
theorem dX4_soonest_16 : decode cX4_soonest 16 = .ok (.iload_n 1, 1) := by decide +kernel
theorem dX4_soonest_17 : decode cX4_soonest 17 = .ok (.ifCond .eq 11, 3) := by decide +kernel
theorem dX4_soonest_20 : decode cX4_soonest 20 = .ok (.lload_n 2, 1) := by decide +kernel
theorem dX4_soonest_21 : decode cX4_soonest 21 = .ok (.ldc2_w 162, 3) := by decide +kernel
theorem dX4_soonest_24 : decode cX4_soonest 24 = .ok (.lrem, 1) := by decide +kernel
theorem dX4_soonest_25 : decode cX4_soonest 25 = .ok (.goto 8, 3) := by decide +kernel
theorem dX4_soonest_28 : decode cX4_soonest 28 = .ok (.lload_n 2, 1) := by decide +kernel
theorem dX4_soonest_29 : decode cX4_soonest 29 = .ok (.ldc2_w 162, 3) := by decide +kernel
theorem dX4_soonest_32 : decode cX4_soonest 32 = .ok (.ldiv, 1) := by decide +kernel
theorem dX4_soonest_33 : decode cX4_soonest 33 = .ok (.l2i, 1) := by decide +kernel
theorem dX4_soonest_34 : decode cX4_soonest 34 = .ok (.ireturn, 1) := by decide +kernel
set_option maxRecDepth 20000 in
theorem ggX4_judge_X4_legTold : GoodIn wsX4_judge wsX4_legTold := goodIn_r _ [5] (by decide +kernel) (by decide +kernel)
set_option maxRecDepth 20000 in
theorem gX4_judge_X4_legTold : GoodIn wsX4_judge (va_wsS RX4 164 yX4_legTold wsX4_legTold) := goodIn_app (goodIn_of _ (by decide +kernel)) ggX4_judge_X4_legTold
set_option maxRecDepth 20000 in
theorem ggX4_judge_X4_pairRefusal : GoodIn wsX4_judge wsX4_pairRefusal := goodIn_r _ [9, 10, 11, 12, 13, 14, 15, 16, 17, 18, 19, 20, 21, 25, 26, 27, 28, 29, 30, 31, 32, 33, 34, 39, 40, 41, 42, 43] (by decide +kernel) (by decide +kernel)
set_option maxRecDepth 20000 in
theorem gX4_judge_X4_pairRefusal : GoodIn wsX4_judge (wsV RX4 112 RX4 yX4_pairRefusal wsX4_pairRefusal) := goodIn_app (goodIn_of _ (by decide +kernel)) ggX4_judge_X4_pairRefusal
set_option maxRecDepth 20000 in
theorem ggX4_judge_X4_isIn : GoodIn wsX4_judge wsX4_isIn := goodIn_r _ [24] (by decide +kernel) (by decide +kernel)
set_option maxRecDepth 20000 in
theorem gX4_judge_X4_isIn : GoodIn wsX4_judge (va_wsS RX4 116 yX4_isIn wsX4_isIn) := goodIn_app (goodIn_of _ (by decide +kernel)) ggX4_judge_X4_isIn
end
section
theorem dX4_judge_0 : decode cX4_judge 0 = .ok (.iload_n 1, 1) := by decide +kernel
theorem dX4_judge_1 : decode cX4_judge 1 = .ok (.iconst 1, 1) := by decide +kernel
theorem dX4_judge_2 : decode cX4_judge 2 = .ok (.if_icmp .lt 20, 3) := by decide +kernel
theorem dX4_judge_5 : decode cX4_judge 5 = .ok (.iload_n 1, 1) := by decide +kernel
theorem dX4_judge_6 : decode cX4_judge 6 = .ok (.iconst 3, 1) := by decide +kernel
theorem dX4_judge_7 : decode cX4_judge 7 = .ok (.if_icmp .gt 15, 3) := by decide +kernel
theorem dX4_judge_10 : decode cX4_judge 10 = .ok (.iload_n 2, 1) := by decide +kernel
theorem dX4_judge_11 : decode cX4_judge 11 = .ok (.ifCond .lt 11, 3) := by decide +kernel
theorem dX4_judge_14 : decode cX4_judge 14 = .ok (.iload_n 2, 1) := by decide +kernel
theorem dX4_judge_15 : decode cX4_judge 15 = .ok (.iload_n 1, 1) := by decide +kernel
theorem dX4_judge_16 : decode cX4_judge 16 = .ok (.invokestatic 164, 3) := by decide +kernel
theorem dX4_judge_19 : decode cX4_judge 19 = .ok (.ifCond .eq 6, 3) := by decide +kernel
theorem dX4_judge_22 : decode cX4_judge 22 = .ok (.bipush (-2), 2) := by decide +kernel
theorem dX4_judge_24 : decode cX4_judge 24 = .ok (.ireturn, 1) := by decide +kernel
theorem dX4_judge_25 : decode cX4_judge 25 = .ok (.aload_n 0, 1) := by decide +kernel
theorem dX4_judge_26 : decode cX4_judge 26 = .ok (.getfield 26, 3) := by decide +kernel
theorem dX4_judge_29 : decode cX4_judge 29 = .ok (.getfield 74, 3) := by decide +kernel
theorem dX4_judge_32 : decode cX4_judge 32 = .ok (.istore_n 3, 1) := by decide +kernel
theorem dX4_judge_33 : decode cX4_judge 33 = .ok (.iconst 0, 1) := by decide +kernel
theorem dX4_judge_34 : decode cX4_judge 34 = .ok (.istore 4, 2) := by decide +kernel
theorem dX4_judge_36 : decode cX4_judge 36 = .ok (.iload 4, 2) := by decide +kernel
theorem dX4_judge_38 : decode cX4_judge 38 = .ok (.iload_n 1, 1) := by decide +kernel
theorem dX4_judge_39 : decode cX4_judge 39 = .ok (.if_icmp .ge 73, 3) := by decide +kernel
theorem dX4_judge_42 : decode cX4_judge 42 = .ok (.iload_n 2, 1) := by decide +kernel
theorem dX4_judge_43 : decode cX4_judge 43 = .ok (.iload_n 1, 1) := by decide +kernel
theorem dX4_judge_44 : decode cX4_judge 44 = .ok (.iconst 1, 1) := by decide +kernel
theorem dX4_judge_45 : decode cX4_judge 45 = .ok (.isub, 1) := by decide +kernel
theorem dX4_judge_46 : decode cX4_judge 46 = .ok (.iload 4, 2) := by decide +kernel
theorem dX4_judge_48 : decode cX4_judge 48 = .ok (.isub, 1) := by decide +kernel
theorem dX4_judge_49 : decode cX4_judge 49 = .ok (.invokestatic 164, 3) := by decide +kernel
theorem dX4_judge_52 : decode cX4_judge 52 = .ok (.sipush 1000, 3) := by decide +kernel
theorem dX4_judge_55 : decode cX4_judge 55 = .ok (.irem, 1) := by decide +kernel
theorem dX4_judge_56 : decode cX4_judge 56 = .ok (.istore 5, 2) := by decide +kernel
theorem dX4_judge_58 : decode cX4_judge 58 = .ok (.iload 5, 2) := by decide +kernel
theorem dX4_judge_60 : decode cX4_judge 60 = .ok (.bipush 100, 2) := by decide +kernel
theorem dX4_judge_62 : decode cX4_judge 62 = .ok (.idiv, 1) := by decide +kernel
theorem dX4_judge_63 : decode cX4_judge 63 = .ok (.istore 6, 2) := by decide +kernel
theorem dX4_judge_65 : decode cX4_judge 65 = .ok (.aload_n 0, 1) := by decide +kernel
theorem dX4_judge_66 : decode cX4_judge 66 = .ok (.iload 6, 2) := by decide +kernel
theorem dX4_judge_68 : decode cX4_judge 68 = .ok (.iload 5, 2) := by decide +kernel
theorem dX4_judge_70 : decode cX4_judge 70 = .ok (.bipush 10, 2) := by decide +kernel
theorem dX4_judge_72 : decode cX4_judge 72 = .ok (.idiv, 1) := by decide +kernel
theorem dX4_judge_73 : decode cX4_judge 73 = .ok (.bipush 10, 2) := by decide +kernel
theorem dX4_judge_75 : decode cX4_judge 75 = .ok (.irem, 1) := by decide +kernel
theorem dX4_judge_76 : decode cX4_judge 76 = .ok (.iload 5, 2) := by decide +kernel
theorem dX4_judge_78 : decode cX4_judge 78 = .ok (.bipush 10, 2) := by decide +kernel
theorem dX4_judge_80 : decode cX4_judge 80 = .ok (.irem, 1) := by decide +kernel
theorem dX4_judge_81 : decode cX4_judge 81 = .ok (.invokevirtual 112, 3) := by decide +kernel
theorem dX4_judge_84 : decode cX4_judge 84 = .ok (.ifCond .ne 12, 3) := by decide +kernel
theorem dX4_judge_87 : decode cX4_judge 87 = .ok (.iload_n 3, 1) := by decide +kernel
theorem dX4_judge_88 : decode cX4_judge 88 = .ok (.iload 6, 2) := by decide +kernel
theorem dX4_judge_90 : decode cX4_judge 90 = .ok (.invokestatic 116, 3) := by decide +kernel
theorem dX4_judge_93 : decode cX4_judge 93 = .ok (.ifCond .eq 6, 3) := by decide +kernel
theorem dX4_judge_96 : decode cX4_judge 96 = .ok (.iload 4, 2) := by decide +kernel
theorem dX4_judge_98 : decode cX4_judge 98 = .ok (.ireturn, 1) := by decide +kernel
theorem dX4_judge_99 : decode cX4_judge 99 = .ok (.iload_n 3, 1) := by decide +kernel
theorem dX4_judge_100 : decode cX4_judge 100 = .ok (.iconst 1, 1) := by decide +kernel
theorem dX4_judge_101 : decode cX4_judge 101 = .ok (.iload 6, 2) := by decide +kernel
theorem dX4_judge_103 : decode cX4_judge 103 = .ok (.ishl, 1) := by decide +kernel
theorem dX4_judge_104 : decode cX4_judge 104 = .ok (.ior, 1) := by decide +kernel
theorem dX4_judge_105 : decode cX4_judge 105 = .ok (.istore_n 3, 1) := by decide +kernel
theorem dX4_judge_106 : decode cX4_judge 106 = .ok (.iinc 4 1, 3) := by decide +kernel
theorem dX4_judge_109 : decode cX4_judge 109 = .ok (.goto (-73), 3) := by decide +kernel
theorem dX4_judge_112 : decode cX4_judge 112 = .ok (.bipush (-9), 2) := by decide +kernel
theorem dX4_judge_114 : decode cX4_judge 114 = .ok (.ireturn, 1) := by decide +kernel
set_option maxRecDepth 20000 in
theorem ggX4_share_X1_hasLegger : GoodIn wsX4_share wsX1_hasLegger := goodIn_r _ [6, 7, 99, 100, 101, 102, 103] (by decide +kernel) (by decide +kernel)
set_option maxRecDepth 20000 in
theorem gX4_share_X1_hasLegger : GoodIn wsX4_share (wsV RX4 86 RX1 yX1_hasLegger wsX1_hasLegger) := goodIn_app (goodIn_of _ (by decide +kernel)) ggX4_share_X1_hasLegger
set_option maxRecDepth 20000 in
theorem ggX4_share_X1_hasBoat : GoodIn wsX4_share wsX1_hasBoat := goodIn_r _ [11, 12, 99, 100, 101, 102, 103] (by decide +kernel) (by decide +kernel)
set_option maxRecDepth 20000 in
theorem gX4_share_X1_hasBoat : GoodIn wsX4_share (wsV RX4 106 RX1 yX1_hasBoat wsX1_hasBoat) := goodIn_app (goodIn_of _ (by decide +kernel)) ggX4_share_X1_hasBoat
set_option maxRecDepth 20000 in
theorem ggX4_share_X1_allLeggers : GoodIn wsX4_share wsX1_allLeggers := goodIn_r _ [16, 7, 99, 100, 101, 102, 103] (by decide +kernel) (by decide +kernel)
set_option maxRecDepth 20000 in
theorem gX4_share_X1_allLeggers : GoodIn wsX4_share (wsV RX4 147 RX1 yX1_allLeggers wsX1_allLeggers) := goodIn_app (goodIn_of _ (by decide +kernel)) ggX4_share_X1_allLeggers
set_option maxRecDepth 20000 in
theorem ggX4_share_X4_isIn : GoodIn wsX4_share wsX4_isIn := goodIn_r _ [20] (by decide +kernel) (by decide +kernel)
set_option maxRecDepth 20000 in
theorem gX4_share_X4_isIn : GoodIn wsX4_share (va_wsS RX4 116 yX4_isIn wsX4_isIn) := goodIn_app (goodIn_of _ (by decide +kernel)) ggX4_share_X4_isIn
set_option maxRecDepth 20000 in
theorem ggX4_share_X4_worth : GoodIn wsX4_share wsX4_worth := goodIn_r _ [24, 1, 25, 26, 27, 19, 28, 29, 30, 31, 32, 33, 17, 18, 20, 34, 35, 36, 37, 38, 39, 40, 41, 42, 43, 44, 45, 46, 47, 48, 49, 50, 51, 52, 53, 54, 55, 56, 57, 58, 5, 59, 60, 61, 62, 63, 64, 65, 66, 67, 68, 69, 70, 71, 89, 90, 91, 92, 93, 94, 95, 96, 97, 98, 99, 100, 101, 102, 103, 104, 105, 106, 107] (by decide +kernel) (by decide +kernel)
set_option maxRecDepth 20000 in
theorem gX4_share_X4_worth : GoodIn wsX4_share (wsV RX4 167 RX4 yX4_worth wsX4_worth) := goodIn_app (goodIn_of _ (by decide +kernel)) ggX4_share_X4_worth
set_option maxRecDepth 20000 in
theorem ggX4_share_J6_bitCount_0f7a4 : GoodIn wsX4_share wsJ6_bitCount_0f7a4 := goodIn_r _ [75, 76, 77, 78] (by decide +kernel) (by decide +kernel)
set_option maxRecDepth 20000 in
theorem gX4_share_J6_bitCount_0f7a4 : GoodIn wsX4_share (va_wsS RX4 170 yJ6_bitCount_0f7a4 wsJ6_bitCount_0f7a4) := goodIn_app (goodIn_of _ (by decide +kernel)) ggX4_share_J6_bitCount_0f7a4
set_option maxRecDepth 20000 in
theorem ggX4_share_X4_ordersBehind : GoodIn wsX4_share wsX4_ordersBehind := goodIn_r _ [82, 1, 83, 84, 19, 85, 89, 90, 91, 92, 93, 94, 95, 96, 97, 98, 99, 100, 101, 102, 103] (by decide +kernel) (by decide +kernel)
set_option maxRecDepth 20000 in
theorem gX4_share_X4_ordersBehind : GoodIn wsX4_share (wsV RX4 175 RX4 yX4_ordersBehind wsX4_ordersBehind) := goodIn_app (goodIn_of _ (by decide +kernel)) ggX4_share_X4_ordersBehind
set_option maxRecDepth 20000 in
theorem ggX4_share_X4_factorial : GoodIn wsX4_share wsX4_factorial := goodIn_r _ [85] (by decide +kernel) (by decide +kernel)
set_option maxRecDepth 20000 in
theorem gX4_share_X4_factorial : GoodIn wsX4_share (va_wsS RX4 178 yX4_factorial wsX4_factorial) := goodIn_app (goodIn_of _ (by decide +kernel)) ggX4_share_X4_factorial
set_option maxRecDepth 20000 in
theorem ggX4_share_X4_fraction : GoodIn wsX4_share wsX4_fraction := goodIn_r _ [88] (by decide +kernel) (by decide +kernel)
set_option maxRecDepth 20000 in
theorem gX4_share_X4_fraction : GoodIn wsX4_share (va_wsS RX4 181 yX4_fraction wsX4_fraction) := goodIn_app (goodIn_of _ (by decide +kernel)) ggX4_share_X4_fraction
theorem dX4_share_0 : decode cX4_share 0 = .ok (.aload_n 0, 1) := by decide +kernel
theorem dX4_share_1 : decode cX4_share 1 = .ok (.getfield 19, 3) := by decide +kernel
theorem dX4_share_4 : decode cX4_share 4 = .ok (.iload_n 1, 1) := by decide +kernel
theorem dX4_share_5 : decode cX4_share 5 = .ok (.invokevirtual 86, 3) := by decide +kernel
theorem dX4_share_8 : decode cX4_share 8 = .ok (.ifCond .eq 14, 3) := by decide +kernel
theorem dX4_share_11 : decode cX4_share 11 = .ok (.aload_n 0, 1) := by decide +kernel
theorem dX4_share_12 : decode cX4_share 12 = .ok (.getfield 19, 3) := by decide +kernel
theorem dX4_share_15 : decode cX4_share 15 = .ok (.iload_n 2, 1) := by decide +kernel
theorem dX4_share_16 : decode cX4_share 16 = .ok (.invokevirtual 106, 3) := by decide +kernel
theorem dX4_share_19 : decode cX4_share 19 = .ok (.ifCond .ne 5, 3) := by decide +kernel
theorem dX4_share_22 : decode cX4_share 22 = .ok (.iconst (-1), 1) := by decide +kernel
theorem dX4_share_23 : decode cX4_share 23 = .ok (.ireturn, 1) := by decide +kernel
theorem dX4_share_24 : decode cX4_share 24 = .ok (.iconst 0, 1) := by decide +kernel
theorem dX4_share_25 : decode cX4_share 25 = .ok (.istore 4, 2) := by decide +kernel
theorem dX4_share_27 : decode cX4_share 27 = .ok (.iconst 0, 1) := by decide +kernel
theorem dX4_share_28 : decode cX4_share 28 = .ok (.istore 5, 2) := by decide +kernel
theorem dX4_share_30 : decode cX4_share 30 = .ok (.iload 5, 2) := by decide +kernel
theorem dX4_share_32 : decode cX4_share 32 = .ok (.aload_n 0, 1) := by decide +kernel
theorem dX4_share_33 : decode cX4_share 33 = .ok (.getfield 19, 3) := by decide +kernel
theorem dX4_share_36 : decode cX4_share 36 = .ok (.invokevirtual 147, 3) := by decide +kernel
theorem dX4_share_39 : decode cX4_share 39 = .ok (.if_icmp .gt 56, 3) := by decide +kernel
theorem dX4_share_42 : decode cX4_share 42 = .ok (.iload 5, 2) := by decide +kernel
theorem dX4_share_44 : decode cX4_share 44 = .ok (.iload_n 1, 1) := by decide +kernel
theorem dX4_share_45 : decode cX4_share 45 = .ok (.invokestatic 116, 3) := by decide +kernel
theorem dX4_share_48 : decode cX4_share 48 = .ok (.ifCond .ne 41, 3) := by decide +kernel
theorem dX4_share_51 : decode cX4_share 51 = .ok (.aload_n 0, 1) := by decide +kernel
theorem dX4_share_52 : decode cX4_share 52 = .ok (.iload_n 2, 1) := by decide +kernel
theorem dX4_share_53 : decode cX4_share 53 = .ok (.iload 5, 2) := by decide +kernel
theorem dX4_share_55 : decode cX4_share 55 = .ok (.iconst 1, 1) := by decide +kernel
theorem dX4_share_56 : decode cX4_share 56 = .ok (.iload_n 1, 1) := by decide +kernel
theorem dX4_share_57 : decode cX4_share 57 = .ok (.ishl, 1) := by decide +kernel
theorem dX4_share_58 : decode cX4_share 58 = .ok (.ior, 1) := by decide +kernel
theorem dX4_share_59 : decode cX4_share 59 = .ok (.invokevirtual 167, 3) := by decide +kernel
theorem dX4_share_62 : decode cX4_share 62 = .ok (.aload_n 0, 1) := by decide +kernel
theorem dX4_share_63 : decode cX4_share 63 = .ok (.iload_n 2, 1) := by decide +kernel
theorem dX4_share_64 : decode cX4_share 64 = .ok (.iload 5, 2) := by decide +kernel
theorem dX4_share_66 : decode cX4_share 66 = .ok (.invokevirtual 167, 3) := by decide +kernel
theorem dX4_share_69 : decode cX4_share 69 = .ok (.isub, 1) := by decide +kernel
theorem dX4_share_70 : decode cX4_share 70 = .ok (.istore 6, 2) := by decide +kernel
theorem dX4_share_72 : decode cX4_share 72 = .ok (.iload 4, 2) := by decide +kernel
theorem dX4_share_74 : decode cX4_share 74 = .ok (.iload 6, 2) := by decide +kernel
theorem dX4_share_76 : decode cX4_share 76 = .ok (.aload_n 0, 1) := by decide +kernel
theorem dX4_share_77 : decode cX4_share 77 = .ok (.iload 5, 2) := by decide +kernel
theorem dX4_share_79 : decode cX4_share 79 = .ok (.invokestatic 170, 3) := by decide +kernel
theorem dX4_share_82 : decode cX4_share 82 = .ok (.invokevirtual 175, 3) := by decide +kernel
theorem dX4_share_85 : decode cX4_share 85 = .ok (.imul, 1) := by decide +kernel
theorem dX4_share_86 : decode cX4_share 86 = .ok (.iadd, 1) := by decide +kernel
theorem dX4_share_87 : decode cX4_share 87 = .ok (.istore 4, 2) := by decide +kernel
theorem dX4_share_89 : decode cX4_share 89 = .ok (.iinc 5 1, 3) := by decide +kernel
theorem dX4_share_92 : decode cX4_share 92 = .ok (.goto (-62), 3) := by decide +kernel
theorem dX4_share_95 : decode cX4_share 95 = .ok (.iload 4, 2) := by decide +kernel
theorem dX4_share_97 : decode cX4_share 97 = .ok (.aload_n 0, 1) := by decide +kernel
theorem dX4_share_98 : decode cX4_share 98 = .ok (.getfield 19, 3) := by decide +kernel
theorem dX4_share_101 : decode cX4_share 101 = .ok (.getfield 65, 3) := by decide +kernel
theorem dX4_share_104 : decode cX4_share 104 = .ok (.invokestatic 178, 3) := by decide +kernel
theorem dX4_share_107 : decode cX4_share 107 = .ok (.iload_n 3, 1) := by decide +kernel
theorem dX4_share_108 : decode cX4_share 108 = .ok (.invokestatic 181, 3) := by decide +kernel
theorem dX4_share_111 : decode cX4_share 111 = .ok (.ireturn, 1) := by decide +kernel
theorem dX4_see_0 : decode cX4_see 0 = .ok (.iload_n 1, 1) := by decide +kernel
theorem dX4_see_1 : decode cX4_see 1 = .ok (.ifCond .lt 19, 3) := by decide +kernel
theorem dX4_see_4 : decode cX4_see 4 = .ok (.iload_n 1, 1) := by decide +kernel
theorem dX4_see_5 : decode cX4_see 5 = .ok (.bipush 6, 2) := by decide +kernel
theorem dX4_see_7 : decode cX4_see 7 = .ok (.if_icmp .ge 13, 3) := by decide +kernel
theorem dX4_see_10 : decode cX4_see 10 = .ok (.iload_n 2, 1) := by decide +kernel
theorem dX4_see_11 : decode cX4_see 11 = .ok (.iconst 1, 1) := by decide +kernel
theorem dX4_see_12 : decode cX4_see 12 = .ok (.if_icmp .lt 8, 3) := by decide +kernel
theorem dX4_see_15 : decode cX4_see 15 = .ok (.iload_n 2, 1) := by decide +kernel
theorem dX4_see_16 : decode cX4_see 16 = .ok (.iconst 3, 1) := by decide +kernel
theorem dX4_see_17 : decode cX4_see 17 = .ok (.if_icmp .le 6, 3) := by decide +kernel
theorem dX4_see_20 : decode cX4_see 20 = .ok (.bipush (-2), 2) := by decide +kernel
theorem dX4_see_22 : decode cX4_see 22 = .ok (.ireturn, 1) := by decide +kernel
theorem dX4_see_23 : decode cX4_see 23 = .ok (.aload_n 0, 1) := by decide +kernel
theorem dX4_see_24 : decode cX4_see 24 = .ok (.getfield 83, 3) := by decide +kernel
theorem dX4_see_27 : decode cX4_see 27 = .ok (.bipush 6, 2) := by decide +kernel
theorem dX4_see_29 : decode cX4_see 29 = .ok (.if_icmp .lt 6, 3) := by decide +kernel
theorem dX4_see_32 : decode cX4_see 32 = .ok (.bipush (-4), 2) := by decide +kernel
theorem dX4_see_34 : decode cX4_see 34 = .ok (.ireturn, 1) := by decide +kernel
theorem dX4_see_35 : decode cX4_see 35 = .ok (.aload_n 0, 1) := by decide +kernel
theorem dX4_see_36 : decode cX4_see 36 = .ok (.dup, 1) := by decide +kernel
theorem dX4_see_37 : decode cX4_see 37 = .ok (.getfield 185, 3) := by decide +kernel
theorem dX4_see_40 : decode cX4_see 40 = .ok (.iconst 1, 1) := by decide +kernel
theorem dX4_see_41 : decode cX4_see 41 = .ok (.iconst 4, 1) := by decide +kernel
theorem dX4_see_42 : decode cX4_see 42 = .ok (.iload_n 1, 1) := by decide +kernel
theorem dX4_see_43 : decode cX4_see 43 = .ok (.imul, 1) := by decide +kernel
theorem dX4_see_44 : decode cX4_see 44 = .ok (.iload_n 2, 1) := by decide +kernel
theorem dX4_see_45 : decode cX4_see 45 = .ok (.iadd, 1) := by decide +kernel
theorem dX4_see_46 : decode cX4_see 46 = .ok (.ishl, 1) := by decide +kernel
theorem dX4_see_47 : decode cX4_see 47 = .ok (.ior, 1) := by decide +kernel
theorem dX4_see_48 : decode cX4_see 48 = .ok (.putfield 185, 3) := by decide +kernel
theorem dX4_see_51 : decode cX4_see 51 = .ok (.aload_n 0, 1) := by decide +kernel
theorem dX4_see_52 : decode cX4_see 52 = .ok (.dup, 1) := by decide +kernel
theorem dX4_see_53 : decode cX4_see 53 = .ok (.getfield 83, 3) := by decide +kernel
theorem dX4_see_56 : decode cX4_see 56 = .ok (.iconst 1, 1) := by decide +kernel
theorem dX4_see_57 : decode cX4_see 57 = .ok (.iadd, 1) := by decide +kernel
theorem dX4_see_58 : decode cX4_see 58 = .ok (.putfield 83, 3) := by decide +kernel
theorem dX4_see_61 : decode cX4_see 61 = .ok (.aload_n 0, 1) := by decide +kernel
theorem dX4_see_62 : decode cX4_see 62 = .ok (.getfield 83, 3) := by decide +kernel
theorem dX4_see_65 : decode cX4_see 65 = .ok (.ireturn, 1) := by decide +kernel
theorem dX4_unsee_0 : decode cX4_unsee 0 = .ok (.aload_n 0, 1) := by decide +kernel
theorem dX4_unsee_1 : decode cX4_unsee 1 = .ok (.getfield 83, 3) := by decide +kernel
theorem dX4_unsee_4 : decode cX4_unsee 4 = .ok (.istore_n 1, 1) := by decide +kernel
theorem dX4_unsee_5 : decode cX4_unsee 5 = .ok (.aload_n 0, 1) := by decide +kernel
theorem dX4_unsee_6 : decode cX4_unsee 6 = .ok (.iconst 0, 1) := by decide +kernel
theorem dX4_unsee_7 : decode cX4_unsee 7 = .ok (.putfield 83, 3) := by decide +kernel
theorem dX4_unsee_10 : decode cX4_unsee 10 = .ok (.aload_n 0, 1) := by decide +kernel
theorem dX4_unsee_11 : decode cX4_unsee 11 = .ok (.iconst 0, 1) := by decide +kernel
theorem dX4_unsee_12 : decode cX4_unsee 12 = .ok (.putfield 185, 3) := by decide +kernel
theorem dX4_unsee_15 : decode cX4_unsee 15 = .ok (.iload_n 1, 1) := by decide +kernel
theorem dX4_unsee_16 : decode cX4_unsee 16 = .ok (.ireturn, 1) := by decide +kernel
set_option maxRecDepth 20000 in
theorem ggX4_lives_X4_isPlace : GoodIn wsX4_lives wsX4_isPlace := goodIn_r _ [4] (by decide +kernel) (by decide +kernel)
set_option maxRecDepth 20000 in
theorem gX4_lives_X4_isPlace : GoodIn wsX4_lives (va_wsS RX4 89 yX4_isPlace wsX4_isPlace) := goodIn_app (goodIn_of _ (by decide +kernel)) ggX4_lives_X4_isPlace
set_option maxRecDepth 20000 in
theorem ggX4_lives_X4_isAsSeen : GoodIn wsX4_lives wsX4_isAsSeen := goodIn_r _ [8, 9, 10, 11, 3, 12, 13, 14, 15, 16, 17, 18, 19, 20, 21, 22, 23, 24, 25, 26, 27, 28] (by decide +kernel) (by decide +kernel)
set_option maxRecDepth 20000 in
theorem gX4_lives_X4_isAsSeen : GoodIn wsX4_lives (wsV RX4 188 RX4 yX4_isAsSeen wsX4_isAsSeen) := goodIn_app (goodIn_of _ (by decide +kernel)) ggX4_lives_X4_isAsSeen
set_option maxRecDepth 20000 in
theorem ggX4_lives_X4_groundIn : GoodIn wsX4_lives wsX4_groundIn := goodIn_r _ [12] (by decide +kernel) (by decide +kernel)
set_option maxRecDepth 20000 in
theorem gX4_lives_X4_groundIn : GoodIn wsX4_lives (va_wsS RX4 191 yX4_groundIn wsX4_groundIn) := goodIn_app (goodIn_of _ (by decide +kernel)) ggX4_lives_X4_groundIn
theorem dX4_lives_0 : decode cX4_lives 0 = .ok (.iload_n 1, 1) := by decide +kernel
theorem dX4_lives_1 : decode cX4_lives 1 = .ok (.iconst (-1), 1) := by decide +kernel
theorem dX4_lives_2 : decode cX4_lives 2 = .ok (.if_icmp .eq 13, 3) := by decide +kernel
theorem dX4_lives_5 : decode cX4_lives 5 = .ok (.iload_n 1, 1) := by decide +kernel
theorem dX4_lives_6 : decode cX4_lives 6 = .ok (.invokestatic 89, 3) := by decide +kernel
theorem dX4_lives_9 : decode cX4_lives 9 = .ok (.ifCond .ne 6, 3) := by decide +kernel
theorem dX4_lives_12 : decode cX4_lives 12 = .ok (.bipush (-2), 2) := by decide +kernel
theorem dX4_lives_14 : decode cX4_lives 14 = .ok (.ireturn, 1) := by decide +kernel
theorem dX4_lives_15 : decode cX4_lives 15 = .ok (.iconst 0, 1) := by decide +kernel
theorem dX4_lives_16 : decode cX4_lives 16 = .ok (.istore_n 2, 1) := by decide +kernel
theorem dX4_lives_17 : decode cX4_lives 17 = .ok (.iconst 0, 1) := by decide +kernel
theorem dX4_lives_18 : decode cX4_lives 18 = .ok (.istore_n 3, 1) := by decide +kernel
theorem dX4_lives_19 : decode cX4_lives 19 = .ok (.iconst 0, 1) := by decide +kernel
theorem dX4_lives_20 : decode cX4_lives 20 = .ok (.istore 4, 2) := by decide +kernel
theorem dX4_lives_22 : decode cX4_lives 22 = .ok (.iload 4, 2) := by decide +kernel
theorem dX4_lives_24 : decode cX4_lives 24 = .ok (.sipush 256, 3) := by decide +kernel
theorem dX4_lives_27 : decode cX4_lives 27 = .ok (.if_icmp .ge 40, 3) := by decide +kernel
theorem dX4_lives_30 : decode cX4_lives 30 = .ok (.aload_n 0, 1) := by decide +kernel
theorem dX4_lives_31 : decode cX4_lives 31 = .ok (.iload 4, 2) := by decide +kernel
theorem dX4_lives_33 : decode cX4_lives 33 = .ok (.invokevirtual 188, 3) := by decide +kernel
theorem dX4_lives_36 : decode cX4_lives 36 = .ok (.ifCond .eq 25, 3) := by decide +kernel
theorem dX4_lives_39 : decode cX4_lives 39 = .ok (.iinc 2 1, 3) := by decide +kernel
theorem dX4_lives_42 : decode cX4_lives 42 = .ok (.iload_n 3, 1) := by decide +kernel
theorem dX4_lives_43 : decode cX4_lives 43 = .ok (.iload_n 1, 1) := by decide +kernel
theorem dX4_lives_44 : decode cX4_lives 44 = .ok (.ifCond .ge 7, 3) := by decide +kernel
theorem dX4_lives_47 : decode cX4_lives 47 = .ok (.iconst 0, 1) := by decide +kernel
theorem dX4_lives_48 : decode cX4_lives 48 = .ok (.goto 11, 3) := by decide +kernel
theorem dX4_lives_51 : decode cX4_lives 51 = .ok (.iconst 1, 1) := by decide +kernel
theorem dX4_lives_52 : decode cX4_lives 52 = .ok (.iload 4, 2) := by decide +kernel
theorem dX4_lives_54 : decode cX4_lives 54 = .ok (.iload_n 1, 1) := by decide +kernel
theorem dX4_lives_55 : decode cX4_lives 55 = .ok (.invokestatic 191, 3) := by decide +kernel
theorem dX4_lives_58 : decode cX4_lives 58 = .ok (.ishl, 1) := by decide +kernel
theorem dX4_lives_59 : decode cX4_lives 59 = .ok (.ior, 1) := by decide +kernel
theorem dX4_lives_60 : decode cX4_lives 60 = .ok (.istore_n 3, 1) := by decide +kernel
theorem dX4_lives_61 : decode cX4_lives 61 = .ok (.iinc 4 1, 3) := by decide +kernel
theorem dX4_lives_64 : decode cX4_lives 64 = .ok (.goto (-42), 3) := by decide +kernel
theorem dX4_lives_67 : decode cX4_lives 67 = .ok (.iload_n 1, 1) := by decide +kernel
theorem dX4_lives_68 : decode cX4_lives 68 = .ok (.ifCond .ge 7, 3) := by decide +kernel
theorem dX4_lives_71 : decode cX4_lives 71 = .ok (.iload_n 2, 1) := by decide +kernel
theorem dX4_lives_72 : decode cX4_lives 72 = .ok (.goto 4, 3) := by decide +kernel
theorem dX4_lives_75 : decode cX4_lives 75 = .ok (.iload_n 3, 1) := by decide +kernel
theorem dX4_lives_76 : decode cX4_lives 76 = .ok (.ireturn, 1) := by decide +kernel
set_option maxRecDepth 20000 in
theorem ggX4_rests_X1_hasBoat : GoodIn wsX4_rests wsX1_hasBoat := goodIn_r _ [6, 7, 30, 31, 32, 33, 34] (by decide +kernel) (by decide +kernel)
set_option maxRecDepth 20000 in
theorem gX4_rests_X1_hasBoat : GoodIn wsX4_rests (wsV RX4 106 RX1 yX1_hasBoat wsX1_hasBoat) := goodIn_app (goodIn_of _ (by decide +kernel)) ggX4_rests_X1_hasBoat
set_option maxRecDepth 20000 in
theorem ggX4_rests_X1_loadOf : GoodIn wsX4_rests wsX1_loadOf := goodIn_r _ [11, 12, 30, 31, 32, 33, 34] (by decide +kernel) (by decide +kernel)
set_option maxRecDepth 20000 in
theorem gX4_rests_X1_loadOf : GoodIn wsX4_rests (wsV RX4 109 RX1 yX1_loadOf wsX1_loadOf) := goodIn_app (goodIn_of _ (by decide +kernel)) ggX4_rests_X1_loadOf
set_option maxRecDepth 20000 in
theorem ggX4_rests_X4_staysWith : GoodIn wsX4_rests wsX4_staysWith := goodIn_r _ [16, 17, 18, 15, 19] (by decide +kernel) (by decide +kernel)
set_option maxRecDepth 20000 in
theorem gX4_rests_X4_staysWith : GoodIn wsX4_rests (va_wsS RX4 194 yX4_staysWith wsX4_staysWith) := goodIn_app (goodIn_of _ (by decide +kernel)) ggX4_rests_X4_staysWith
theorem dX4_rests_0 : decode cX4_rests 0 = .ok (.aload_n 0, 1) := by decide +kernel
theorem dX4_rests_1 : decode cX4_rests 1 = .ok (.getfield 19, 3) := by decide +kernel
theorem dX4_rests_4 : decode cX4_rests 4 = .ok (.iload_n 1, 1) := by decide +kernel
theorem dX4_rests_5 : decode cX4_rests 5 = .ok (.invokevirtual 106, 3) := by decide +kernel
theorem dX4_rests_8 : decode cX4_rests 8 = .ok (.ifCond .eq 14, 3) := by decide +kernel
theorem dX4_rests_11 : decode cX4_rests 11 = .ok (.aload_n 0, 1) := by decide +kernel
theorem dX4_rests_12 : decode cX4_rests 12 = .ok (.getfield 19, 3) := by decide +kernel
theorem dX4_rests_15 : decode cX4_rests 15 = .ok (.iload_n 2, 1) := by decide +kernel
theorem dX4_rests_16 : decode cX4_rests 16 = .ok (.invokevirtual 106, 3) := by decide +kernel
theorem dX4_rests_19 : decode cX4_rests 19 = .ok (.ifCond .ne 5, 3) := by decide +kernel
theorem dX4_rests_22 : decode cX4_rests 22 = .ok (.iconst (-1), 1) := by decide +kernel
theorem dX4_rests_23 : decode cX4_rests 23 = .ok (.ireturn, 1) := by decide +kernel
theorem dX4_rests_24 : decode cX4_rests 24 = .ok (.iload_n 1, 1) := by decide +kernel
theorem dX4_rests_25 : decode cX4_rests 25 = .ok (.iload_n 2, 1) := by decide +kernel
theorem dX4_rests_26 : decode cX4_rests 26 = .ok (.if_icmp .eq 12, 3) := by decide +kernel
theorem dX4_rests_29 : decode cX4_rests 29 = .ok (.iload_n 3, 1) := by decide +kernel
theorem dX4_rests_30 : decode cX4_rests 30 = .ok (.ifCond .eq 11, 3) := by decide +kernel
theorem dX4_rests_33 : decode cX4_rests 33 = .ok (.iload_n 3, 1) := by decide +kernel
theorem dX4_rests_34 : decode cX4_rests 34 = .ok (.iconst 1, 1) := by decide +kernel
theorem dX4_rests_35 : decode cX4_rests 35 = .ok (.if_icmp .eq 6, 3) := by decide +kernel
theorem dX4_rests_38 : decode cX4_rests 38 = .ok (.bipush (-2), 2) := by decide +kernel
theorem dX4_rests_40 : decode cX4_rests 40 = .ok (.ireturn, 1) := by decide +kernel
theorem dX4_rests_41 : decode cX4_rests 41 = .ok (.iconst 0, 1) := by decide +kernel
theorem dX4_rests_42 : decode cX4_rests 42 = .ok (.istore 4, 2) := by decide +kernel
theorem dX4_rests_44 : decode cX4_rests 44 = .ok (.bipush (-9), 2) := by decide +kernel
theorem dX4_rests_46 : decode cX4_rests 46 = .ok (.istore 5, 2) := by decide +kernel
theorem dX4_rests_48 : decode cX4_rests 48 = .ok (.iconst 0, 1) := by decide +kernel
theorem dX4_rests_49 : decode cX4_rests 49 = .ok (.istore 6, 2) := by decide +kernel
theorem dX4_rests_51 : decode cX4_rests 51 = .ok (.iload 6, 2) := by decide +kernel
theorem dX4_rests_53 : decode cX4_rests 53 = .ok (.iconst 3, 1) := by decide +kernel
theorem dX4_rests_54 : decode cX4_rests 54 = .ok (.if_icmp .gt 83, 3) := by decide +kernel
theorem dX4_rests_57 : decode cX4_rests 57 = .ok (.iconst 0, 1) := by decide +kernel
theorem dX4_rests_58 : decode cX4_rests 58 = .ok (.istore 7, 2) := by decide +kernel
theorem dX4_rests_60 : decode cX4_rests 60 = .ok (.iload 7, 2) := by decide +kernel
theorem dX4_rests_62 : decode cX4_rests 62 = .ok (.iconst 3, 1) := by decide +kernel
theorem dX4_rests_63 : decode cX4_rests 63 = .ok (.if_icmp .gt 68, 3) := by decide +kernel
theorem dX4_rests_66 : decode cX4_rests 66 = .ok (.aload_n 0, 1) := by decide +kernel
theorem dX4_rests_67 : decode cX4_rests 67 = .ok (.getfield 19, 3) := by decide +kernel
theorem dX4_rests_70 : decode cX4_rests 70 = .ok (.iload_n 1, 1) := by decide +kernel
theorem dX4_rests_71 : decode cX4_rests 71 = .ok (.invokevirtual 109, 3) := by decide +kernel
theorem dX4_rests_74 : decode cX4_rests 74 = .ok (.iload 6, 2) := by decide +kernel
theorem dX4_rests_76 : decode cX4_rests 76 = .ok (.iload 7, 2) := by decide +kernel
theorem dX4_rests_78 : decode cX4_rests 78 = .ok (.invokestatic 194, 3) := by decide +kernel
theorem dX4_rests_81 : decode cX4_rests 81 = .ok (.ifCond .eq 44, 3) := by decide +kernel
theorem dX4_rests_84 : decode cX4_rests 84 = .ok (.aload_n 0, 1) := by decide +kernel
theorem dX4_rests_85 : decode cX4_rests 85 = .ok (.getfield 19, 3) := by decide +kernel
theorem dX4_rests_88 : decode cX4_rests 88 = .ok (.iload_n 2, 1) := by decide +kernel
theorem dX4_rests_89 : decode cX4_rests 89 = .ok (.invokevirtual 109, 3) := by decide +kernel
theorem dX4_rests_92 : decode cX4_rests 92 = .ok (.iload 7, 2) := by decide +kernel
theorem dX4_rests_94 : decode cX4_rests 94 = .ok (.iload 6, 2) := by decide +kernel
theorem dX4_rests_96 : decode cX4_rests 96 = .ok (.invokestatic 194, 3) := by decide +kernel
theorem dX4_rests_99 : decode cX4_rests 99 = .ok (.ifCond .eq 26, 3) := by decide +kernel
theorem dX4_rests_102 : decode cX4_rests 102 = .ok (.iload 4, 2) := by decide +kernel
theorem dX4_rests_104 : decode cX4_rests 104 = .ok (.ifCond .ne 14, 3) := by decide +kernel
theorem dX4_rests_107 : decode cX4_rests 107 = .ok (.bipush 10, 2) := by decide +kernel
theorem dX4_rests_109 : decode cX4_rests 109 = .ok (.iload 6, 2) := by decide +kernel
theorem dX4_rests_111 : decode cX4_rests 111 = .ok (.imul, 1) := by decide +kernel
theorem dX4_rests_112 : decode cX4_rests 112 = .ok (.iload 7, 2) := by decide +kernel
theorem dX4_rests_114 : decode cX4_rests 114 = .ok (.iadd, 1) := by decide +kernel
theorem dX4_rests_115 : decode cX4_rests 115 = .ok (.goto 5, 3) := by decide +kernel
theorem dX4_rests_118 : decode cX4_rests 118 = .ok (.iload 5, 2) := by decide +kernel
theorem dX4_rests_120 : decode cX4_rests 120 = .ok (.istore 5, 2) := by decide +kernel
theorem dX4_rests_122 : decode cX4_rests 122 = .ok (.iinc 4 1, 3) := by decide +kernel
theorem dX4_rests_125 : decode cX4_rests 125 = .ok (.iinc 7 1, 3) := by decide +kernel
theorem dX4_rests_128 : decode cX4_rests 128 = .ok (.goto (-68), 3) := by decide +kernel
theorem dX4_rests_131 : decode cX4_rests 131 = .ok (.iinc 6 1, 3) := by decide +kernel
theorem dX4_rests_134 : decode cX4_rests 134 = .ok (.goto (-83), 3) := by decide +kernel
theorem dX4_rests_137 : decode cX4_rests 137 = .ok (.iload_n 3, 1) := by decide +kernel
theorem dX4_rests_138 : decode cX4_rests 138 = .ok (.ifCond .ne 8, 3) := by decide +kernel
theorem dX4_rests_141 : decode cX4_rests 141 = .ok (.iload 4, 2) := by decide +kernel
theorem dX4_rests_143 : decode cX4_rests 143 = .ok (.goto 5, 3) := by decide +kernel
theorem dX4_rests_146 : decode cX4_rests 146 = .ok (.iload 5, 2) := by decide +kernel
theorem dX4_rests_148 : decode cX4_rests 148 = .ok (.ireturn, 1) := by decide +kernel
set_option maxRecDepth 20000 in
theorem ggX4_chance_X1_hasLegger : GoodIn wsX4_chance wsX1_hasLegger := goodIn_r _ [6, 7, 54, 55, 56, 57, 58] (by decide +kernel) (by decide +kernel)
set_option maxRecDepth 20000 in
theorem gX4_chance_X1_hasLegger : GoodIn wsX4_chance (wsV RX4 86 RX1 yX1_hasLegger wsX1_hasLegger) := goodIn_app (goodIn_of _ (by decide +kernel)) ggX4_chance_X1_hasLegger
set_option maxRecDepth 20000 in
theorem ggX4_chance_X4_waysInTime : GoodIn wsX4_chance wsX4_waysInTime := goodIn_r _ [12, 1, 13, 14, 15, 16, 17, 18, 19, 20, 11, 21, 22, 23, 24, 25, 26, 27, 28, 29, 30, 31, 32, 33, 34, 35, 5, 36, 37, 38, 39, 40, 8, 9, 10, 44, 45, 46, 47, 48, 49, 50, 51, 52, 53, 54, 55, 56, 57, 58, 59, 60, 61, 62] (by decide +kernel) (by decide +kernel)
set_option maxRecDepth 20000 in
theorem gX4_chance_X4_waysInTime : GoodIn wsX4_chance (wsV RX4 198 RX4 yX4_waysInTime wsX4_waysInTime) := goodIn_app (goodIn_of _ (by decide +kernel)) ggX4_chance_X4_waysInTime
set_option maxRecDepth 20000 in
theorem ggX4_chance_X4_fraction : GoodIn wsX4_chance wsX4_fraction := goodIn_r _ [43] (by decide +kernel) (by decide +kernel)
set_option maxRecDepth 20000 in
theorem gX4_chance_X4_fraction : GoodIn wsX4_chance (va_wsS RX4 181 yX4_fraction wsX4_fraction) := goodIn_app (goodIn_of _ (by decide +kernel)) ggX4_chance_X4_fraction
theorem dX4_chance_0 : decode cX4_chance 0 = .ok (.aload_n 0, 1) := by decide +kernel
theorem dX4_chance_1 : decode cX4_chance 1 = .ok (.getfield 19, 3) := by decide +kernel
theorem dX4_chance_4 : decode cX4_chance 4 = .ok (.iload_n 1, 1) := by decide +kernel
theorem dX4_chance_5 : decode cX4_chance 5 = .ok (.invokevirtual 86, 3) := by decide +kernel
theorem dX4_chance_8 : decode cX4_chance 8 = .ok (.ifCond .ne 5, 3) := by decide +kernel
theorem dX4_chance_11 : decode cX4_chance 11 = .ok (.iconst (-1), 1) := by decide +kernel
theorem dX4_chance_12 : decode cX4_chance 12 = .ok (.ireturn, 1) := by decide +kernel
theorem dX4_chance_13 : decode cX4_chance 13 = .ok (.iload_n 2, 1) := by decide +kernel
theorem dX4_chance_14 : decode cX4_chance 14 = .ok (.ifCond .lt 19, 3) := by decide +kernel
theorem dX4_chance_17 : decode cX4_chance 17 = .ok (.iload_n 2, 1) := by decide +kernel
theorem dX4_chance_18 : decode cX4_chance 18 = .ok (.bipush 60, 2) := by decide +kernel
theorem dX4_chance_20 : decode cX4_chance 20 = .ok (.if_icmp .gt 13, 3) := by decide +kernel
theorem dX4_chance_23 : decode cX4_chance 23 = .ok (.iload_n 3, 1) := by decide +kernel
theorem dX4_chance_24 : decode cX4_chance 24 = .ok (.ifCond .lt 9, 3) := by decide +kernel
theorem dX4_chance_27 : decode cX4_chance 27 = .ok (.iload_n 3, 1) := by decide +kernel
theorem dX4_chance_28 : decode cX4_chance 28 = .ok (.bipush 10, 2) := by decide +kernel
theorem dX4_chance_30 : decode cX4_chance 30 = .ok (.if_icmp .le 6, 3) := by decide +kernel
theorem dX4_chance_33 : decode cX4_chance 33 = .ok (.bipush (-2), 2) := by decide +kernel
theorem dX4_chance_35 : decode cX4_chance 35 = .ok (.ireturn, 1) := by decide +kernel
theorem dX4_chance_36 : decode cX4_chance 36 = .ok (.iconst 1, 1) := by decide +kernel
theorem dX4_chance_37 : decode cX4_chance 37 = .ok (.istore 5, 2) := by decide +kernel
theorem dX4_chance_39 : decode cX4_chance 39 = .ok (.iconst 0, 1) := by decide +kernel
theorem dX4_chance_40 : decode cX4_chance 40 = .ok (.istore 6, 2) := by decide +kernel
theorem dX4_chance_42 : decode cX4_chance 42 = .ok (.iload 6, 2) := by decide +kernel
theorem dX4_chance_44 : decode cX4_chance 44 = .ok (.aload_n 0, 1) := by decide +kernel
theorem dX4_chance_45 : decode cX4_chance 45 = .ok (.getfield 19, 3) := by decide +kernel
theorem dX4_chance_48 : decode cX4_chance 48 = .ok (.getfield 71, 3) := by decide +kernel
theorem dX4_chance_51 : decode cX4_chance 51 = .ok (.if_icmp .ge 16, 3) := by decide +kernel
theorem dX4_chance_54 : decode cX4_chance 54 = .ok (.iload 5, 2) := by decide +kernel
theorem dX4_chance_56 : decode cX4_chance 56 = .ok (.bipush 10, 2) := by decide +kernel
theorem dX4_chance_58 : decode cX4_chance 58 = .ok (.imul, 1) := by decide +kernel
theorem dX4_chance_59 : decode cX4_chance 59 = .ok (.istore 5, 2) := by decide +kernel
theorem dX4_chance_61 : decode cX4_chance 61 = .ok (.iinc 6 1, 3) := by decide +kernel
theorem dX4_chance_64 : decode cX4_chance 64 = .ok (.goto (-22), 3) := by decide +kernel
theorem dX4_chance_67 : decode cX4_chance 67 = .ok (.aload_n 0, 1) := by decide +kernel
theorem dX4_chance_68 : decode cX4_chance 68 = .ok (.iload_n 1, 1) := by decide +kernel
theorem dX4_chance_69 : decode cX4_chance 69 = .ok (.iconst 0, 1) := by decide +kernel
theorem dX4_chance_70 : decode cX4_chance 70 = .ok (.iconst 0, 1) := by decide +kernel
theorem dX4_chance_71 : decode cX4_chance 71 = .ok (.iload_n 2, 1) := by decide +kernel
theorem dX4_chance_72 : decode cX4_chance 72 = .ok (.iload_n 3, 1) := by decide +kernel
theorem dX4_chance_73 : decode cX4_chance 73 = .ok (.invokevirtual 198, 3) := by decide +kernel
theorem dX4_chance_76 : decode cX4_chance 76 = .ok (.iload 5, 2) := by decide +kernel
theorem dX4_chance_78 : decode cX4_chance 78 = .ok (.iload 4, 2) := by decide +kernel
theorem dX4_chance_80 : decode cX4_chance 80 = .ok (.invokestatic 181, 3) := by decide +kernel
theorem dX4_chance_83 : decode cX4_chance 83 = .ok (.ireturn, 1) := by decide +kernel
theorem dX4_seed_0 : decode cX4_seed 0 = .ok (.aload_n 0, 1) := by decide +kernel
theorem dX4_seed_1 : decode cX4_seed 1 = .ok (.getfield 201, 3) := by decide +kernel
theorem dX4_seed_4 : decode cX4_seed 4 = .ok (.lstore_n 3, 1) := by decide +kernel
theorem dX4_seed_5 : decode cX4_seed 5 = .ok (.aload_n 0, 1) := by decide +kernel
theorem dX4_seed_6 : decode cX4_seed 6 = .ok (.lload_n 1, 1) := by decide +kernel
theorem dX4_seed_7 : decode cX4_seed 7 = .ok (.putfield 201, 3) := by decide +kernel
theorem dX4_seed_10 : decode cX4_seed 10 = .ok (.lload_n 3, 1) := by decide +kernel
theorem dX4_seed_11 : decode cX4_seed 11 = .ok (.lreturn, 1) := by decide +kernel
set_option maxRecDepth 20000 in
theorem ggX4_days_X2_storeIn : GoodIn wsX4_days wsX2_storeIn := goodIn_r _ [12, 13, 14, 15, 16, 114, 115, 116, 117] (by decide +kernel) (by decide +kernel)
set_option maxRecDepth 20000 in
theorem gX4_days_X2_storeIn : GoodIn wsX4_days (wsV RX4 205 RX2 yX2_storeIn wsX2_storeIn) := goodIn_app (goodIn_of _ (by decide +kernel)) ggX4_days_X2_storeIn
set_option maxRecDepth 20000 in
theorem ggX4_days_X4_isPlace : GoodIn wsX4_days wsX4_isPlace := goodIn_r _ [20] (by decide +kernel) (by decide +kernel)
set_option maxRecDepth 20000 in
theorem gX4_days_X4_isPlace : GoodIn wsX4_days (va_wsS RX4 89 yX4_isPlace wsX4_isPlace) := goodIn_app (goodIn_of _ (by decide +kernel)) ggX4_days_X4_isPlace
set_option maxRecDepth 20000 in
theorem ggX4_days_X4_legAll : GoodIn wsX4_days wsX4_legAll := goodIn_r _ [24, 1, 25, 26, 7, 27, 28, 29, 19, 30, 31, 32, 33, 34, 35, 36, 37, 38, 39, 40, 41, 42, 43, 44, 45, 46, 47, 48, 49, 50, 51, 52, 53, 54, 55, 56, 57, 58, 11, 59, 13, 60, 61, 62, 63, 64, 65, 66, 67, 68, 69, 70, 71, 72, 73, 74, 75, 76, 77, 78, 79, 80, 81, 82, 83, 84, 85, 86, 87, 88, 89, 90, 104, 105, 106, 107, 108, 109, 110, 111, 112, 113, 114, 115, 116, 117, 118, 119, 120, 121, 122] (by decide +kernel) (by decide +kernel)
set_option maxRecDepth 20000 in
theorem gX4_days_X4_legAll : GoodIn wsX4_days (wsV RX4 215 RX4 yX4_legAll wsX4_legAll) := goodIn_app (goodIn_of _ (by decide +kernel)) ggX4_days_X4_legAll
set_option maxRecDepth 20000 in
theorem ggX4_days_X1_hasLegger : GoodIn wsX4_days wsX1_hasLegger := goodIn_r _ [94, 95, 118, 119, 120, 121, 122] (by decide +kernel) (by decide +kernel)
set_option maxRecDepth 20000 in
theorem gX4_days_X1_hasLegger : GoodIn wsX4_days (wsV RX4 86 RX1 yX1_hasLegger wsX1_hasLegger) := goodIn_app (goodIn_of _ (by decide +kernel)) ggX4_days_X1_hasLegger
set_option maxRecDepth 20000 in
theorem ggX4_days_X2_cover : GoodIn wsX4_days wsX2_cover := goodIn_r _ [99, 13, 114, 115, 116, 117] (by decide +kernel) (by decide +kernel)
set_option maxRecDepth 20000 in
theorem gX4_days_X2_cover : GoodIn wsX4_days (wsV RX4 134 RX2 yX2_cover wsX2_cover) := goodIn_app (goodIn_of _ (by decide +kernel)) ggX4_days_X2_cover
set_option maxRecDepth 20000 in
theorem ggX4_days_X2_fetchFrom : GoodIn wsX4_days wsX2_fetchFrom := goodIn_r _ [103, 13, 14, 15, 16, 114, 115, 116, 117] (by decide +kernel) (by decide +kernel)
set_option maxRecDepth 20000 in
theorem gX4_days_X2_fetchFrom : GoodIn wsX4_days (wsV RX4 218 RX2 yX2_fetchFrom wsX2_fetchFrom) := goodIn_app (goodIn_of _ (by decide +kernel)) ggX4_days_X2_fetchFrom
theorem dX4_days_0 : decode cX4_days 0 = .ok (.iload_n 1, 1) := by decide +kernel
theorem dX4_days_1 : decode cX4_days 1 = .ok (.iconst 1, 1) := by decide +kernel
theorem dX4_days_2 : decode cX4_days 2 = .ok (.if_icmp .lt 9, 3) := by decide +kernel
theorem dX4_days_5 : decode cX4_days 5 = .ok (.iload_n 1, 1) := by decide +kernel
theorem dX4_days_6 : decode cX4_days 6 = .ok (.bipush 30, 2) := by decide +kernel
theorem dX4_days_8 : decode cX4_days 8 = .ok (.if_icmp .le 6, 3) := by decide +kernel
theorem dX4_days_11 : decode cX4_days 11 = .ok (.bipush (-2), 2) := by decide +kernel
theorem dX4_days_13 : decode cX4_days 13 = .ok (.ireturn, 1) := by decide +kernel
theorem dX4_days_14 : decode cX4_days 14 = .ok (.aload_n 0, 1) := by decide +kernel
theorem dX4_days_15 : decode cX4_days 15 = .ok (.getfield 26, 3) := by decide +kernel
theorem dX4_days_18 : decode cX4_days 18 = .ok (.aload_n 0, 1) := by decide +kernel
theorem dX4_days_19 : decode cX4_days 19 = .ok (.getfield 41, 3) := by decide +kernel
theorem dX4_days_22 : decode cX4_days 22 = .ok (.iconst 0, 1) := by decide +kernel
theorem dX4_days_23 : decode cX4_days 23 = .ok (.invokevirtual 205, 3) := by decide +kernel
theorem dX4_days_26 : decode cX4_days 26 = .ok (.aload_n 0, 1) := by decide +kernel
theorem dX4_days_27 : decode cX4_days 27 = .ok (.getfield 26, 3) := by decide +kernel
theorem dX4_days_30 : decode cX4_days 30 = .ok (.getfield 77, 3) := by decide +kernel
theorem dX4_days_33 : decode cX4_days 33 = .ok (.istore_n 2, 1) := by decide +kernel
theorem dX4_days_34 : decode cX4_days 34 = .ok (.iconst 0, 1) := by decide +kernel
theorem dX4_days_35 : decode cX4_days 35 = .ok (.istore_n 3, 1) := by decide +kernel
theorem dX4_days_36 : decode cX4_days 36 = .ok (.iload_n 3, 1) := by decide +kernel
theorem dX4_days_37 : decode cX4_days 37 = .ok (.iload_n 1, 1) := by decide +kernel
theorem dX4_days_38 : decode cX4_days 38 = .ok (.if_icmp .ge 90, 3) := by decide +kernel
theorem dX4_days_41 : decode cX4_days 41 = .ok (.aload_n 0, 1) := by decide +kernel
theorem dX4_days_42 : decode cX4_days 42 = .ok (.aload_n 0, 1) := by decide +kernel
theorem dX4_days_43 : decode cX4_days 43 = .ok (.getfield 201, 3) := by decide +kernel
theorem dX4_days_46 : decode cX4_days 46 = .ok (.ldc2_w 209, 3) := by decide +kernel
theorem dX4_days_49 : decode cX4_days 49 = .ok (.lmul, 1) := by decide +kernel
theorem dX4_days_50 : decode cX4_days 50 = .ok (.ldc2_w 211, 3) := by decide +kernel
theorem dX4_days_53 : decode cX4_days 53 = .ok (.ladd, 1) := by decide +kernel
theorem dX4_days_54 : decode cX4_days 54 = .ok (.putfield 201, 3) := by decide +kernel
theorem dX4_days_57 : decode cX4_days 57 = .ok (.aload_n 0, 1) := by decide +kernel
theorem dX4_days_58 : decode cX4_days 58 = .ok (.getfield 201, 3) := by decide +kernel
theorem dX4_days_61 : decode cX4_days 61 = .ok (.bipush 33, 2) := by decide +kernel
theorem dX4_days_63 : decode cX4_days 63 = .ok (.lushr, 1) := by decide +kernel
theorem dX4_days_64 : decode cX4_days 64 = .ok (.ldc2_w 213, 3) := by decide +kernel
theorem dX4_days_67 : decode cX4_days 67 = .ok (.lrem, 1) := by decide +kernel
theorem dX4_days_68 : decode cX4_days 68 = .ok (.l2i, 1) := by decide +kernel
theorem dX4_days_69 : decode cX4_days 69 = .ok (.istore 4, 2) := by decide +kernel
theorem dX4_days_71 : decode cX4_days 71 = .ok (.iload 4, 2) := by decide +kernel
theorem dX4_days_73 : decode cX4_days 73 = .ok (.iconst 4, 1) := by decide +kernel
theorem dX4_days_74 : decode cX4_days 74 = .ok (.idiv, 1) := by decide +kernel
theorem dX4_days_75 : decode cX4_days 75 = .ok (.istore 5, 2) := by decide +kernel
theorem dX4_days_77 : decode cX4_days 77 = .ok (.iload 4, 2) := by decide +kernel
theorem dX4_days_79 : decode cX4_days 79 = .ok (.iconst 4, 1) := by decide +kernel
theorem dX4_days_80 : decode cX4_days 80 = .ok (.irem, 1) := by decide +kernel
theorem dX4_days_81 : decode cX4_days 81 = .ok (.istore 6, 2) := by decide +kernel
theorem dX4_days_83 : decode cX4_days 83 = .ok (.iload 5, 2) := by decide +kernel
theorem dX4_days_85 : decode cX4_days 85 = .ok (.invokestatic 89, 3) := by decide +kernel
theorem dX4_days_88 : decode cX4_days 88 = .ok (.ifCond .ne 10, 3) := by decide +kernel
theorem dX4_days_91 : decode cX4_days 91 = .ok (.aload_n 0, 1) := by decide +kernel
theorem dX4_days_92 : decode cX4_days 92 = .ok (.invokevirtual 215, 3) := by decide +kernel
theorem dX4_days_95 : decode cX4_days 95 = .ok (.goto 27, 3) := by decide +kernel
theorem dX4_days_98 : decode cX4_days 98 = .ok (.aload_n 0, 1) := by decide +kernel
theorem dX4_days_99 : decode cX4_days 99 = .ok (.getfield 19, 3) := by decide +kernel
theorem dX4_days_102 : decode cX4_days 102 = .ok (.iload 6, 2) := by decide +kernel
theorem dX4_days_104 : decode cX4_days 104 = .ok (.invokevirtual 86, 3) := by decide +kernel
theorem dX4_days_107 : decode cX4_days 107 = .ok (.ifCond .eq 15, 3) := by decide +kernel
theorem dX4_days_110 : decode cX4_days 110 = .ok (.aload_n 0, 1) := by decide +kernel
theorem dX4_days_111 : decode cX4_days 111 = .ok (.getfield 26, 3) := by decide +kernel
theorem dX4_days_114 : decode cX4_days 114 = .ok (.iload 6, 2) := by decide +kernel
theorem dX4_days_116 : decode cX4_days 116 = .ok (.iload 5, 2) := by decide +kernel
theorem dX4_days_118 : decode cX4_days 118 = .ok (.iconst 2, 1) := by decide +kernel
theorem dX4_days_119 : decode cX4_days 119 = .ok (.invokevirtual 134, 3) := by decide +kernel
theorem dX4_days_122 : decode cX4_days 122 = .ok (.iinc 3 1, 3) := by decide +kernel
theorem dX4_days_125 : decode cX4_days 125 = .ok (.goto (-89), 3) := by decide +kernel
theorem dX4_days_128 : decode cX4_days 128 = .ok (.aload_n 0, 1) := by decide +kernel
theorem dX4_days_129 : decode cX4_days 129 = .ok (.getfield 26, 3) := by decide +kernel
theorem dX4_days_132 : decode cX4_days 132 = .ok (.getfield 77, 3) := by decide +kernel
theorem dX4_days_135 : decode cX4_days 135 = .ok (.iload_n 2, 1) := by decide +kernel
theorem dX4_days_136 : decode cX4_days 136 = .ok (.isub, 1) := by decide +kernel
theorem dX4_days_137 : decode cX4_days 137 = .ok (.istore_n 3, 1) := by decide +kernel
theorem dX4_days_138 : decode cX4_days 138 = .ok (.aload_n 0, 1) := by decide +kernel
theorem dX4_days_139 : decode cX4_days 139 = .ok (.getfield 26, 3) := by decide +kernel
theorem dX4_days_142 : decode cX4_days 142 = .ok (.aload_n 0, 1) := by decide +kernel
theorem dX4_days_143 : decode cX4_days 143 = .ok (.getfield 41, 3) := by decide +kernel
theorem dX4_days_146 : decode cX4_days 146 = .ok (.iconst 0, 1) := by decide +kernel
theorem dX4_days_147 : decode cX4_days 147 = .ok (.invokevirtual 218, 3) := by decide +kernel
theorem dX4_days_150 : decode cX4_days 150 = .ok (.iload_n 3, 1) := by decide +kernel
theorem dX4_days_151 : decode cX4_days 151 = .ok (.ireturn, 1) := by decide +kernel
set_option maxRecDepth 20000 in
theorem ggX4_keep_X2_storeIn : GoodIn wsX4_keep wsX2_storeIn := goodIn_r _ [8, 9, 10, 11, 12, 23, 24, 25, 26] (by decide +kernel) (by decide +kernel)
set_option maxRecDepth 20000 in
theorem gX4_keep_X2_storeIn : GoodIn wsX4_keep (wsV RX4 205 RX2 yX2_storeIn wsX2_storeIn) := goodIn_app (goodIn_of _ (by decide +kernel)) ggX4_keep_X2_storeIn
theorem dX4_keep_0 : decode cX4_keep 0 = .ok (.iload_n 1, 1) := by decide +kernel
theorem dX4_keep_1 : decode cX4_keep 1 = .ok (.ifCond .lt 8, 3) := by decide +kernel
theorem dX4_keep_4 : decode cX4_keep 4 = .ok (.iload_n 1, 1) := by decide +kernel
theorem dX4_keep_5 : decode cX4_keep 5 = .ok (.iconst 2, 1) := by decide +kernel
theorem dX4_keep_6 : decode cX4_keep 6 = .ok (.if_icmp .lt 5, 3) := by decide +kernel
theorem dX4_keep_9 : decode cX4_keep 9 = .ok (.iconst (-1), 1) := by decide +kernel
theorem dX4_keep_10 : decode cX4_keep 10 = .ok (.ireturn, 1) := by decide +kernel
theorem dX4_keep_11 : decode cX4_keep 11 = .ok (.aload_n 0, 1) := by decide +kernel
theorem dX4_keep_12 : decode cX4_keep 12 = .ok (.getfield 26, 3) := by decide +kernel
theorem dX4_keep_15 : decode cX4_keep 15 = .ok (.aload_n 0, 1) := by decide +kernel
theorem dX4_keep_16 : decode cX4_keep 16 = .ok (.getfield 37, 3) := by decide +kernel
theorem dX4_keep_19 : decode cX4_keep 19 = .ok (.iload_n 1, 1) := by decide +kernel
theorem dX4_keep_20 : decode cX4_keep 20 = .ok (.invokevirtual 205, 3) := by decide +kernel
theorem dX4_keep_23 : decode cX4_keep 23 = .ok (.aload_n 0, 1) := by decide +kernel
theorem dX4_keep_24 : decode cX4_keep 24 = .ok (.dup, 1) := by decide +kernel
theorem dX4_keep_25 : decode cX4_keep 25 = .ok (.getfield 62, 3) := by decide +kernel
theorem dX4_keep_28 : decode cX4_keep 28 = .ok (.iconst 1, 1) := by decide +kernel
theorem dX4_keep_29 : decode cX4_keep 29 = .ok (.iload_n 1, 1) := by decide +kernel
theorem dX4_keep_30 : decode cX4_keep 30 = .ok (.ishl, 1) := by decide +kernel
theorem dX4_keep_31 : decode cX4_keep 31 = .ok (.ior, 1) := by decide +kernel
theorem dX4_keep_32 : decode cX4_keep 32 = .ok (.putfield 62, 3) := by decide +kernel
theorem dX4_keep_35 : decode cX4_keep 35 = .ok (.aload_n 0, 1) := by decide +kernel
theorem dX4_keep_36 : decode cX4_keep 36 = .ok (.getfield 26, 3) := by decide +kernel
theorem dX4_keep_39 : decode cX4_keep 39 = .ok (.getfield 77, 3) := by decide +kernel
theorem dX4_keep_42 : decode cX4_keep 42 = .ok (.ireturn, 1) := by decide +kernel
set_option maxRecDepth 20000 in
theorem ggX4_again_X4_isIn : GoodIn wsX4_again wsX4_isIn := goodIn_r _ [8] (by decide +kernel) (by decide +kernel)
set_option maxRecDepth 20000 in
theorem gX4_again_X4_isIn : GoodIn wsX4_again (va_wsS RX4 116 yX4_isIn wsX4_isIn) := goodIn_app (goodIn_of _ (by decide +kernel)) ggX4_again_X4_isIn
set_option maxRecDepth 20000 in
theorem ggX4_again_X2_fetchFrom : GoodIn wsX4_again wsX2_fetchFrom := goodIn_r _ [13, 14, 15, 16, 17, 34, 35, 36, 37] (by decide +kernel) (by decide +kernel)
set_option maxRecDepth 20000 in
theorem gX4_again_X2_fetchFrom : GoodIn wsX4_again (wsV RX4 218 RX2 yX2_fetchFrom wsX2_fetchFrom) := goodIn_app (goodIn_of _ (by decide +kernel)) ggX4_again_X2_fetchFrom
set_option maxRecDepth 20000 in
theorem ggX4_again_X0_forgetAll : GoodIn wsX4_again wsX0_forgetAll := goodIn_r _ [22, 23, 38, 39, 40] (by decide +kernel) (by decide +kernel)
set_option maxRecDepth 20000 in
theorem gX4_again_X0_forgetAll : GoodIn wsX4_again (wsV RX4 59 RX0 yX0_forgetAll wsX0_forgetAll) := goodIn_app (goodIn_of _ (by decide +kernel)) ggX4_again_X0_forgetAll
theorem dX4_again_0 : decode cX4_again 0 = .ok (.iload_n 1, 1) := by decide +kernel
theorem dX4_again_1 : decode cX4_again 1 = .ok (.ifCond .lt 8, 3) := by decide +kernel
theorem dX4_again_4 : decode cX4_again 4 = .ok (.iload_n 1, 1) := by decide +kernel
theorem dX4_again_5 : decode cX4_again 5 = .ok (.iconst 2, 1) := by decide +kernel
theorem dX4_again_6 : decode cX4_again 6 = .ok (.if_icmp .lt 5, 3) := by decide +kernel
theorem dX4_again_9 : decode cX4_again 9 = .ok (.iconst (-1), 1) := by decide +kernel
theorem dX4_again_10 : decode cX4_again 10 = .ok (.ireturn, 1) := by decide +kernel
theorem dX4_again_11 : decode cX4_again 11 = .ok (.aload_n 0, 1) := by decide +kernel
theorem dX4_again_12 : decode cX4_again 12 = .ok (.getfield 62, 3) := by decide +kernel
theorem dX4_again_15 : decode cX4_again 15 = .ok (.iload_n 1, 1) := by decide +kernel
theorem dX4_again_16 : decode cX4_again 16 = .ok (.invokestatic 116, 3) := by decide +kernel
theorem dX4_again_19 : decode cX4_again 19 = .ok (.ifCond .ne 6, 3) := by decide +kernel
theorem dX4_again_22 : decode cX4_again 22 = .ok (.bipush (-3), 2) := by decide +kernel
theorem dX4_again_24 : decode cX4_again 24 = .ok (.ireturn, 1) := by decide +kernel
theorem dX4_again_25 : decode cX4_again 25 = .ok (.aload_n 0, 1) := by decide +kernel
theorem dX4_again_26 : decode cX4_again 26 = .ok (.getfield 26, 3) := by decide +kernel
theorem dX4_again_29 : decode cX4_again 29 = .ok (.aload_n 0, 1) := by decide +kernel
theorem dX4_again_30 : decode cX4_again 30 = .ok (.getfield 37, 3) := by decide +kernel
theorem dX4_again_33 : decode cX4_again 33 = .ok (.iload_n 1, 1) := by decide +kernel
theorem dX4_again_34 : decode cX4_again 34 = .ok (.invokevirtual 218, 3) := by decide +kernel
theorem dX4_again_37 : decode cX4_again 37 = .ok (.aload_n 0, 1) := by decide +kernel
theorem dX4_again_38 : decode cX4_again 38 = .ok (.getfield 33, 3) := by decide +kernel
theorem dX4_again_41 : decode cX4_again 41 = .ok (.invokevirtual 59, 3) := by decide +kernel
theorem dX4_again_44 : decode cX4_again 44 = .ok (.aload_n 0, 1) := by decide +kernel
theorem dX4_again_45 : decode cX4_again 45 = .ok (.getfield 26, 3) := by decide +kernel
theorem dX4_again_48 : decode cX4_again 48 = .ok (.getfield 77, 3) := by decide +kernel
theorem dX4_again_51 : decode cX4_again 51 = .ok (.ireturn, 1) := by decide +kernel
set_option maxRecDepth 20000 in
theorem ggX4_pairRefusal_X1_hasBoat : GoodIn wsX4_pairRefusal wsX1_hasBoat := goodIn_r _ [6, 7, 23, 24, 25, 26, 27] (by decide +kernel) (by decide +kernel)
set_option maxRecDepth 20000 in
theorem gX4_pairRefusal_X1_hasBoat : GoodIn wsX4_pairRefusal (wsV RX4 106 RX1 yX1_hasBoat wsX1_hasBoat) := goodIn_app (goodIn_of _ (by decide +kernel)) ggX4_pairRefusal_X1_hasBoat
set_option maxRecDepth 20000 in
theorem ggX4_pairRefusal_X1_hasLegger : GoodIn wsX4_pairRefusal wsX1_hasLegger := goodIn_r _ [11, 12, 23, 24, 25, 26, 27] (by decide +kernel) (by decide +kernel)
set_option maxRecDepth 20000 in
theorem gX4_pairRefusal_X1_hasLegger : GoodIn wsX4_pairRefusal (wsV RX4 86 RX1 yX1_hasLegger wsX1_hasLegger) := goodIn_app (goodIn_of _ (by decide +kernel)) ggX4_pairRefusal_X1_hasLegger
theorem dX4_pairRefusal_0 : decode cX4_pairRefusal 0 = .ok (.aload_n 0, 1) := by decide +kernel
theorem dX4_pairRefusal_1 : decode cX4_pairRefusal 1 = .ok (.getfield 19, 3) := by decide +kernel
theorem dX4_pairRefusal_4 : decode cX4_pairRefusal 4 = .ok (.iload_n 1, 1) := by decide +kernel
theorem dX4_pairRefusal_5 : decode cX4_pairRefusal 5 = .ok (.invokevirtual 106, 3) := by decide +kernel
theorem dX4_pairRefusal_8 : decode cX4_pairRefusal 8 = .ok (.ifCond .eq 25, 3) := by decide +kernel
theorem dX4_pairRefusal_11 : decode cX4_pairRefusal 11 = .ok (.aload_n 0, 1) := by decide +kernel
theorem dX4_pairRefusal_12 : decode cX4_pairRefusal 12 = .ok (.getfield 19, 3) := by decide +kernel
theorem dX4_pairRefusal_15 : decode cX4_pairRefusal 15 = .ok (.iload_n 2, 1) := by decide +kernel
theorem dX4_pairRefusal_16 : decode cX4_pairRefusal 16 = .ok (.invokevirtual 86, 3) := by decide +kernel
theorem dX4_pairRefusal_19 : decode cX4_pairRefusal 19 = .ok (.ifCond .eq 14, 3) := by decide +kernel
theorem dX4_pairRefusal_22 : decode cX4_pairRefusal 22 = .ok (.aload_n 0, 1) := by decide +kernel
theorem dX4_pairRefusal_23 : decode cX4_pairRefusal 23 = .ok (.getfield 19, 3) := by decide +kernel
theorem dX4_pairRefusal_26 : decode cX4_pairRefusal 26 = .ok (.iload_n 3, 1) := by decide +kernel
theorem dX4_pairRefusal_27 : decode cX4_pairRefusal 27 = .ok (.invokevirtual 86, 3) := by decide +kernel
theorem dX4_pairRefusal_30 : decode cX4_pairRefusal 30 = .ok (.ifCond .ne 5, 3) := by decide +kernel
theorem dX4_pairRefusal_33 : decode cX4_pairRefusal 33 = .ok (.iconst (-1), 1) := by decide +kernel
theorem dX4_pairRefusal_34 : decode cX4_pairRefusal 34 = .ok (.ireturn, 1) := by decide +kernel
theorem dX4_pairRefusal_35 : decode cX4_pairRefusal 35 = .ok (.iload_n 2, 1) := by decide +kernel
theorem dX4_pairRefusal_36 : decode cX4_pairRefusal 36 = .ok (.iload_n 3, 1) := by decide +kernel
theorem dX4_pairRefusal_37 : decode cX4_pairRefusal 37 = .ok (.if_icmp .ne 8, 3) := by decide +kernel
theorem dX4_pairRefusal_40 : decode cX4_pairRefusal 40 = .ok (.bipush (-2), 2) := by decide +kernel
theorem dX4_pairRefusal_42 : decode cX4_pairRefusal 42 = .ok (.goto 4, 3) := by decide +kernel
theorem dX4_pairRefusal_45 : decode cX4_pairRefusal 45 = .ok (.iconst 0, 1) := by decide +kernel
theorem dX4_pairRefusal_46 : decode cX4_pairRefusal 46 = .ok (.ireturn, 1) := by decide +kernel
set_option maxRecDepth 20000 in
theorem ggX4_placeRefusal_X1_hasLegger : GoodIn wsX4_placeRefusal wsX1_hasLegger := goodIn_r _ [6, 7, 22, 23, 24, 25, 26] (by decide +kernel) (by decide +kernel)
set_option maxRecDepth 20000 in
theorem gX4_placeRefusal_X1_hasLegger : GoodIn wsX4_placeRefusal (wsV RX4 86 RX1 yX1_hasLegger wsX1_hasLegger) := goodIn_app (goodIn_of _ (by decide +kernel)) ggX4_placeRefusal_X1_hasLegger
set_option maxRecDepth 20000 in
theorem ggX4_placeRefusal_X4_isPlace : GoodIn wsX4_placeRefusal wsX4_isPlace := goodIn_r _ [11] (by decide +kernel) (by decide +kernel)
set_option maxRecDepth 20000 in
theorem gX4_placeRefusal_X4_isPlace : GoodIn wsX4_placeRefusal (va_wsS RX4 89 yX4_isPlace wsX4_isPlace) := goodIn_app (goodIn_of _ (by decide +kernel)) ggX4_placeRefusal_X4_isPlace
theorem dX4_placeRefusal_0 : decode cX4_placeRefusal 0 = .ok (.aload_n 0, 1) := by decide +kernel
theorem dX4_placeRefusal_1 : decode cX4_placeRefusal 1 = .ok (.getfield 19, 3) := by decide +kernel
theorem dX4_placeRefusal_4 : decode cX4_placeRefusal 4 = .ok (.iload_n 1, 1) := by decide +kernel
theorem dX4_placeRefusal_5 : decode cX4_placeRefusal 5 = .ok (.invokevirtual 86, 3) := by decide +kernel
theorem dX4_placeRefusal_8 : decode cX4_placeRefusal 8 = .ok (.ifCond .ne 5, 3) := by decide +kernel
theorem dX4_placeRefusal_11 : decode cX4_placeRefusal 11 = .ok (.iconst (-1), 1) := by decide +kernel
theorem dX4_placeRefusal_12 : decode cX4_placeRefusal 12 = .ok (.ireturn, 1) := by decide +kernel
theorem dX4_placeRefusal_13 : decode cX4_placeRefusal 13 = .ok (.iload_n 2, 1) := by decide +kernel
theorem dX4_placeRefusal_14 : decode cX4_placeRefusal 14 = .ok (.invokestatic 89, 3) := by decide +kernel
theorem dX4_placeRefusal_17 : decode cX4_placeRefusal 17 = .ok (.ifCond .eq 7, 3) := by decide +kernel
theorem dX4_placeRefusal_20 : decode cX4_placeRefusal 20 = .ok (.iconst 0, 1) := by decide +kernel
theorem dX4_placeRefusal_21 : decode cX4_placeRefusal 21 = .ok (.goto 5, 3) := by decide +kernel
theorem dX4_placeRefusal_24 : decode cX4_placeRefusal 24 = .ok (.bipush (-2), 2) := by decide +kernel
theorem dX4_placeRefusal_26 : decode cX4_placeRefusal 26 = .ok (.ireturn, 1) := by decide +kernel
theorem dX4_isPlace_0 : decode cX4_isPlace 0 = .ok (.iload_n 0, 1) := by decide +kernel
theorem dX4_isPlace_1 : decode cX4_isPlace 1 = .ok (.ifCond .lt 12, 3) := by decide +kernel
theorem dX4_isPlace_4 : decode cX4_isPlace 4 = .ok (.iload_n 0, 1) := by decide +kernel
theorem dX4_isPlace_5 : decode cX4_isPlace 5 = .ok (.iconst 4, 1) := by decide +kernel
theorem dX4_isPlace_6 : decode cX4_isPlace 6 = .ok (.if_icmp .ge 7, 3) := by decide +kernel
theorem dX4_isPlace_9 : decode cX4_isPlace 9 = .ok (.iconst 1, 1) := by decide +kernel
theorem dX4_isPlace_10 : decode cX4_isPlace 10 = .ok (.goto 4, 3) := by decide +kernel
theorem dX4_isPlace_13 : decode cX4_isPlace 13 = .ok (.iconst 0, 1) := by decide +kernel
theorem dX4_isPlace_14 : decode cX4_isPlace 14 = .ok (.ireturn, 1) := by decide +kernel
theorem dX4_isIn_0 : decode cX4_isIn 0 = .ok (.iload_n 0, 1) := by decide +kernel
theorem dX4_isIn_1 : decode cX4_isIn 1 = .ok (.iload_n 1, 1) := by decide +kernel
theorem dX4_isIn_2 : decode cX4_isIn 2 = .ok (.iushr, 1) := by decide +kernel
theorem dX4_isIn_3 : decode cX4_isIn 3 = .ok (.iconst 1, 1) := by decide +kernel
theorem dX4_isIn_4 : decode cX4_isIn 4 = .ok (.iand, 1) := by decide +kernel
theorem dX4_isIn_5 : decode cX4_isIn 5 = .ok (.ifCond .eq 7, 3) := by decide +kernel
theorem dX4_isIn_8 : decode cX4_isIn 8 = .ok (.iconst 1, 1) := by decide +kernel
theorem dX4_isIn_9 : decode cX4_isIn 9 = .ok (.goto 4, 3) := by decide +kernel
theorem dX4_isIn_12 : decode cX4_isIn 12 = .ok (.iconst 0, 1) := by decide +kernel
theorem dX4_isIn_13 : decode cX4_isIn 13 = .ok (.ireturn, 1) := by decide +kernel
theorem dX4_groundIn_0 : decode cX4_groundIn 0 = .ok (.iload_n 0, 1) := by decide +kernel
theorem dX4_groundIn_1 : decode cX4_groundIn 1 = .ok (.iconst 2, 1) := by decide +kernel
theorem dX4_groundIn_2 : decode cX4_groundIn 2 = .ok (.iload_n 1, 1) := by decide +kernel
theorem dX4_groundIn_3 : decode cX4_groundIn 3 = .ok (.imul, 1) := by decide +kernel
theorem dX4_groundIn_4 : decode cX4_groundIn 4 = .ok (.iushr, 1) := by decide +kernel
theorem dX4_groundIn_5 : decode cX4_groundIn 5 = .ok (.iconst 3, 1) := by decide +kernel
theorem dX4_groundIn_6 : decode cX4_groundIn 6 = .ok (.iand, 1) := by decide +kernel
theorem dX4_groundIn_7 : decode cX4_groundIn 7 = .ok (.ireturn, 1) := by decide +kernel
theorem dX4_timesTired_0 : decode cX4_timesTired 0 = .ok (.iload_n 0, 1) := by decide +kernel
theorem dX4_timesTired_1 : decode cX4_timesTired 1 = .ok (.iconst 2, 1) := by decide +kernel
theorem dX4_timesTired_2 : decode cX4_timesTired 2 = .ok (.iload_n 1, 1) := by decide +kernel
theorem dX4_timesTired_3 : decode cX4_timesTired 3 = .ok (.imul, 1) := by decide +kernel
theorem dX4_timesTired_4 : decode cX4_timesTired 4 = .ok (.iushr, 1) := by decide +kernel
theorem dX4_timesTired_5 : decode cX4_timesTired 5 = .ok (.iconst 3, 1) := by decide +kernel
theorem dX4_timesTired_6 : decode cX4_timesTired 6 = .ok (.iand, 1) := by decide +kernel
theorem dX4_timesTired_7 : decode cX4_timesTired 7 = .ok (.ireturn, 1) := by decide +kernel
set_option maxRecDepth 20000 in
theorem ggX4_tireOne_X4_timesTired : GoodIn wsX4_tireOne wsX4_timesTired := goodIn_r _ [4] (by decide +kernel) (by decide +kernel)
set_option maxRecDepth 20000 in
theorem gX4_tireOne_X4_timesTired : GoodIn wsX4_tireOne (va_wsS RX4 103 yX4_timesTired wsX4_timesTired) := goodIn_app (goodIn_of _ (by decide +kernel)) ggX4_tireOne_X4_timesTired
theorem dX4_tireOne_0 : decode cX4_tireOne 0 = .ok (.iload_n 0, 1) := by decide +kernel
theorem dX4_tireOne_1 : decode cX4_tireOne 1 = .ok (.iload_n 1, 1) := by decide +kernel
theorem dX4_tireOne_2 : decode cX4_tireOne 2 = .ok (.invokestatic 103, 3) := by decide +kernel
theorem dX4_tireOne_5 : decode cX4_tireOne 5 = .ok (.iconst 3, 1) := by decide +kernel
theorem dX4_tireOne_6 : decode cX4_tireOne 6 = .ok (.if_icmp .lt 7, 3) := by decide +kernel
theorem dX4_tireOne_9 : decode cX4_tireOne 9 = .ok (.iload_n 0, 1) := by decide +kernel
theorem dX4_tireOne_10 : decode cX4_tireOne 10 = .ok (.goto 10, 3) := by decide +kernel
theorem dX4_tireOne_13 : decode cX4_tireOne 13 = .ok (.iload_n 0, 1) := by decide +kernel
theorem dX4_tireOne_14 : decode cX4_tireOne 14 = .ok (.iconst 1, 1) := by decide +kernel
theorem dX4_tireOne_15 : decode cX4_tireOne 15 = .ok (.iconst 2, 1) := by decide +kernel
theorem dX4_tireOne_16 : decode cX4_tireOne 16 = .ok (.iload_n 1, 1) := by decide +kernel
theorem dX4_tireOne_17 : decode cX4_tireOne 17 = .ok (.imul, 1) := by decide +kernel
theorem dX4_tireOne_18 : decode cX4_tireOne 18 = .ok (.ishl, 1) := by decide +kernel
theorem dX4_tireOne_19 : decode cX4_tireOne 19 = .ok (.iadd, 1) := by decide +kernel
theorem dX4_tireOne_20 : decode cX4_tireOne 20 = .ok (.ireturn, 1) := by decide +kernel
set_option maxRecDepth 20000 in
theorem ggX4_tireBoth_X4_tireOne : GoodIn wsX4_tireBoth wsX4_tireOne := goodIn_r _ [4, 5, 6, 3, 7] (by decide +kernel) (by decide +kernel)
set_option maxRecDepth 20000 in
theorem gX4_tireBoth_X4_tireOne : GoodIn wsX4_tireBoth (va_wsS RX4 221 yX4_tireOne wsX4_tireOne) := goodIn_app (goodIn_of _ (by decide +kernel)) ggX4_tireBoth_X4_tireOne
theorem dX4_tireBoth_0 : decode cX4_tireBoth 0 = .ok (.iload_n 0, 1) := by decide +kernel
theorem dX4_tireBoth_1 : decode cX4_tireBoth 1 = .ok (.iload_n 1, 1) := by decide +kernel
theorem dX4_tireBoth_2 : decode cX4_tireBoth 2 = .ok (.invokestatic 221, 3) := by decide +kernel
theorem dX4_tireBoth_5 : decode cX4_tireBoth 5 = .ok (.iload_n 2, 1) := by decide +kernel
theorem dX4_tireBoth_6 : decode cX4_tireBoth 6 = .ok (.invokestatic 221, 3) := by decide +kernel
theorem dX4_tireBoth_9 : decode cX4_tireBoth 9 = .ok (.ireturn, 1) := by decide +kernel
theorem dX4_legTold_0 : decode cX4_legTold 0 = .ok (.iload_n 0, 1) := by decide +kernel
theorem dX4_legTold_1 : decode cX4_legTold 1 = .ok (.istore_n 2, 1) := by decide +kernel
theorem dX4_legTold_2 : decode cX4_legTold 2 = .ok (.iconst 0, 1) := by decide +kernel
theorem dX4_legTold_3 : decode cX4_legTold 3 = .ok (.istore_n 3, 1) := by decide +kernel
theorem dX4_legTold_4 : decode cX4_legTold 4 = .ok (.iload_n 3, 1) := by decide +kernel
theorem dX4_legTold_5 : decode cX4_legTold 5 = .ok (.iload_n 1, 1) := by decide +kernel
theorem dX4_legTold_6 : decode cX4_legTold 6 = .ok (.if_icmp .ge 15, 3) := by decide +kernel
theorem dX4_legTold_9 : decode cX4_legTold 9 = .ok (.iload_n 2, 1) := by decide +kernel
theorem dX4_legTold_10 : decode cX4_legTold 10 = .ok (.sipush 1000, 3) := by decide +kernel
theorem dX4_legTold_13 : decode cX4_legTold 13 = .ok (.idiv, 1) := by decide +kernel
theorem dX4_legTold_14 : decode cX4_legTold 14 = .ok (.istore_n 2, 1) := by decide +kernel
theorem dX4_legTold_15 : decode cX4_legTold 15 = .ok (.iinc 3 1, 3) := by decide +kernel
theorem dX4_legTold_18 : decode cX4_legTold 18 = .ok (.goto (-14), 3) := by decide +kernel
theorem dX4_legTold_21 : decode cX4_legTold 21 = .ok (.iload_n 2, 1) := by decide +kernel
theorem dX4_legTold_22 : decode cX4_legTold 22 = .ok (.ireturn, 1) := by decide +kernel
theorem dX4_factorial_0 : decode cX4_factorial 0 = .ok (.iconst 1, 1) := by decide +kernel
theorem dX4_factorial_1 : decode cX4_factorial 1 = .ok (.istore_n 1, 1) := by decide +kernel
theorem dX4_factorial_2 : decode cX4_factorial 2 = .ok (.iconst 2, 1) := by decide +kernel
theorem dX4_factorial_3 : decode cX4_factorial 3 = .ok (.istore_n 2, 1) := by decide +kernel
theorem dX4_factorial_4 : decode cX4_factorial 4 = .ok (.iload_n 2, 1) := by decide +kernel
theorem dX4_factorial_5 : decode cX4_factorial 5 = .ok (.iload_n 0, 1) := by decide +kernel
theorem dX4_factorial_6 : decode cX4_factorial 6 = .ok (.if_icmp .gt 13, 3) := by decide +kernel
theorem dX4_factorial_9 : decode cX4_factorial 9 = .ok (.iload_n 1, 1) := by decide +kernel
theorem dX4_factorial_10 : decode cX4_factorial 10 = .ok (.iload_n 2, 1) := by decide +kernel
theorem dX4_factorial_11 : decode cX4_factorial 11 = .ok (.imul, 1) := by decide +kernel
theorem dX4_factorial_12 : decode cX4_factorial 12 = .ok (.istore_n 1, 1) := by decide +kernel
theorem dX4_factorial_13 : decode cX4_factorial 13 = .ok (.iinc 2 1, 3) := by decide +kernel
theorem dX4_factorial_16 : decode cX4_factorial 16 = .ok (.goto (-12), 3) := by decide +kernel
theorem dX4_factorial_19 : decode cX4_factorial 19 = .ok (.iload_n 1, 1) := by decide +kernel
theorem dX4_factorial_20 : decode cX4_factorial 20 = .ok (.ireturn, 1) := by decide +kernel
theorem dX4_fraction_0 : decode cX4_fraction 0 = .ok (.iload_n 1, 1) := by decide +kernel
theorem dX4_fraction_1 : decode cX4_fraction 1 = .ok (.istore_n 3, 1) := by decide +kernel
theorem dX4_fraction_2 : decode cX4_fraction 2 = .ok (.iload_n 0, 1) := by decide +kernel
theorem dX4_fraction_3 : decode cX4_fraction 3 = .ok (.istore 4, 2) := by decide +kernel
theorem dX4_fraction_5 : decode cX4_fraction 5 = .ok (.iconst 0, 1) := by decide +kernel
theorem dX4_fraction_6 : decode cX4_fraction 6 = .ok (.istore 5, 2) := by decide +kernel
theorem dX4_fraction_8 : decode cX4_fraction 8 = .ok (.iload 5, 2) := by decide +kernel
theorem dX4_fraction_10 : decode cX4_fraction 10 = .ok (.bipush 100, 2) := by decide +kernel
theorem dX4_fraction_12 : decode cX4_fraction 12 = .ok (.if_icmp .ge 27, 3) := by decide +kernel
theorem dX4_fraction_15 : decode cX4_fraction 15 = .ok (.iload 4, 2) := by decide +kernel
theorem dX4_fraction_17 : decode cX4_fraction 17 = .ok (.ifCond .eq 22, 3) := by decide +kernel
theorem dX4_fraction_20 : decode cX4_fraction 20 = .ok (.iload_n 3, 1) := by decide +kernel
theorem dX4_fraction_21 : decode cX4_fraction 21 = .ok (.iload 4, 2) := by decide +kernel
theorem dX4_fraction_23 : decode cX4_fraction 23 = .ok (.irem, 1) := by decide +kernel
theorem dX4_fraction_24 : decode cX4_fraction 24 = .ok (.istore 6, 2) := by decide +kernel
theorem dX4_fraction_26 : decode cX4_fraction 26 = .ok (.iload 4, 2) := by decide +kernel
theorem dX4_fraction_28 : decode cX4_fraction 28 = .ok (.istore_n 3, 1) := by decide +kernel
theorem dX4_fraction_29 : decode cX4_fraction 29 = .ok (.iload 6, 2) := by decide +kernel
theorem dX4_fraction_31 : decode cX4_fraction 31 = .ok (.istore 4, 2) := by decide +kernel
theorem dX4_fraction_33 : decode cX4_fraction 33 = .ok (.iinc 5 1, 3) := by decide +kernel
theorem dX4_fraction_36 : decode cX4_fraction 36 = .ok (.goto (-28), 3) := by decide +kernel
theorem dX4_fraction_39 : decode cX4_fraction 39 = .ok (.iload_n 2, 1) := by decide +kernel
theorem dX4_fraction_40 : decode cX4_fraction 40 = .ok (.ifCond .eq 7, 3) := by decide +kernel
theorem dX4_fraction_43 : decode cX4_fraction 43 = .ok (.iload_n 0, 1) := by decide +kernel
theorem dX4_fraction_44 : decode cX4_fraction 44 = .ok (.goto 4, 3) := by decide +kernel
theorem dX4_fraction_47 : decode cX4_fraction 47 = .ok (.iload_n 1, 1) := by decide +kernel
theorem dX4_fraction_48 : decode cX4_fraction 48 = .ok (.istore 5, 2) := by decide +kernel
theorem dX4_fraction_50 : decode cX4_fraction 50 = .ok (.iload_n 3, 1) := by decide +kernel
theorem dX4_fraction_51 : decode cX4_fraction 51 = .ok (.ifCond .ne 8, 3) := by decide +kernel
theorem dX4_fraction_54 : decode cX4_fraction 54 = .ok (.iload 5, 2) := by decide +kernel
theorem dX4_fraction_56 : decode cX4_fraction 56 = .ok (.goto 7, 3) := by decide +kernel
theorem dX4_fraction_59 : decode cX4_fraction 59 = .ok (.iload 5, 2) := by decide +kernel
theorem dX4_fraction_61 : decode cX4_fraction 61 = .ok (.iload_n 3, 1) := by decide +kernel
theorem dX4_fraction_62 : decode cX4_fraction 62 = .ok (.idiv, 1) := by decide +kernel
theorem dX4_fraction_63 : decode cX4_fraction 63 = .ok (.ireturn, 1) := by decide +kernel
set_option maxRecDepth 20000 in
theorem ggX4_readTunnel_X3_figureAt : GoodIn wsX4_readTunnel wsX3_figureAt := goodIn_r _ [8, 9, 10, 11, 7, 12, 13, 14, 57, 58] (by decide +kernel) (by decide +kernel)
set_option maxRecDepth 20000 in
theorem gX4_readTunnel_X3_figureAt : GoodIn wsX4_readTunnel (wsV RX4 224 RX3 yX3_figureAt wsX3_figureAt) := goodIn_app (goodIn_of _ (by decide +kernel)) ggX4_readTunnel_X3_figureAt
set_option maxRecDepth 20000 in
theorem ggX4_readTunnel_X1_layOut : GoodIn wsX4_readTunnel wsX1_layOut := goodIn_r _ [19, 20, 21, 22, 23, 24, 59, 60, 61, 62, 63] (by decide +kernel) (by decide +kernel)
set_option maxRecDepth 20000 in
theorem gX4_readTunnel_X1_layOut : GoodIn wsX4_readTunnel (wsV RX4 227 RX1 yX1_layOut wsX1_layOut) := goodIn_app (goodIn_of _ (by decide +kernel)) ggX4_readTunnel_X1_layOut
set_option maxRecDepth 20000 in
theorem ggX4_readTunnel_X2_clear : GoodIn wsX4_readTunnel wsX2_clear := goodIn_r _ [29, 30, 31, 32, 33, 64, 65, 66, 67] (by decide +kernel) (by decide +kernel)
set_option maxRecDepth 20000 in
theorem gX4_readTunnel_X2_clear : GoodIn wsX4_readTunnel (wsV RX4 231 RX2 yX2_clear wsX2_clear) := goodIn_app (goodIn_of _ (by decide +kernel)) ggX4_readTunnel_X2_clear
set_option maxRecDepth 20000 in
theorem ggX4_readTunnel_X3_letterAt : GoodIn wsX4_readTunnel wsX3_letterAt := goodIn_r _ [12, 13, 14, 57, 58] (by decide +kernel) (by decide +kernel)
set_option maxRecDepth 20000 in
theorem gX4_readTunnel_X3_letterAt : GoodIn wsX4_readTunnel (wsV RX4 234 RX3 yX3_letterAt wsX3_letterAt) := goodIn_app (goodIn_of _ (by decide +kernel)) ggX4_readTunnel_X3_letterAt
set_option maxRecDepth 20000 in
theorem ggX4_readTunnel_X2_cover : GoodIn wsX4_readTunnel wsX2_cover := goodIn_r _ [38, 30, 64, 65, 66, 67] (by decide +kernel) (by decide +kernel)
set_option maxRecDepth 20000 in
theorem gX4_readTunnel_X2_cover : GoodIn wsX4_readTunnel (wsV RX4 134 RX2 yX2_cover wsX2_cover) := goodIn_app (goodIn_of _ (by decide +kernel)) ggX4_readTunnel_X2_cover
set_option maxRecDepth 20000 in
theorem ggX4_readTunnel_X1_addLegger : GoodIn wsX4_readTunnel wsX1_addLegger := goodIn_r _ [42, 23, 21, 59, 60, 61, 62, 63] (by decide +kernel) (by decide +kernel)
set_option maxRecDepth 20000 in
theorem gX4_readTunnel_X1_addLegger : GoodIn wsX4_readTunnel (wsV RX4 237 RX1 yX1_addLegger wsX1_addLegger) := goodIn_app (goodIn_of _ (by decide +kernel)) ggX4_readTunnel_X1_addLegger
set_option maxRecDepth 20000 in
theorem ggX4_readTunnel_X1_addBoat : GoodIn wsX4_readTunnel wsX1_addBoat := goodIn_r _ [46, 24, 22, 59, 60, 61, 62, 63] (by decide +kernel) (by decide +kernel)
set_option maxRecDepth 20000 in
theorem gX4_readTunnel_X1_addBoat : GoodIn wsX4_readTunnel (wsV RX4 240 RX1 yX1_addBoat wsX1_addBoat) := goodIn_app (goodIn_of _ (by decide +kernel)) ggX4_readTunnel_X1_addBoat
theorem dX4_readTunnel_0 : decode cX4_readTunnel 0 = .ok (.aload_n 0, 1) := by decide +kernel
theorem dX4_readTunnel_1 : decode cX4_readTunnel 1 = .ok (.getfield 19, 3) := by decide +kernel
theorem dX4_readTunnel_4 : decode cX4_readTunnel 4 = .ok (.aload_n 0, 1) := by decide +kernel
theorem dX4_readTunnel_5 : decode cX4_readTunnel 5 = .ok (.getfield 10, 3) := by decide +kernel
theorem dX4_readTunnel_8 : decode cX4_readTunnel 8 = .ok (.iconst 1, 1) := by decide +kernel
theorem dX4_readTunnel_9 : decode cX4_readTunnel 9 = .ok (.invokevirtual 224, 3) := by decide +kernel
theorem dX4_readTunnel_12 : decode cX4_readTunnel 12 = .ok (.invokevirtual 227, 3) := by decide +kernel
theorem dX4_readTunnel_15 : decode cX4_readTunnel 15 = .ok (.aload_n 0, 1) := by decide +kernel
theorem dX4_readTunnel_16 : decode cX4_readTunnel 16 = .ok (.getfield 26, 3) := by decide +kernel
theorem dX4_readTunnel_19 : decode cX4_readTunnel 19 = .ok (.invokevirtual 231, 3) := by decide +kernel
theorem dX4_readTunnel_22 : decode cX4_readTunnel 22 = .ok (.iconst 2, 1) := by decide +kernel
theorem dX4_readTunnel_23 : decode cX4_readTunnel 23 = .ok (.istore_n 1, 1) := by decide +kernel
theorem dX4_readTunnel_24 : decode cX4_readTunnel 24 = .ok (.iload_n 1, 1) := by decide +kernel
theorem dX4_readTunnel_25 : decode cX4_readTunnel 25 = .ok (.aload_n 0, 1) := by decide +kernel
theorem dX4_readTunnel_26 : decode cX4_readTunnel 26 = .ok (.getfield 10, 3) := by decide +kernel
theorem dX4_readTunnel_29 : decode cX4_readTunnel 29 = .ok (.getfield 48, 3) := by decide +kernel
theorem dX4_readTunnel_32 : decode cX4_readTunnel 32 = .ok (.if_icmp .ge 102, 3) := by decide +kernel
theorem dX4_readTunnel_35 : decode cX4_readTunnel 35 = .ok (.aload_n 0, 1) := by decide +kernel
theorem dX4_readTunnel_36 : decode cX4_readTunnel 36 = .ok (.getfield 10, 3) := by decide +kernel
theorem dX4_readTunnel_39 : decode cX4_readTunnel 39 = .ok (.iload_n 1, 1) := by decide +kernel
theorem dX4_readTunnel_40 : decode cX4_readTunnel 40 = .ok (.invokevirtual 234, 3) := by decide +kernel
theorem dX4_readTunnel_43 : decode cX4_readTunnel 43 = .ok (.bipush 71, 2) := by decide +kernel
theorem dX4_readTunnel_45 : decode cX4_readTunnel 45 = .ok (.if_icmp .ne 66, 3) := by decide +kernel
theorem dX4_readTunnel_48 : decode cX4_readTunnel 48 = .ok (.iconst 0, 1) := by decide +kernel
theorem dX4_readTunnel_49 : decode cX4_readTunnel 49 = .ok (.istore_n 2, 1) := by decide +kernel
theorem dX4_readTunnel_50 : decode cX4_readTunnel 50 = .ok (.iload_n 2, 1) := by decide +kernel
theorem dX4_readTunnel_51 : decode cX4_readTunnel 51 = .ok (.iconst 4, 1) := by decide +kernel
theorem dX4_readTunnel_52 : decode cX4_readTunnel 52 = .ok (.if_icmp .ge 36, 3) := by decide +kernel
theorem dX4_readTunnel_55 : decode cX4_readTunnel 55 = .ok (.aload_n 0, 1) := by decide +kernel
theorem dX4_readTunnel_56 : decode cX4_readTunnel 56 = .ok (.getfield 26, 3) := by decide +kernel
theorem dX4_readTunnel_59 : decode cX4_readTunnel 59 = .ok (.aload_n 0, 1) := by decide +kernel
theorem dX4_readTunnel_60 : decode cX4_readTunnel 60 = .ok (.getfield 19, 3) := by decide +kernel
theorem dX4_readTunnel_63 : decode cX4_readTunnel 63 = .ok (.getfield 65, 3) := by decide +kernel
theorem dX4_readTunnel_66 : decode cX4_readTunnel 66 = .ok (.iload_n 2, 1) := by decide +kernel
theorem dX4_readTunnel_67 : decode cX4_readTunnel 67 = .ok (.aload_n 0, 1) := by decide +kernel
theorem dX4_readTunnel_68 : decode cX4_readTunnel 68 = .ok (.getfield 10, 3) := by decide +kernel
theorem dX4_readTunnel_71 : decode cX4_readTunnel 71 = .ok (.iload_n 1, 1) := by decide +kernel
theorem dX4_readTunnel_72 : decode cX4_readTunnel 72 = .ok (.iconst 2, 1) := by decide +kernel
theorem dX4_readTunnel_73 : decode cX4_readTunnel 73 = .ok (.iadd, 1) := by decide +kernel
theorem dX4_readTunnel_74 : decode cX4_readTunnel 74 = .ok (.iload_n 2, 1) := by decide +kernel
theorem dX4_readTunnel_75 : decode cX4_readTunnel 75 = .ok (.iadd, 1) := by decide +kernel
theorem dX4_readTunnel_76 : decode cX4_readTunnel 76 = .ok (.invokevirtual 224, 3) := by decide +kernel
theorem dX4_readTunnel_79 : decode cX4_readTunnel 79 = .ok (.invokevirtual 134, 3) := by decide +kernel
theorem dX4_readTunnel_82 : decode cX4_readTunnel 82 = .ok (.iinc 2 1, 3) := by decide +kernel
theorem dX4_readTunnel_85 : decode cX4_readTunnel 85 = .ok (.goto (-35), 3) := by decide +kernel
theorem dX4_readTunnel_88 : decode cX4_readTunnel 88 = .ok (.aload_n 0, 1) := by decide +kernel
theorem dX4_readTunnel_89 : decode cX4_readTunnel 89 = .ok (.getfield 19, 3) := by decide +kernel
theorem dX4_readTunnel_92 : decode cX4_readTunnel 92 = .ok (.aload_n 0, 1) := by decide +kernel
theorem dX4_readTunnel_93 : decode cX4_readTunnel 93 = .ok (.getfield 10, 3) := by decide +kernel
theorem dX4_readTunnel_96 : decode cX4_readTunnel 96 = .ok (.iload_n 1, 1) := by decide +kernel
theorem dX4_readTunnel_97 : decode cX4_readTunnel 97 = .ok (.iconst 1, 1) := by decide +kernel
theorem dX4_readTunnel_98 : decode cX4_readTunnel 98 = .ok (.iadd, 1) := by decide +kernel
theorem dX4_readTunnel_99 : decode cX4_readTunnel 99 = .ok (.invokevirtual 224, 3) := by decide +kernel
theorem dX4_readTunnel_102 : decode cX4_readTunnel 102 = .ok (.invokevirtual 237, 3) := by decide +kernel
theorem dX4_readTunnel_105 : decode cX4_readTunnel 105 = .ok (.iinc 1 6, 3) := by decide +kernel
theorem dX4_readTunnel_108 : decode cX4_readTunnel 108 = .ok (.goto (-84), 3) := by decide +kernel
theorem dX4_readTunnel_111 : decode cX4_readTunnel 111 = .ok (.aload_n 0, 1) := by decide +kernel
theorem dX4_readTunnel_112 : decode cX4_readTunnel 112 = .ok (.getfield 19, 3) := by decide +kernel
theorem dX4_readTunnel_115 : decode cX4_readTunnel 115 = .ok (.aload_n 0, 1) := by decide +kernel
theorem dX4_readTunnel_116 : decode cX4_readTunnel 116 = .ok (.getfield 10, 3) := by decide +kernel
theorem dX4_readTunnel_119 : decode cX4_readTunnel 119 = .ok (.iload_n 1, 1) := by decide +kernel
theorem dX4_readTunnel_120 : decode cX4_readTunnel 120 = .ok (.iconst 1, 1) := by decide +kernel
theorem dX4_readTunnel_121 : decode cX4_readTunnel 121 = .ok (.iadd, 1) := by decide +kernel
theorem dX4_readTunnel_122 : decode cX4_readTunnel 122 = .ok (.invokevirtual 224, 3) := by decide +kernel
theorem dX4_readTunnel_125 : decode cX4_readTunnel 125 = .ok (.invokevirtual 240, 3) := by decide +kernel
theorem dX4_readTunnel_128 : decode cX4_readTunnel 128 = .ok (.iinc 1 2, 3) := by decide +kernel
theorem dX4_readTunnel_131 : decode cX4_readTunnel 131 = .ok (.goto (-107), 3) := by decide +kernel
theorem dX4_readTunnel_134 : decode cX4_readTunnel 134 = .ok (.return_, 1) := by decide +kernel
theorem dX4_minutesOver_0 : decode cX4_minutesOver 0 = .ok (.iload_n 0, 1) := by decide +kernel
theorem dX4_minutesOver_1 : decode cX4_minutesOver 1 = .ok (.lookupswitch 31 #[(1, 27), (3, 29)], 27) := by decide +kernel
theorem dX4_minutesOver_28 : decode cX4_minutesOver 28 = .ok (.iconst 2, 1) := by decide +kernel
theorem dX4_minutesOver_29 : decode cX4_minutesOver 29 = .ok (.ireturn, 1) := by decide +kernel
theorem dX4_minutesOver_30 : decode cX4_minutesOver 30 = .ok (.iconst 3, 1) := by decide +kernel
theorem dX4_minutesOver_31 : decode cX4_minutesOver 31 = .ok (.ireturn, 1) := by decide +kernel
theorem dX4_minutesOver_32 : decode cX4_minutesOver 32 = .ok (.iconst 1, 1) := by decide +kernel
theorem dX4_minutesOver_33 : decode cX4_minutesOver 33 = .ok (.ireturn, 1) := by decide +kernel
theorem dX4_placeBehind_0 : decode cX4_placeBehind 0 = .ok (.iload_n 0, 1) := by decide +kernel
theorem dX4_placeBehind_1 : decode cX4_placeBehind 1 = .ok (.iload_n 1, 1) := by decide +kernel
theorem dX4_placeBehind_2 : decode cX4_placeBehind 2 = .ok (.iconst 2, 1) := by decide +kernel
theorem dX4_placeBehind_3 : decode cX4_placeBehind 3 = .ok (.if_icmp .ne 7, 3) := by decide +kernel
theorem dX4_placeBehind_6 : decode cX4_placeBehind 6 = .ok (.iconst 2, 1) := by decide +kernel
theorem dX4_placeBehind_7 : decode cX4_placeBehind 7 = .ok (.goto 4, 3) := by decide +kernel
theorem dX4_placeBehind_10 : decode cX4_placeBehind 10 = .ok (.iconst 1, 1) := by decide +kernel
theorem dX4_placeBehind_11 : decode cX4_placeBehind 11 = .ok (.iadd, 1) := by decide +kernel
theorem dX4_placeBehind_12 : decode cX4_placeBehind 12 = .ok (.iconst 4, 1) := by decide +kernel
theorem dX4_placeBehind_13 : decode cX4_placeBehind 13 = .ok (.irem, 1) := by decide +kernel
theorem dX4_placeBehind_14 : decode cX4_placeBehind 14 = .ok (.ireturn, 1) := by decide +kernel
set_option maxRecDepth 20000 in
theorem ggX4_stepMinutes_X4_minutesOver : GoodIn wsX4_stepMinutes wsX4_minutesOver := goodIn_r _ [9] (by decide +kernel) (by decide +kernel)
set_option maxRecDepth 20000 in
theorem gX4_stepMinutes_X4_minutesOver : GoodIn wsX4_stepMinutes (va_wsS RX4 243 yX4_minutesOver wsX4_minutesOver) := goodIn_app (goodIn_of _ (by decide +kernel)) ggX4_stepMinutes_X4_minutesOver
set_option maxRecDepth 20000 in
theorem ggX4_stepMinutes_X1_kindOf : GoodIn wsX4_stepMinutes wsX1_kindOf := goodIn_r _ [14, 15, 29, 30, 31, 32, 33] (by decide +kernel) (by decide +kernel)
set_option maxRecDepth 20000 in
theorem gX4_stepMinutes_X1_kindOf : GoodIn wsX4_stepMinutes (wsV RX4 96 RX1 yX1_kindOf wsX1_kindOf) := goodIn_app (goodIn_of _ (by decide +kernel)) ggX4_stepMinutes_X1_kindOf
set_option maxRecDepth 20000 in
theorem ggX4_stepMinutes_X4_timesTired : GoodIn wsX4_stepMinutes wsX4_timesTired := goodIn_r _ [18] (by decide +kernel) (by decide +kernel)
set_option maxRecDepth 20000 in
theorem gX4_stepMinutes_X4_timesTired : GoodIn wsX4_stepMinutes (va_wsS RX4 103 yX4_timesTired wsX4_timesTired) := goodIn_app (goodIn_of _ (by decide +kernel)) ggX4_stepMinutes_X4_timesTired
theorem dX4_stepMinutes_0 : decode cX4_stepMinutes 0 = .ok (.iload_n 2, 1) := by decide +kernel
theorem dX4_stepMinutes_1 : decode cX4_stepMinutes 1 = .ok (.invokestatic 243, 3) := by decide +kernel
theorem dX4_stepMinutes_4 : decode cX4_stepMinutes 4 = .ok (.istore 5, 2) := by decide +kernel
theorem dX4_stepMinutes_6 : decode cX4_stepMinutes 6 = .ok (.aload_n 0, 1) := by decide +kernel
theorem dX4_stepMinutes_7 : decode cX4_stepMinutes 7 = .ok (.getfield 19, 3) := by decide +kernel
theorem dX4_stepMinutes_10 : decode cX4_stepMinutes 10 = .ok (.iload_n 1, 1) := by decide +kernel
theorem dX4_stepMinutes_11 : decode cX4_stepMinutes 11 = .ok (.invokevirtual 96, 3) := by decide +kernel
theorem dX4_stepMinutes_14 : decode cX4_stepMinutes 14 = .ok (.tableswitch 71 1 3 #[26, 32, 45], 26) := by decide +kernel
theorem dX4_stepMinutes_40 : decode cX4_stepMinutes 40 = .ok (.iinc 5 1, 3) := by decide +kernel
theorem dX4_stepMinutes_43 : decode cX4_stepMinutes 43 = .ok (.goto 42, 3) := by decide +kernel
theorem dX4_stepMinutes_46 : decode cX4_stepMinutes 46 = .ok (.iconst 1, 1) := by decide +kernel
theorem dX4_stepMinutes_47 : decode cX4_stepMinutes 47 = .ok (.iload 5, 2) := by decide +kernel
theorem dX4_stepMinutes_49 : decode cX4_stepMinutes 49 = .ok (.iconst 1, 1) := by decide +kernel
theorem dX4_stepMinutes_50 : decode cX4_stepMinutes 50 = .ok (.isub, 1) := by decide +kernel
theorem dX4_stepMinutes_51 : decode cX4_stepMinutes 51 = .ok (.invokestatic 246, 3) := by decide +kernel
theorem dX4_stepMinutes_54 : decode cX4_stepMinutes 54 = .ok (.istore 5, 2) := by decide +kernel
theorem dX4_stepMinutes_56 : decode cX4_stepMinutes 56 = .ok (.goto 29, 3) := by decide +kernel
theorem dX4_stepMinutes_59 : decode cX4_stepMinutes 59 = .ok (.iload 5, 2) := by decide +kernel
theorem dX4_stepMinutes_61 : decode cX4_stepMinutes 61 = .ok (.iload_n 3, 1) := by decide +kernel
theorem dX4_stepMinutes_62 : decode cX4_stepMinutes 62 = .ok (.aload_n 0, 1) := by decide +kernel
theorem dX4_stepMinutes_63 : decode cX4_stepMinutes 63 = .ok (.getfield 19, 3) := by decide +kernel
theorem dX4_stepMinutes_66 : decode cX4_stepMinutes 66 = .ok (.getfield 71, 3) := by decide +kernel
theorem dX4_stepMinutes_69 : decode cX4_stepMinutes 69 = .ok (.iconst 2, 1) := by decide +kernel
theorem dX4_stepMinutes_70 : decode cX4_stepMinutes 70 = .ok (.idiv, 1) := by decide +kernel
theorem dX4_stepMinutes_71 : decode cX4_stepMinutes 71 = .ok (.if_icmp .ne 7, 3) := by decide +kernel
theorem dX4_stepMinutes_74 : decode cX4_stepMinutes 74 = .ok (.iconst 2, 1) := by decide +kernel
theorem dX4_stepMinutes_75 : decode cX4_stepMinutes 75 = .ok (.goto 4, 3) := by decide +kernel
theorem dX4_stepMinutes_78 : decode cX4_stepMinutes 78 = .ok (.iconst 0, 1) := by decide +kernel
theorem dX4_stepMinutes_79 : decode cX4_stepMinutes 79 = .ok (.iadd, 1) := by decide +kernel
theorem dX4_stepMinutes_80 : decode cX4_stepMinutes 80 = .ok (.istore 5, 2) := by decide +kernel
theorem dX4_stepMinutes_82 : decode cX4_stepMinutes 82 = .ok (.goto 3, 3) := by decide +kernel
theorem dX4_stepMinutes_85 : decode cX4_stepMinutes 85 = .ok (.iload 5, 2) := by decide +kernel
theorem dX4_stepMinutes_87 : decode cX4_stepMinutes 87 = .ok (.iload 4, 2) := by decide +kernel
theorem dX4_stepMinutes_89 : decode cX4_stepMinutes 89 = .ok (.iload_n 1, 1) := by decide +kernel
theorem dX4_stepMinutes_90 : decode cX4_stepMinutes 90 = .ok (.invokestatic 103, 3) := by decide +kernel
theorem dX4_stepMinutes_93 : decode cX4_stepMinutes 93 = .ok (.iadd, 1) := by decide +kernel
theorem dX4_stepMinutes_94 : decode cX4_stepMinutes 94 = .ok (.ireturn, 1) := by decide +kernel
set_option maxRecDepth 20000 in
theorem ggX4_aloneMinutes_X2_groundAt : GoodIn wsX4_aloneMinutes wsX2_groundAt := goodIn_r _ [7, 8, 9, 10, 11, 50, 51, 52, 53] (by decide +kernel) (by decide +kernel)
set_option maxRecDepth 20000 in
theorem gX4_aloneMinutes_X2_groundAt : GoodIn wsX4_aloneMinutes (wsV RX4 92 RX2 yX2_groundAt wsX2_groundAt) := goodIn_app (goodIn_of _ (by decide +kernel)) ggX4_aloneMinutes_X2_groundAt
set_option maxRecDepth 20000 in
theorem ggX4_aloneMinutes_X4_stepMinutes : GoodIn wsX4_aloneMinutes wsX4_stepMinutes := goodIn_r _ [15, 1, 16, 17, 18, 19, 20, 21, 10, 22, 23, 24, 25, 26, 27, 28, 29, 30, 31, 35, 36, 37, 38, 39, 40, 41, 42, 43, 44, 45, 46, 47, 48, 49] (by decide +kernel) (by decide +kernel)
set_option maxRecDepth 20000 in
theorem gX4_aloneMinutes_X4_stepMinutes : GoodIn wsX4_aloneMinutes (wsV RX4 251 RX4 yX4_stepMinutes wsX4_stepMinutes) := goodIn_app (goodIn_of _ (by decide +kernel)) ggX4_aloneMinutes_X4_stepMinutes
set_option maxRecDepth 20000 in
theorem ggX4_aloneMinutes_X4_placeBehind : GoodIn wsX4_aloneMinutes wsX4_placeBehind := goodIn_r _ [34] (by decide +kernel) (by decide +kernel)
set_option maxRecDepth 20000 in
theorem gX4_aloneMinutes_X4_placeBehind : GoodIn wsX4_aloneMinutes (va_wsS RX4 255 yX4_placeBehind wsX4_placeBehind) := goodIn_app (goodIn_of _ (by decide +kernel)) ggX4_aloneMinutes_X4_placeBehind
theorem dX4_aloneMinutes_0 : decode cX4_aloneMinutes 0 = .ok (.iconst 0, 1) := by decide +kernel
theorem dX4_aloneMinutes_1 : decode cX4_aloneMinutes 1 = .ok (.istore_n 3, 1) := by decide +kernel
theorem dX4_aloneMinutes_2 : decode cX4_aloneMinutes 2 = .ok (.iload_n 2, 1) := by decide +kernel
theorem dX4_aloneMinutes_3 : decode cX4_aloneMinutes 3 = .ok (.istore 4, 2) := by decide +kernel
theorem dX4_aloneMinutes_5 : decode cX4_aloneMinutes 5 = .ok (.iconst 0, 1) := by decide +kernel
theorem dX4_aloneMinutes_6 : decode cX4_aloneMinutes 6 = .ok (.istore 5, 2) := by decide +kernel
theorem dX4_aloneMinutes_8 : decode cX4_aloneMinutes 8 = .ok (.iload 5, 2) := by decide +kernel
theorem dX4_aloneMinutes_10 : decode cX4_aloneMinutes 10 = .ok (.aload_n 0, 1) := by decide +kernel
theorem dX4_aloneMinutes_11 : decode cX4_aloneMinutes 11 = .ok (.getfield 19, 3) := by decide +kernel
theorem dX4_aloneMinutes_14 : decode cX4_aloneMinutes 14 = .ok (.getfield 71, 3) := by decide +kernel
theorem dX4_aloneMinutes_17 : decode cX4_aloneMinutes 17 = .ok (.if_icmp .ge 49, 3) := by decide +kernel
theorem dX4_aloneMinutes_20 : decode cX4_aloneMinutes 20 = .ok (.aload_n 0, 1) := by decide +kernel
theorem dX4_aloneMinutes_21 : decode cX4_aloneMinutes 21 = .ok (.getfield 26, 3) := by decide +kernel
theorem dX4_aloneMinutes_24 : decode cX4_aloneMinutes 24 = .ok (.iload_n 1, 1) := by decide +kernel
theorem dX4_aloneMinutes_25 : decode cX4_aloneMinutes 25 = .ok (.iload 4, 2) := by decide +kernel
theorem dX4_aloneMinutes_27 : decode cX4_aloneMinutes 27 = .ok (.invokevirtual 92, 3) := by decide +kernel
theorem dX4_aloneMinutes_30 : decode cX4_aloneMinutes 30 = .ok (.istore 6, 2) := by decide +kernel
theorem dX4_aloneMinutes_32 : decode cX4_aloneMinutes 32 = .ok (.iload_n 3, 1) := by decide +kernel
theorem dX4_aloneMinutes_33 : decode cX4_aloneMinutes 33 = .ok (.aload_n 0, 1) := by decide +kernel
theorem dX4_aloneMinutes_34 : decode cX4_aloneMinutes 34 = .ok (.iload_n 1, 1) := by decide +kernel
theorem dX4_aloneMinutes_35 : decode cX4_aloneMinutes 35 = .ok (.iload 6, 2) := by decide +kernel
theorem dX4_aloneMinutes_37 : decode cX4_aloneMinutes 37 = .ok (.iload 5, 2) := by decide +kernel
theorem dX4_aloneMinutes_39 : decode cX4_aloneMinutes 39 = .ok (.aload_n 0, 1) := by decide +kernel
theorem dX4_aloneMinutes_40 : decode cX4_aloneMinutes 40 = .ok (.getfield 26, 3) := by decide +kernel
theorem dX4_aloneMinutes_43 : decode cX4_aloneMinutes 43 = .ok (.getfield 100, 3) := by decide +kernel
theorem dX4_aloneMinutes_46 : decode cX4_aloneMinutes 46 = .ok (.invokevirtual 251, 3) := by decide +kernel
theorem dX4_aloneMinutes_49 : decode cX4_aloneMinutes 49 = .ok (.iadd, 1) := by decide +kernel
theorem dX4_aloneMinutes_50 : decode cX4_aloneMinutes 50 = .ok (.istore_n 3, 1) := by decide +kernel
theorem dX4_aloneMinutes_51 : decode cX4_aloneMinutes 51 = .ok (.iload 4, 2) := by decide +kernel
theorem dX4_aloneMinutes_53 : decode cX4_aloneMinutes 53 = .ok (.iload 6, 2) := by decide +kernel
theorem dX4_aloneMinutes_55 : decode cX4_aloneMinutes 55 = .ok (.invokestatic 255, 3) := by decide +kernel
theorem dX4_aloneMinutes_58 : decode cX4_aloneMinutes 58 = .ok (.istore 4, 2) := by decide +kernel
theorem dX4_aloneMinutes_60 : decode cX4_aloneMinutes 60 = .ok (.iinc 5 1, 3) := by decide +kernel
theorem dX4_aloneMinutes_63 : decode cX4_aloneMinutes 63 = .ok (.goto (-55), 3) := by decide +kernel
theorem dX4_aloneMinutes_66 : decode cX4_aloneMinutes 66 = .ok (.iload_n 3, 1) := by decide +kernel
theorem dX4_aloneMinutes_67 : decode cX4_aloneMinutes 67 = .ok (.ireturn, 1) := by decide +kernel
set_option maxRecDepth 20000 in
theorem ggX4_pairMinutes_X2_groundAt : GoodIn wsX4_pairMinutes wsX2_groundAt := goodIn_r _ [11, 12, 13, 14, 15, 50, 51, 52, 53] (by decide +kernel) (by decide +kernel)
set_option maxRecDepth 20000 in
theorem gX4_pairMinutes_X2_groundAt : GoodIn wsX4_pairMinutes (wsV RX4 92 RX2 yX2_groundAt wsX2_groundAt) := goodIn_app (goodIn_of _ (by decide +kernel)) ggX4_pairMinutes_X2_groundAt
set_option maxRecDepth 20000 in
theorem ggX4_pairMinutes_X4_stepMinutes : GoodIn wsX4_pairMinutes wsX4_stepMinutes := goodIn_r _ [19, 1, 3, 4, 5, 6, 20, 21, 14, 22, 23, 24, 25, 26, 27, 28, 29, 30, 31, 35, 36, 37, 38, 39, 40, 41, 42, 43, 44, 45, 46, 47, 48, 49] (by decide +kernel) (by decide +kernel)
set_option maxRecDepth 20000 in
theorem gX4_pairMinutes_X4_stepMinutes : GoodIn wsX4_pairMinutes (wsV RX4 251 RX4 yX4_stepMinutes wsX4_stepMinutes) := goodIn_app (goodIn_of _ (by decide +kernel)) ggX4_pairMinutes_X4_stepMinutes
set_option maxRecDepth 20000 in
theorem ggX4_pairMinutes_X4_placeBehind : GoodIn wsX4_pairMinutes wsX4_placeBehind := goodIn_r _ [34] (by decide +kernel) (by decide +kernel)
set_option maxRecDepth 20000 in
theorem gX4_pairMinutes_X4_placeBehind : GoodIn wsX4_pairMinutes (va_wsS RX4 255 yX4_placeBehind wsX4_placeBehind) := goodIn_app (goodIn_of _ (by decide +kernel)) ggX4_pairMinutes_X4_placeBehind
theorem dX4_pairMinutes_0 : decode cX4_pairMinutes 0 = .ok (.iconst 0, 1) := by decide +kernel
theorem dX4_pairMinutes_1 : decode cX4_pairMinutes 1 = .ok (.istore 6, 2) := by decide +kernel
theorem dX4_pairMinutes_3 : decode cX4_pairMinutes 3 = .ok (.iload_n 3, 1) := by decide +kernel
theorem dX4_pairMinutes_4 : decode cX4_pairMinutes 4 = .ok (.istore 7, 2) := by decide +kernel
theorem dX4_pairMinutes_6 : decode cX4_pairMinutes 6 = .ok (.iload 4, 2) := by decide +kernel
theorem dX4_pairMinutes_8 : decode cX4_pairMinutes 8 = .ok (.istore 8, 2) := by decide +kernel
theorem dX4_pairMinutes_10 : decode cX4_pairMinutes 10 = .ok (.iconst 0, 1) := by decide +kernel
theorem dX4_pairMinutes_11 : decode cX4_pairMinutes 11 = .ok (.istore 9, 2) := by decide +kernel
theorem dX4_pairMinutes_13 : decode cX4_pairMinutes 13 = .ok (.iload 9, 2) := by decide +kernel
theorem dX4_pairMinutes_15 : decode cX4_pairMinutes 15 = .ok (.aload_n 0, 1) := by decide +kernel
theorem dX4_pairMinutes_16 : decode cX4_pairMinutes 16 = .ok (.getfield 19, 3) := by decide +kernel
theorem dX4_pairMinutes_19 : decode cX4_pairMinutes 19 = .ok (.getfield 71, 3) := by decide +kernel
theorem dX4_pairMinutes_22 : decode cX4_pairMinutes 22 = .ok (.if_icmp .ge 98, 3) := by decide +kernel
theorem dX4_pairMinutes_25 : decode cX4_pairMinutes 25 = .ok (.aload_n 0, 1) := by decide +kernel
theorem dX4_pairMinutes_26 : decode cX4_pairMinutes 26 = .ok (.getfield 26, 3) := by decide +kernel
theorem dX4_pairMinutes_29 : decode cX4_pairMinutes 29 = .ok (.iload_n 1, 1) := by decide +kernel
theorem dX4_pairMinutes_30 : decode cX4_pairMinutes 30 = .ok (.iload 7, 2) := by decide +kernel
theorem dX4_pairMinutes_32 : decode cX4_pairMinutes 32 = .ok (.invokevirtual 92, 3) := by decide +kernel
theorem dX4_pairMinutes_35 : decode cX4_pairMinutes 35 = .ok (.istore 10, 2) := by decide +kernel
theorem dX4_pairMinutes_37 : decode cX4_pairMinutes 37 = .ok (.aload_n 0, 1) := by decide +kernel
theorem dX4_pairMinutes_38 : decode cX4_pairMinutes 38 = .ok (.getfield 26, 3) := by decide +kernel
theorem dX4_pairMinutes_41 : decode cX4_pairMinutes 41 = .ok (.iload_n 2, 1) := by decide +kernel
theorem dX4_pairMinutes_42 : decode cX4_pairMinutes 42 = .ok (.iload 8, 2) := by decide +kernel
theorem dX4_pairMinutes_44 : decode cX4_pairMinutes 44 = .ok (.invokevirtual 92, 3) := by decide +kernel
theorem dX4_pairMinutes_47 : decode cX4_pairMinutes 47 = .ok (.istore 11, 2) := by decide +kernel
theorem dX4_pairMinutes_49 : decode cX4_pairMinutes 49 = .ok (.iload 6, 2) := by decide +kernel
theorem dX4_pairMinutes_51 : decode cX4_pairMinutes 51 = .ok (.aload_n 0, 1) := by decide +kernel
theorem dX4_pairMinutes_52 : decode cX4_pairMinutes 52 = .ok (.iload_n 1, 1) := by decide +kernel
theorem dX4_pairMinutes_53 : decode cX4_pairMinutes 53 = .ok (.iload 10, 2) := by decide +kernel
theorem dX4_pairMinutes_55 : decode cX4_pairMinutes 55 = .ok (.iload 9, 2) := by decide +kernel
theorem dX4_pairMinutes_57 : decode cX4_pairMinutes 57 = .ok (.iload 5, 2) := by decide +kernel
theorem dX4_pairMinutes_59 : decode cX4_pairMinutes 59 = .ok (.invokevirtual 251, 3) := by decide +kernel
theorem dX4_pairMinutes_62 : decode cX4_pairMinutes 62 = .ok (.aload_n 0, 1) := by decide +kernel
theorem dX4_pairMinutes_63 : decode cX4_pairMinutes 63 = .ok (.iload_n 2, 1) := by decide +kernel
theorem dX4_pairMinutes_64 : decode cX4_pairMinutes 64 = .ok (.iload 11, 2) := by decide +kernel
theorem dX4_pairMinutes_66 : decode cX4_pairMinutes 66 = .ok (.iload 9, 2) := by decide +kernel
theorem dX4_pairMinutes_68 : decode cX4_pairMinutes 68 = .ok (.iload 5, 2) := by decide +kernel
theorem dX4_pairMinutes_70 : decode cX4_pairMinutes 70 = .ok (.invokevirtual 251, 3) := by decide +kernel
theorem dX4_pairMinutes_73 : decode cX4_pairMinutes 73 = .ok (.invokestatic 246, 3) := by decide +kernel
theorem dX4_pairMinutes_76 : decode cX4_pairMinutes 76 = .ok (.iadd, 1) := by decide +kernel
theorem dX4_pairMinutes_77 : decode cX4_pairMinutes 77 = .ok (.istore 6, 2) := by decide +kernel
theorem dX4_pairMinutes_79 : decode cX4_pairMinutes 79 = .ok (.iload 6, 2) := by decide +kernel
theorem dX4_pairMinutes_81 : decode cX4_pairMinutes 81 = .ok (.iload 10, 2) := by decide +kernel
theorem dX4_pairMinutes_83 : decode cX4_pairMinutes 83 = .ok (.iload 11, 2) := by decide +kernel
theorem dX4_pairMinutes_85 : decode cX4_pairMinutes 85 = .ok (.if_icmp .ne 7, 3) := by decide +kernel
theorem dX4_pairMinutes_88 : decode cX4_pairMinutes 88 = .ok (.iconst 0, 1) := by decide +kernel
theorem dX4_pairMinutes_89 : decode cX4_pairMinutes 89 = .ok (.goto 4, 3) := by decide +kernel
theorem dX4_pairMinutes_92 : decode cX4_pairMinutes 92 = .ok (.iconst 1, 1) := by decide +kernel
theorem dX4_pairMinutes_93 : decode cX4_pairMinutes 93 = .ok (.iadd, 1) := by decide +kernel
theorem dX4_pairMinutes_94 : decode cX4_pairMinutes 94 = .ok (.istore 6, 2) := by decide +kernel
theorem dX4_pairMinutes_96 : decode cX4_pairMinutes 96 = .ok (.iload 7, 2) := by decide +kernel
theorem dX4_pairMinutes_98 : decode cX4_pairMinutes 98 = .ok (.iload 10, 2) := by decide +kernel
theorem dX4_pairMinutes_100 : decode cX4_pairMinutes 100 = .ok (.invokestatic 255, 3) := by decide +kernel
theorem dX4_pairMinutes_103 : decode cX4_pairMinutes 103 = .ok (.istore 7, 2) := by decide +kernel
theorem dX4_pairMinutes_105 : decode cX4_pairMinutes 105 = .ok (.iload 8, 2) := by decide +kernel
theorem dX4_pairMinutes_107 : decode cX4_pairMinutes 107 = .ok (.iload 11, 2) := by decide +kernel
theorem dX4_pairMinutes_109 : decode cX4_pairMinutes 109 = .ok (.invokestatic 255, 3) := by decide +kernel
theorem dX4_pairMinutes_112 : decode cX4_pairMinutes 112 = .ok (.istore 8, 2) := by decide +kernel
theorem dX4_pairMinutes_114 : decode cX4_pairMinutes 114 = .ok (.iinc 9 1, 3) := by decide +kernel
theorem dX4_pairMinutes_117 : decode cX4_pairMinutes 117 = .ok (.goto (-104), 3) := by decide +kernel
theorem dX4_pairMinutes_120 : decode cX4_pairMinutes 120 = .ok (.iload 6, 2) := by decide +kernel
theorem dX4_pairMinutes_122 : decode cX4_pairMinutes 122 = .ok (.ireturn, 1) := by decide +kernel
set_option maxRecDepth 20000 in
theorem ggX4_leastPair_X4_isIn : GoodIn wsX4_leastPair wsX4_isIn := goodIn_r _ [10] (by decide +kernel) (by decide +kernel)
set_option maxRecDepth 20000 in
theorem gX4_leastPair_X4_isIn : GoodIn wsX4_leastPair (va_wsS RX4 116 yX4_isIn wsX4_isIn) := goodIn_app (goodIn_of _ (by decide +kernel)) ggX4_leastPair_X4_isIn
set_option maxRecDepth 20000 in
theorem ggX4_leastPair_X4_pairMinutes : GoodIn wsX4_leastPair wsX4_pairMinutes := goodIn_r _ [14, 1, 2, 15, 16, 5, 17, 18, 19, 20, 21, 22, 23, 24, 9, 25, 26, 27, 28, 29, 30, 31, 32, 33, 34, 35, 36, 37, 38, 39, 40, 41, 42, 43, 44, 45, 46, 47, 48, 49, 50, 51, 52, 53, 54, 55, 56, 57, 58, 59, 60, 61, 62, 63] (by decide +kernel) (by decide +kernel)
set_option maxRecDepth 20000 in
theorem gX4_leastPair_X4_pairMinutes : GoodIn wsX4_leastPair (wsV RX4 124 RX4 yX4_pairMinutes wsX4_pairMinutes) := goodIn_app (goodIn_of _ (by decide +kernel)) ggX4_leastPair_X4_pairMinutes
theorem dX4_leastPair_0 : decode cX4_leastPair 0 = .ok (.bipush (-9), 2) := by decide +kernel
theorem dX4_leastPair_2 : decode cX4_leastPair 2 = .ok (.istore_n 2, 1) := by decide +kernel
theorem dX4_leastPair_3 : decode cX4_leastPair 3 = .ok (.iconst 0, 1) := by decide +kernel
theorem dX4_leastPair_4 : decode cX4_leastPair 4 = .ok (.istore_n 3, 1) := by decide +kernel
theorem dX4_leastPair_5 : decode cX4_leastPair 5 = .ok (.iload_n 3, 1) := by decide +kernel
theorem dX4_leastPair_6 : decode cX4_leastPair 6 = .ok (.aload_n 0, 1) := by decide +kernel
theorem dX4_leastPair_7 : decode cX4_leastPair 7 = .ok (.getfield 19, 3) := by decide +kernel
theorem dX4_leastPair_10 : decode cX4_leastPair 10 = .ok (.getfield 65, 3) := by decide +kernel
theorem dX4_leastPair_13 : decode cX4_leastPair 13 = .ok (.if_icmp .ge 100, 3) := by decide +kernel
theorem dX4_leastPair_16 : decode cX4_leastPair 16 = .ok (.iload_n 3, 1) := by decide +kernel
theorem dX4_leastPair_17 : decode cX4_leastPair 17 = .ok (.iconst 1, 1) := by decide +kernel
theorem dX4_leastPair_18 : decode cX4_leastPair 18 = .ok (.iadd, 1) := by decide +kernel
theorem dX4_leastPair_19 : decode cX4_leastPair 19 = .ok (.istore 4, 2) := by decide +kernel
theorem dX4_leastPair_21 : decode cX4_leastPair 21 = .ok (.iload 4, 2) := by decide +kernel
theorem dX4_leastPair_23 : decode cX4_leastPair 23 = .ok (.aload_n 0, 1) := by decide +kernel
theorem dX4_leastPair_24 : decode cX4_leastPair 24 = .ok (.getfield 19, 3) := by decide +kernel
theorem dX4_leastPair_27 : decode cX4_leastPair 27 = .ok (.getfield 65, 3) := by decide +kernel
theorem dX4_leastPair_30 : decode cX4_leastPair 30 = .ok (.if_icmp .ge 77, 3) := by decide +kernel
theorem dX4_leastPair_33 : decode cX4_leastPair 33 = .ok (.iload_n 1, 1) := by decide +kernel
theorem dX4_leastPair_34 : decode cX4_leastPair 34 = .ok (.iload_n 3, 1) := by decide +kernel
theorem dX4_leastPair_35 : decode cX4_leastPair 35 = .ok (.invokestatic 116, 3) := by decide +kernel
theorem dX4_leastPair_38 : decode cX4_leastPair 38 = .ok (.ifCond .eq 63, 3) := by decide +kernel
theorem dX4_leastPair_41 : decode cX4_leastPair 41 = .ok (.iload_n 1, 1) := by decide +kernel
theorem dX4_leastPair_42 : decode cX4_leastPair 42 = .ok (.iload 4, 2) := by decide +kernel
theorem dX4_leastPair_44 : decode cX4_leastPair 44 = .ok (.invokestatic 116, 3) := by decide +kernel
theorem dX4_leastPair_47 : decode cX4_leastPair 47 = .ok (.ifCond .eq 54, 3) := by decide +kernel
theorem dX4_leastPair_50 : decode cX4_leastPair 50 = .ok (.aload_n 0, 1) := by decide +kernel
theorem dX4_leastPair_51 : decode cX4_leastPair 51 = .ok (.iload_n 3, 1) := by decide +kernel
theorem dX4_leastPair_52 : decode cX4_leastPair 52 = .ok (.iload 4, 2) := by decide +kernel
theorem dX4_leastPair_54 : decode cX4_leastPair 54 = .ok (.iconst 0, 1) := by decide +kernel
theorem dX4_leastPair_55 : decode cX4_leastPair 55 = .ok (.iconst 0, 1) := by decide +kernel
theorem dX4_leastPair_56 : decode cX4_leastPair 56 = .ok (.aload_n 0, 1) := by decide +kernel
theorem dX4_leastPair_57 : decode cX4_leastPair 57 = .ok (.getfield 26, 3) := by decide +kernel
theorem dX4_leastPair_60 : decode cX4_leastPair 60 = .ok (.getfield 100, 3) := by decide +kernel
theorem dX4_leastPair_63 : decode cX4_leastPair 63 = .ok (.invokevirtual 124, 3) := by decide +kernel
theorem dX4_leastPair_66 : decode cX4_leastPair 66 = .ok (.istore 5, 2) := by decide +kernel
theorem dX4_leastPair_68 : decode cX4_leastPair 68 = .ok (.iload 5, 2) := by decide +kernel
theorem dX4_leastPair_70 : decode cX4_leastPair 70 = .ok (.bipush 100, 2) := by decide +kernel
theorem dX4_leastPair_72 : decode cX4_leastPair 72 = .ok (.imul, 1) := by decide +kernel
theorem dX4_leastPair_73 : decode cX4_leastPair 73 = .ok (.bipush 10, 2) := by decide +kernel
theorem dX4_leastPair_75 : decode cX4_leastPair 75 = .ok (.iload_n 3, 1) := by decide +kernel
theorem dX4_leastPair_76 : decode cX4_leastPair 76 = .ok (.imul, 1) := by decide +kernel
theorem dX4_leastPair_77 : decode cX4_leastPair 77 = .ok (.iadd, 1) := by decide +kernel
theorem dX4_leastPair_78 : decode cX4_leastPair 78 = .ok (.iload 4, 2) := by decide +kernel
theorem dX4_leastPair_80 : decode cX4_leastPair 80 = .ok (.iadd, 1) := by decide +kernel
theorem dX4_leastPair_81 : decode cX4_leastPair 81 = .ok (.istore 6, 2) := by decide +kernel
theorem dX4_leastPair_83 : decode cX4_leastPair 83 = .ok (.iload_n 2, 1) := by decide +kernel
theorem dX4_leastPair_84 : decode cX4_leastPair 84 = .ok (.bipush (-9), 2) := by decide +kernel
theorem dX4_leastPair_86 : decode cX4_leastPair 86 = .ok (.if_icmp .ne 8, 3) := by decide +kernel
theorem dX4_leastPair_89 : decode cX4_leastPair 89 = .ok (.iload 6, 2) := by decide +kernel
theorem dX4_leastPair_91 : decode cX4_leastPair 91 = .ok (.goto 9, 3) := by decide +kernel
theorem dX4_leastPair_94 : decode cX4_leastPair 94 = .ok (.iload_n 2, 1) := by decide +kernel
theorem dX4_leastPair_95 : decode cX4_leastPair 95 = .ok (.iload 6, 2) := by decide +kernel
theorem dX4_leastPair_97 : decode cX4_leastPair 97 = .ok (.invokestatic 258, 3) := by decide +kernel
theorem dX4_leastPair_100 : decode cX4_leastPair 100 = .ok (.istore_n 2, 1) := by decide +kernel
theorem dX4_leastPair_101 : decode cX4_leastPair 101 = .ok (.iinc 4 1, 3) := by decide +kernel
theorem dX4_leastPair_104 : decode cX4_leastPair 104 = .ok (.goto (-83), 3) := by decide +kernel
theorem dX4_leastPair_107 : decode cX4_leastPair 107 = .ok (.iinc 3 1, 3) := by decide +kernel
theorem dX4_leastPair_110 : decode cX4_leastPair 110 = .ok (.goto (-105), 3) := by decide +kernel
theorem dX4_leastPair_113 : decode cX4_leastPair 113 = .ok (.iload_n 2, 1) := by decide +kernel
theorem dX4_leastPair_114 : decode cX4_leastPair 114 = .ok (.ireturn, 1) := by decide +kernel
set_option maxRecDepth 20000 in
theorem ggX4_leastBegin_X4_pairMinutes : GoodIn wsX4_leastBegin wsX4_pairMinutes := goodIn_r _ [11, 12, 2, 13, 14, 5, 15, 16, 17, 18, 19, 20, 21, 22, 10, 23, 24, 25, 26, 27, 28, 29, 30, 31, 32, 33, 34, 35, 36, 37, 38, 39, 40, 41, 42, 43, 44, 45, 46, 47, 48, 49, 50, 51, 52, 57, 58, 59, 60, 61, 53, 54, 55, 56] (by decide +kernel) (by decide +kernel)
set_option maxRecDepth 20000 in
theorem gX4_leastBegin_X4_pairMinutes : GoodIn wsX4_leastBegin (wsV RX4 124 RX4 yX4_pairMinutes wsX4_pairMinutes) := goodIn_app (goodIn_of _ (by decide +kernel)) ggX4_leastBegin_X4_pairMinutes
theorem dX4_leastBegin_0 : decode cX4_leastBegin 0 = .ok (.ldc_w 261, 3) := by decide +kernel
theorem dX4_leastBegin_3 : decode cX4_leastBegin 3 = .ok (.istore_n 3, 1) := by decide +kernel
theorem dX4_leastBegin_4 : decode cX4_leastBegin 4 = .ok (.iconst 0, 1) := by decide +kernel
theorem dX4_leastBegin_5 : decode cX4_leastBegin 5 = .ok (.istore 4, 2) := by decide +kernel
theorem dX4_leastBegin_7 : decode cX4_leastBegin 7 = .ok (.iload 4, 2) := by decide +kernel
theorem dX4_leastBegin_9 : decode cX4_leastBegin 9 = .ok (.iconst 4, 1) := by decide +kernel
theorem dX4_leastBegin_10 : decode cX4_leastBegin 10 = .ok (.if_icmp .ge 62, 3) := by decide +kernel
theorem dX4_leastBegin_13 : decode cX4_leastBegin 13 = .ok (.iconst 0, 1) := by decide +kernel
theorem dX4_leastBegin_14 : decode cX4_leastBegin 14 = .ok (.istore 5, 2) := by decide +kernel
theorem dX4_leastBegin_16 : decode cX4_leastBegin 16 = .ok (.iload 5, 2) := by decide +kernel
theorem dX4_leastBegin_18 : decode cX4_leastBegin 18 = .ok (.iconst 4, 1) := by decide +kernel
theorem dX4_leastBegin_19 : decode cX4_leastBegin 19 = .ok (.if_icmp .ge 47, 3) := by decide +kernel
theorem dX4_leastBegin_22 : decode cX4_leastBegin 22 = .ok (.aload_n 0, 1) := by decide +kernel
theorem dX4_leastBegin_23 : decode cX4_leastBegin 23 = .ok (.iload_n 1, 1) := by decide +kernel
theorem dX4_leastBegin_24 : decode cX4_leastBegin 24 = .ok (.iload_n 2, 1) := by decide +kernel
theorem dX4_leastBegin_25 : decode cX4_leastBegin 25 = .ok (.iload 4, 2) := by decide +kernel
theorem dX4_leastBegin_27 : decode cX4_leastBegin 27 = .ok (.iload 5, 2) := by decide +kernel
theorem dX4_leastBegin_29 : decode cX4_leastBegin 29 = .ok (.aload_n 0, 1) := by decide +kernel
theorem dX4_leastBegin_30 : decode cX4_leastBegin 30 = .ok (.getfield 26, 3) := by decide +kernel
theorem dX4_leastBegin_33 : decode cX4_leastBegin 33 = .ok (.getfield 100, 3) := by decide +kernel
theorem dX4_leastBegin_36 : decode cX4_leastBegin 36 = .ok (.invokevirtual 124, 3) := by decide +kernel
theorem dX4_leastBegin_39 : decode cX4_leastBegin 39 = .ok (.istore 6, 2) := by decide +kernel
theorem dX4_leastBegin_41 : decode cX4_leastBegin 41 = .ok (.iload_n 3, 1) := by decide +kernel
theorem dX4_leastBegin_42 : decode cX4_leastBegin 42 = .ok (.iload 6, 2) := by decide +kernel
theorem dX4_leastBegin_44 : decode cX4_leastBegin 44 = .ok (.bipush 100, 2) := by decide +kernel
theorem dX4_leastBegin_46 : decode cX4_leastBegin 46 = .ok (.imul, 1) := by decide +kernel
theorem dX4_leastBegin_47 : decode cX4_leastBegin 47 = .ok (.bipush 10, 2) := by decide +kernel
theorem dX4_leastBegin_49 : decode cX4_leastBegin 49 = .ok (.iload 4, 2) := by decide +kernel
theorem dX4_leastBegin_51 : decode cX4_leastBegin 51 = .ok (.imul, 1) := by decide +kernel
theorem dX4_leastBegin_52 : decode cX4_leastBegin 52 = .ok (.iadd, 1) := by decide +kernel
theorem dX4_leastBegin_53 : decode cX4_leastBegin 53 = .ok (.iload 5, 2) := by decide +kernel
theorem dX4_leastBegin_55 : decode cX4_leastBegin 55 = .ok (.iadd, 1) := by decide +kernel
theorem dX4_leastBegin_56 : decode cX4_leastBegin 56 = .ok (.invokestatic 258, 3) := by decide +kernel
theorem dX4_leastBegin_59 : decode cX4_leastBegin 59 = .ok (.istore_n 3, 1) := by decide +kernel
theorem dX4_leastBegin_60 : decode cX4_leastBegin 60 = .ok (.iinc 5 1, 3) := by decide +kernel
theorem dX4_leastBegin_63 : decode cX4_leastBegin 63 = .ok (.goto (-47), 3) := by decide +kernel
theorem dX4_leastBegin_66 : decode cX4_leastBegin 66 = .ok (.iinc 4 1, 3) := by decide +kernel
theorem dX4_leastBegin_69 : decode cX4_leastBegin 69 = .ok (.goto (-62), 3) := by decide +kernel
theorem dX4_leastBegin_72 : decode cX4_leastBegin 72 = .ok (.iload_n 3, 1) := by decide +kernel
theorem dX4_leastBegin_73 : decode cX4_leastBegin 73 = .ok (.ireturn, 1) := by decide +kernel
set_option maxRecDepth 20000 in
theorem ggX4_soonestLegs_X1_allBoats : GoodIn wsX4_soonestLegs wsX1_allBoats := goodIn_r _ [9, 10, 82, 83, 84, 85, 86] (by decide +kernel) (by decide +kernel)
set_option maxRecDepth 20000 in
theorem gX4_soonestLegs_X1_allBoats : GoodIn wsX4_soonestLegs (wsV RX4 262 RX1 yX1_allBoats wsX1_allBoats) := goodIn_app (goodIn_of _ (by decide +kernel)) ggX4_soonestLegs_X1_allBoats
set_option maxRecDepth 20000 in
theorem ggX4_soonestLegs_X4_leastLegs : GoodIn wsX4_soonestLegs wsX4_leastLegs := goodIn_r _ [15, 16, 1, 17, 18, 19, 20, 2, 21, 22, 14, 23, 11, 12, 13, 24, 25, 26, 27, 28, 29, 30, 31, 32, 33, 34, 35, 36, 37, 38, 39, 40, 41, 42, 43, 44, 45, 46, 47, 48, 8, 49, 50, 51, 52, 53, 54, 55, 56, 57, 58, 59, 60, 61, 62, 63, 64, 65, 66, 67, 68, 69, 70, 71, 72, 73, 74, 75, 76, 77, 82, 83, 84, 85, 86, 78, 79, 80, 81] (by decide +kernel) (by decide +kernel)
set_option maxRecDepth 20000 in
theorem gX4_soonestLegs_X4_leastLegs : GoodIn wsX4_soonestLegs (wsV RX4 269 RX4 yX4_leastLegs wsX4_leastLegs) := goodIn_app (goodIn_of _ (by decide +kernel)) ggX4_soonestLegs_X4_leastLegs
theorem dX4_soonestLegs_0 : decode cX4_soonestLegs 0 = .ok (.aload_n 0, 1) := by decide +kernel
theorem dX4_soonestLegs_1 : decode cX4_soonestLegs 1 = .ok (.getfield 19, 3) := by decide +kernel
theorem dX4_soonestLegs_4 : decode cX4_soonestLegs 4 = .ok (.invokevirtual 262, 3) := by decide +kernel
theorem dX4_soonestLegs_7 : decode cX4_soonestLegs 7 = .ok (.aload_n 0, 1) := by decide +kernel
theorem dX4_soonestLegs_8 : decode cX4_soonestLegs 8 = .ok (.getfield 26, 3) := by decide +kernel
theorem dX4_soonestLegs_11 : decode cX4_soonestLegs 11 = .ok (.getfield 74, 3) := by decide +kernel
theorem dX4_soonestLegs_14 : decode cX4_soonestLegs 14 = .ok (.iconst (-1), 1) := by decide +kernel
theorem dX4_soonestLegs_15 : decode cX4_soonestLegs 15 = .ok (.ixor, 1) := by decide +kernel
theorem dX4_soonestLegs_16 : decode cX4_soonestLegs 16 = .ok (.iand, 1) := by decide +kernel
theorem dX4_soonestLegs_17 : decode cX4_soonestLegs 17 = .ok (.istore_n 1, 1) := by decide +kernel
theorem dX4_soonestLegs_18 : decode cX4_soonestLegs 18 = .ok (.iload_n 1, 1) := by decide +kernel
theorem dX4_soonestLegs_19 : decode cX4_soonestLegs 19 = .ok (.ifCond .eq 18, 3) := by decide +kernel
theorem dX4_soonestLegs_22 : decode cX4_soonestLegs 22 = .ok (.aload_n 0, 1) := by decide +kernel
theorem dX4_soonestLegs_23 : decode cX4_soonestLegs 23 = .ok (.getfield 19, 3) := by decide +kernel
theorem dX4_soonestLegs_26 : decode cX4_soonestLegs 26 = .ok (.getfield 65, 3) := by decide +kernel
theorem dX4_soonestLegs_29 : decode cX4_soonestLegs 29 = .ok (.iconst 2, 1) := by decide +kernel
theorem dX4_soonestLegs_30 : decode cX4_soonestLegs 30 = .ok (.if_icmp .ge 7, 3) := by decide +kernel
theorem dX4_soonestLegs_33 : decode cX4_soonestLegs 33 = .ok (.ldc2_w 160, 3) := by decide +kernel
theorem dX4_soonestLegs_36 : decode cX4_soonestLegs 36 = .ok (.lreturn, 1) := by decide +kernel
theorem dX4_soonestLegs_37 : decode cX4_soonestLegs 37 = .ok (.aload_n 0, 1) := by decide +kernel
theorem dX4_soonestLegs_38 : decode cX4_soonestLegs 38 = .ok (.iconst 0, 1) := by decide +kernel
theorem dX4_soonestLegs_39 : decode cX4_soonestLegs 39 = .ok (.aload_n 0, 1) := by decide +kernel
theorem dX4_soonestLegs_40 : decode cX4_soonestLegs 40 = .ok (.getfield 26, 3) := by decide +kernel
theorem dX4_soonestLegs_43 : decode cX4_soonestLegs 43 = .ok (.getfield 100, 3) := by decide +kernel
end
section
theorem dX4_soonestLegs_46 : decode cX4_soonestLegs 46 = .ok (.iconst 0, 1) := by decide +kernel
theorem dX4_soonestLegs_47 : decode cX4_soonestLegs 47 = .ok (.iconst 0, 1) := by decide +kernel
theorem dX4_soonestLegs_48 : decode cX4_soonestLegs 48 = .ok (.ldc2_w 267, 3) := by decide +kernel
theorem dX4_soonestLegs_51 : decode cX4_soonestLegs 51 = .ok (.invokevirtual 269, 3) := by decide +kernel
theorem dX4_soonestLegs_54 : decode cX4_soonestLegs 54 = .ok (.lreturn, 1) := by decide +kernel
set_option maxRecDepth 20000 in
theorem ggX4_leastLegs_X4_isIn : GoodIn wsX4_leastLegs wsX4_isIn := goodIn_r _ [11] (by decide +kernel) (by decide +kernel)
set_option maxRecDepth 20000 in
theorem gX4_leastLegs_X4_isIn : GoodIn wsX4_leastLegs (va_wsS RX4 116 yX4_isIn wsX4_isIn) := goodIn_app (goodIn_of _ (by decide +kernel)) ggX4_leastLegs_X4_isIn
set_option maxRecDepth 20000 in
theorem ggX4_leastLegs_X4_leastLegs : GoodIn wsX4_leastLegs wsX4_leastLegs := goodIn_r _ [0, 1, 2, 3, 4, 5, 6, 7, 8, 9, 10, 11, 12, 13, 14, 15, 16, 17, 18, 19, 20, 21, 22, 23, 24, 25, 26, 27, 28, 29, 30, 31, 32, 33, 34, 35, 36, 37, 38, 39, 40, 41, 42, 43, 44, 45, 46, 47, 48, 49, 50, 51, 52, 53, 54, 55, 56, 57, 58, 59, 60, 61, 62, 63, 64, 65, 66, 67, 68, 69, 70, 71, 72, 73, 74, 75, 76, 77, 78] (by decide +kernel) (by decide +kernel)
set_option maxRecDepth 20000 in
theorem gX4_leastLegs_X4_leastLegs : GoodIn wsX4_leastLegs (wsV RX4 269 RX4 yX4_leastLegs wsX4_leastLegs) := goodIn_app (goodIn_of _ (by decide +kernel)) ggX4_leastLegs_X4_leastLegs
set_option maxRecDepth 20000 in
theorem ggX4_leastLegs_X4_pairMinutes : GoodIn wsX4_leastLegs wsX4_pairMinutes := goodIn_r _ [18, 2, 7, 19, 20, 5, 21, 22, 23, 24, 25, 26, 27, 28, 10, 29, 30, 31, 32, 33, 34, 35, 36, 37, 38, 39, 40, 41, 42, 43, 44, 45, 46, 47, 48, 60, 61, 62, 63, 64, 65, 66, 67, 68, 69, 70, 71, 72, 73, 74, 75, 76, 77, 78] (by decide +kernel) (by decide +kernel)
set_option maxRecDepth 20000 in
theorem gX4_leastLegs_X4_pairMinutes : GoodIn wsX4_leastLegs (wsV RX4 124 RX4 yX4_pairMinutes wsX4_pairMinutes) := goodIn_app (goodIn_of _ (by decide +kernel)) ggX4_leastLegs_X4_pairMinutes
set_option maxRecDepth 20000 in
theorem ggX4_leastLegs_X1_loadOf : GoodIn wsX4_leastLegs wsX1_loadOf := goodIn_r _ [52, 53, 70, 71, 72, 73, 74] (by decide +kernel) (by decide +kernel)
set_option maxRecDepth 20000 in
theorem gX4_leastLegs_X1_loadOf : GoodIn wsX4_leastLegs (wsV RX4 109 RX1 yX1_loadOf wsX1_loadOf) := goodIn_app (goodIn_of _ (by decide +kernel)) ggX4_leastLegs_X1_loadOf
set_option maxRecDepth 20000 in
theorem ggX4_leastLegs_X4_tireBoth : GoodIn wsX4_leastLegs wsX4_tireBoth := goodIn_r _ [56, 57, 58, 10, 59, 43, 44, 45] (by decide +kernel) (by decide +kernel)
set_option maxRecDepth 20000 in
theorem gX4_leastLegs_X4_tireBoth : GoodIn wsX4_leastLegs (va_wsS RX4 128 yX4_tireBoth wsX4_tireBoth) := goodIn_app (goodIn_of _ (by decide +kernel)) ggX4_leastLegs_X4_tireBoth
theorem dX4_leastLegs_0 : decode cX4_leastLegs 0 = .ok (.iload_n 3, 1) := by decide +kernel
theorem dX4_leastLegs_1 : decode cX4_leastLegs 1 = .ok (.i2l, 1) := by decide +kernel
theorem dX4_leastLegs_2 : decode cX4_leastLegs 2 = .ok (.ldc2_w 162, 3) := by decide +kernel
theorem dX4_leastLegs_5 : decode cX4_leastLegs 5 = .ok (.lmul, 1) := by decide +kernel
theorem dX4_leastLegs_6 : decode cX4_leastLegs 6 = .ok (.lstore 7, 2) := by decide +kernel
theorem dX4_leastLegs_8 : decode cX4_leastLegs 8 = .ok (.lload 7, 2) := by decide +kernel
theorem dX4_leastLegs_10 : decode cX4_leastLegs 10 = .ok (.lload 5, 2) := by decide +kernel
theorem dX4_leastLegs_12 : decode cX4_leastLegs 12 = .ok (.lcmp, 1) := by decide +kernel
theorem dX4_leastLegs_13 : decode cX4_leastLegs 13 = .ok (.ifCond .lt 6, 3) := by decide +kernel
theorem dX4_leastLegs_16 : decode cX4_leastLegs 16 = .ok (.lload 5, 2) := by decide +kernel
theorem dX4_leastLegs_18 : decode cX4_leastLegs 18 = .ok (.lreturn, 1) := by decide +kernel
theorem dX4_leastLegs_19 : decode cX4_leastLegs 19 = .ok (.iload_n 1, 1) := by decide +kernel
theorem dX4_leastLegs_20 : decode cX4_leastLegs 20 = .ok (.aload_n 0, 1) := by decide +kernel
theorem dX4_leastLegs_21 : decode cX4_leastLegs 21 = .ok (.getfield 19, 3) := by decide +kernel
theorem dX4_leastLegs_24 : decode cX4_leastLegs 24 = .ok (.getfield 68, 3) := by decide +kernel
theorem dX4_leastLegs_27 : decode cX4_leastLegs 27 = .ok (.if_icmp .lt 15, 3) := by decide +kernel
theorem dX4_leastLegs_30 : decode cX4_leastLegs 30 = .ok (.lload 5, 2) := by decide +kernel
theorem dX4_leastLegs_32 : decode cX4_leastLegs 32 = .ok (.lload 7, 2) := by decide +kernel
theorem dX4_leastLegs_34 : decode cX4_leastLegs 34 = .ok (.iload 4, 2) := by decide +kernel
theorem dX4_leastLegs_36 : decode cX4_leastLegs 36 = .ok (.i2l, 1) := by decide +kernel
theorem dX4_leastLegs_37 : decode cX4_leastLegs 37 = .ok (.ladd, 1) := by decide +kernel
theorem dX4_leastLegs_38 : decode cX4_leastLegs 38 = .ok (.invokestatic 273, 3) := by decide +kernel
theorem dX4_leastLegs_41 : decode cX4_leastLegs 41 = .ok (.lreturn, 1) := by decide +kernel
theorem dX4_leastLegs_42 : decode cX4_leastLegs 42 = .ok (.aload_n 0, 1) := by decide +kernel
theorem dX4_leastLegs_43 : decode cX4_leastLegs 43 = .ok (.getfield 26, 3) := by decide +kernel
theorem dX4_leastLegs_46 : decode cX4_leastLegs 46 = .ok (.getfield 74, 3) := by decide +kernel
theorem dX4_leastLegs_49 : decode cX4_leastLegs 49 = .ok (.iload_n 1, 1) := by decide +kernel
theorem dX4_leastLegs_50 : decode cX4_leastLegs 50 = .ok (.invokestatic 116, 3) := by decide +kernel
theorem dX4_leastLegs_53 : decode cX4_leastLegs 53 = .ok (.ifCond .eq 17, 3) := by decide +kernel
theorem dX4_leastLegs_56 : decode cX4_leastLegs 56 = .ok (.aload_n 0, 1) := by decide +kernel
theorem dX4_leastLegs_57 : decode cX4_leastLegs 57 = .ok (.iload_n 1, 1) := by decide +kernel
theorem dX4_leastLegs_58 : decode cX4_leastLegs 58 = .ok (.iconst 1, 1) := by decide +kernel
theorem dX4_leastLegs_59 : decode cX4_leastLegs 59 = .ok (.iadd, 1) := by decide +kernel
theorem dX4_leastLegs_60 : decode cX4_leastLegs 60 = .ok (.iload_n 2, 1) := by decide +kernel
theorem dX4_leastLegs_61 : decode cX4_leastLegs 61 = .ok (.iload_n 3, 1) := by decide +kernel
theorem dX4_leastLegs_62 : decode cX4_leastLegs 62 = .ok (.iload 4, 2) := by decide +kernel
theorem dX4_leastLegs_64 : decode cX4_leastLegs 64 = .ok (.lload 5, 2) := by decide +kernel
theorem dX4_leastLegs_66 : decode cX4_leastLegs 66 = .ok (.invokevirtual 269, 3) := by decide +kernel
theorem dX4_leastLegs_69 : decode cX4_leastLegs 69 = .ok (.lreturn, 1) := by decide +kernel
theorem dX4_leastLegs_70 : decode cX4_leastLegs 70 = .ok (.lload 5, 2) := by decide +kernel
theorem dX4_leastLegs_72 : decode cX4_leastLegs 72 = .ok (.lstore 9, 2) := by decide +kernel
theorem dX4_leastLegs_74 : decode cX4_leastLegs 74 = .ok (.iconst 0, 1) := by decide +kernel
theorem dX4_leastLegs_75 : decode cX4_leastLegs 75 = .ok (.istore 11, 2) := by decide +kernel
theorem dX4_leastLegs_77 : decode cX4_leastLegs 77 = .ok (.iload 11, 2) := by decide +kernel
theorem dX4_leastLegs_79 : decode cX4_leastLegs 79 = .ok (.aload_n 0, 1) := by decide +kernel
theorem dX4_leastLegs_80 : decode cX4_leastLegs 80 = .ok (.getfield 19, 3) := by decide +kernel
theorem dX4_leastLegs_83 : decode cX4_leastLegs 83 = .ok (.getfield 65, 3) := by decide +kernel
theorem dX4_leastLegs_86 : decode cX4_leastLegs 86 = .ok (.if_icmp .ge 102, 3) := by decide +kernel
theorem dX4_leastLegs_89 : decode cX4_leastLegs 89 = .ok (.iload 11, 2) := by decide +kernel
theorem dX4_leastLegs_91 : decode cX4_leastLegs 91 = .ok (.iconst 1, 1) := by decide +kernel
theorem dX4_leastLegs_92 : decode cX4_leastLegs 92 = .ok (.iadd, 1) := by decide +kernel
theorem dX4_leastLegs_93 : decode cX4_leastLegs 93 = .ok (.istore 12, 2) := by decide +kernel
theorem dX4_leastLegs_95 : decode cX4_leastLegs 95 = .ok (.iload 12, 2) := by decide +kernel
theorem dX4_leastLegs_97 : decode cX4_leastLegs 97 = .ok (.aload_n 0, 1) := by decide +kernel
theorem dX4_leastLegs_98 : decode cX4_leastLegs 98 = .ok (.getfield 19, 3) := by decide +kernel
theorem dX4_leastLegs_101 : decode cX4_leastLegs 101 = .ok (.getfield 65, 3) := by decide +kernel
theorem dX4_leastLegs_104 : decode cX4_leastLegs 104 = .ok (.if_icmp .ge 78, 3) := by decide +kernel
theorem dX4_leastLegs_107 : decode cX4_leastLegs 107 = .ok (.iload_n 3, 1) := by decide +kernel
theorem dX4_leastLegs_108 : decode cX4_leastLegs 108 = .ok (.aload_n 0, 1) := by decide +kernel
theorem dX4_leastLegs_109 : decode cX4_leastLegs 109 = .ok (.iload 11, 2) := by decide +kernel
theorem dX4_leastLegs_111 : decode cX4_leastLegs 111 = .ok (.iload 12, 2) := by decide +kernel
theorem dX4_leastLegs_113 : decode cX4_leastLegs 113 = .ok (.iconst 0, 1) := by decide +kernel
theorem dX4_leastLegs_114 : decode cX4_leastLegs 114 = .ok (.iconst 0, 1) := by decide +kernel
theorem dX4_leastLegs_115 : decode cX4_leastLegs 115 = .ok (.iload_n 2, 1) := by decide +kernel
theorem dX4_leastLegs_116 : decode cX4_leastLegs 116 = .ok (.invokevirtual 124, 3) := by decide +kernel
theorem dX4_leastLegs_119 : decode cX4_leastLegs 119 = .ok (.iadd, 1) := by decide +kernel
theorem dX4_leastLegs_120 : decode cX4_leastLegs 120 = .ok (.aload_n 0, 1) := by decide +kernel
theorem dX4_leastLegs_121 : decode cX4_leastLegs 121 = .ok (.getfield 19, 3) := by decide +kernel
theorem dX4_leastLegs_124 : decode cX4_leastLegs 124 = .ok (.iload_n 1, 1) := by decide +kernel
theorem dX4_leastLegs_125 : decode cX4_leastLegs 125 = .ok (.invokevirtual 109, 3) := by decide +kernel
theorem dX4_leastLegs_128 : decode cX4_leastLegs 128 = .ok (.iadd, 1) := by decide +kernel
theorem dX4_leastLegs_129 : decode cX4_leastLegs 129 = .ok (.istore 13, 2) := by decide +kernel
theorem dX4_leastLegs_131 : decode cX4_leastLegs 131 = .ok (.iload 4, 2) := by decide +kernel
theorem dX4_leastLegs_133 : decode cX4_leastLegs 133 = .ok (.sipush 1000, 3) := by decide +kernel
theorem dX4_leastLegs_136 : decode cX4_leastLegs 136 = .ok (.imul, 1) := by decide +kernel
theorem dX4_leastLegs_137 : decode cX4_leastLegs 137 = .ok (.bipush 100, 2) := by decide +kernel
theorem dX4_leastLegs_139 : decode cX4_leastLegs 139 = .ok (.iload_n 1, 1) := by decide +kernel
theorem dX4_leastLegs_140 : decode cX4_leastLegs 140 = .ok (.imul, 1) := by decide +kernel
theorem dX4_leastLegs_141 : decode cX4_leastLegs 141 = .ok (.iadd, 1) := by decide +kernel
theorem dX4_leastLegs_142 : decode cX4_leastLegs 142 = .ok (.bipush 10, 2) := by decide +kernel
theorem dX4_leastLegs_144 : decode cX4_leastLegs 144 = .ok (.iload 11, 2) := by decide +kernel
theorem dX4_leastLegs_146 : decode cX4_leastLegs 146 = .ok (.imul, 1) := by decide +kernel
theorem dX4_leastLegs_147 : decode cX4_leastLegs 147 = .ok (.iadd, 1) := by decide +kernel
theorem dX4_leastLegs_148 : decode cX4_leastLegs 148 = .ok (.iload 12, 2) := by decide +kernel
theorem dX4_leastLegs_150 : decode cX4_leastLegs 150 = .ok (.iadd, 1) := by decide +kernel
theorem dX4_leastLegs_151 : decode cX4_leastLegs 151 = .ok (.istore 14, 2) := by decide +kernel
theorem dX4_leastLegs_153 : decode cX4_leastLegs 153 = .ok (.aload_n 0, 1) := by decide +kernel
theorem dX4_leastLegs_154 : decode cX4_leastLegs 154 = .ok (.iload_n 1, 1) := by decide +kernel
theorem dX4_leastLegs_155 : decode cX4_leastLegs 155 = .ok (.iconst 1, 1) := by decide +kernel
theorem dX4_leastLegs_156 : decode cX4_leastLegs 156 = .ok (.iadd, 1) := by decide +kernel
theorem dX4_leastLegs_157 : decode cX4_leastLegs 157 = .ok (.iload_n 2, 1) := by decide +kernel
theorem dX4_leastLegs_158 : decode cX4_leastLegs 158 = .ok (.iload 11, 2) := by decide +kernel
theorem dX4_leastLegs_160 : decode cX4_leastLegs 160 = .ok (.iload 12, 2) := by decide +kernel
theorem dX4_leastLegs_162 : decode cX4_leastLegs 162 = .ok (.invokestatic 128, 3) := by decide +kernel
theorem dX4_leastLegs_165 : decode cX4_leastLegs 165 = .ok (.iload 13, 2) := by decide +kernel
theorem dX4_leastLegs_167 : decode cX4_leastLegs 167 = .ok (.iload 14, 2) := by decide +kernel
theorem dX4_leastLegs_169 : decode cX4_leastLegs 169 = .ok (.lload 9, 2) := by decide +kernel
theorem dX4_leastLegs_171 : decode cX4_leastLegs 171 = .ok (.invokevirtual 269, 3) := by decide +kernel
theorem dX4_leastLegs_174 : decode cX4_leastLegs 174 = .ok (.lstore 9, 2) := by decide +kernel
theorem dX4_leastLegs_176 : decode cX4_leastLegs 176 = .ok (.iinc 12 1, 3) := by decide +kernel
theorem dX4_leastLegs_179 : decode cX4_leastLegs 179 = .ok (.goto (-84), 3) := by decide +kernel
theorem dX4_leastLegs_182 : decode cX4_leastLegs 182 = .ok (.iinc 11 1, 3) := by decide +kernel
theorem dX4_leastLegs_185 : decode cX4_leastLegs 185 = .ok (.goto (-108), 3) := by decide +kernel
theorem dX4_leastLegs_188 : decode cX4_leastLegs 188 = .ok (.lload 9, 2) := by decide +kernel
theorem dX4_leastLegs_190 : decode cX4_leastLegs 190 = .ok (.lreturn, 1) := by decide +kernel
set_option maxRecDepth 20000 in
theorem ggX4_worth_X4_leastPair : GoodIn wsX4_worth wsX4_leastPair := goodIn_r _ [6, 1, 7, 8, 9, 10, 11, 12, 13, 5, 14, 15, 16, 17, 18, 19, 20, 21, 22, 23, 24, 25, 26, 27, 28, 29, 30, 31, 32, 33, 34, 35, 36, 37, 38, 39, 40, 41, 42, 43, 44, 45, 46, 47, 48, 54, 55, 56, 57, 58, 59, 60, 61, 62, 63, 64, 65, 66, 67, 68, 69, 70, 71, 72] (by decide +kernel) (by decide +kernel)
set_option maxRecDepth 20000 in
theorem gX4_worth_X4_leastPair : GoodIn wsX4_worth (wsV RX4 150 RX4 yX4_leastPair wsX4_leastPair) := goodIn_app (goodIn_of _ (by decide +kernel)) ggX4_worth_X4_leastPair
set_option maxRecDepth 20000 in
theorem ggX4_worth_X1_loadOf : GoodIn wsX4_worth wsX1_loadOf := goodIn_r _ [52, 53, 64, 65, 66, 67, 68] (by decide +kernel) (by decide +kernel)
set_option maxRecDepth 20000 in
theorem gX4_worth_X1_loadOf : GoodIn wsX4_worth (wsV RX4 109 RX1 yX1_loadOf wsX1_loadOf) := goodIn_app (goodIn_of _ (by decide +kernel)) ggX4_worth_X1_loadOf
theorem dX4_worth_0 : decode cX4_worth 0 = .ok (.aload_n 0, 1) := by decide +kernel
theorem dX4_worth_1 : decode cX4_worth 1 = .ok (.iload_n 2, 1) := by decide +kernel
theorem dX4_worth_2 : decode cX4_worth 2 = .ok (.invokevirtual 150, 3) := by decide +kernel
theorem dX4_worth_5 : decode cX4_worth 5 = .ok (.istore_n 3, 1) := by decide +kernel
theorem dX4_worth_6 : decode cX4_worth 6 = .ok (.iload_n 3, 1) := by decide +kernel
theorem dX4_worth_7 : decode cX4_worth 7 = .ok (.bipush (-9), 2) := by decide +kernel
theorem dX4_worth_9 : decode cX4_worth 9 = .ok (.if_icmp .ne 7, 3) := by decide +kernel
theorem dX4_worth_12 : decode cX4_worth 12 = .ok (.iconst 0, 1) := by decide +kernel
theorem dX4_worth_13 : decode cX4_worth 13 = .ok (.goto 20, 3) := by decide +kernel
theorem dX4_worth_16 : decode cX4_worth 16 = .ok (.sipush 200, 3) := by decide +kernel
theorem dX4_worth_19 : decode cX4_worth 19 = .ok (.iload_n 3, 1) := by decide +kernel
theorem dX4_worth_20 : decode cX4_worth 20 = .ok (.bipush 100, 2) := by decide +kernel
theorem dX4_worth_22 : decode cX4_worth 22 = .ok (.idiv, 1) := by decide +kernel
theorem dX4_worth_23 : decode cX4_worth 23 = .ok (.isub, 1) := by decide +kernel
theorem dX4_worth_24 : decode cX4_worth 24 = .ok (.aload_n 0, 1) := by decide +kernel
theorem dX4_worth_25 : decode cX4_worth 25 = .ok (.getfield 19, 3) := by decide +kernel
theorem dX4_worth_28 : decode cX4_worth 28 = .ok (.iload_n 1, 1) := by decide +kernel
theorem dX4_worth_29 : decode cX4_worth 29 = .ok (.invokevirtual 109, 3) := by decide +kernel
theorem dX4_worth_32 : decode cX4_worth 32 = .ok (.isub, 1) := by decide +kernel
theorem dX4_worth_33 : decode cX4_worth 33 = .ok (.ireturn, 1) := by decide +kernel
set_option maxRecDepth 20000 in
theorem ggX4_ordersBehind_X4_factorial : GoodIn wsX4_ordersBehind wsX4_factorial := goodIn_r _ [5] (by decide +kernel) (by decide +kernel)
set_option maxRecDepth 20000 in
theorem gX4_ordersBehind_X4_factorial : GoodIn wsX4_ordersBehind (va_wsS RX4 178 yX4_factorial wsX4_factorial) := goodIn_app (goodIn_of _ (by decide +kernel)) ggX4_ordersBehind_X4_factorial
theorem dX4_ordersBehind_0 : decode cX4_ordersBehind 0 = .ok (.iload_n 1, 1) := by decide +kernel
theorem dX4_ordersBehind_1 : decode cX4_ordersBehind 1 = .ok (.invokestatic 178, 3) := by decide +kernel
theorem dX4_ordersBehind_4 : decode cX4_ordersBehind 4 = .ok (.aload_n 0, 1) := by decide +kernel
theorem dX4_ordersBehind_5 : decode cX4_ordersBehind 5 = .ok (.getfield 19, 3) := by decide +kernel
theorem dX4_ordersBehind_8 : decode cX4_ordersBehind 8 = .ok (.getfield 65, 3) := by decide +kernel
theorem dX4_ordersBehind_11 : decode cX4_ordersBehind 11 = .ok (.iconst 1, 1) := by decide +kernel
theorem dX4_ordersBehind_12 : decode cX4_ordersBehind 12 = .ok (.isub, 1) := by decide +kernel
theorem dX4_ordersBehind_13 : decode cX4_ordersBehind 13 = .ok (.iload_n 1, 1) := by decide +kernel
theorem dX4_ordersBehind_14 : decode cX4_ordersBehind 14 = .ok (.isub, 1) := by decide +kernel
theorem dX4_ordersBehind_15 : decode cX4_ordersBehind 15 = .ok (.invokestatic 178, 3) := by decide +kernel
theorem dX4_ordersBehind_18 : decode cX4_ordersBehind 18 = .ok (.imul, 1) := by decide +kernel
theorem dX4_ordersBehind_19 : decode cX4_ordersBehind 19 = .ok (.ireturn, 1) := by decide +kernel
set_option maxRecDepth 20000 in
theorem ggX4_isAsSeen_X4_groundIn : GoodIn wsX4_isAsSeen wsX4_groundIn := goodIn_r _ [5] (by decide +kernel) (by decide +kernel)
set_option maxRecDepth 20000 in
theorem gX4_isAsSeen_X4_groundIn : GoodIn wsX4_isAsSeen (va_wsS RX4 191 yX4_groundIn wsX4_groundIn) := goodIn_app (goodIn_of _ (by decide +kernel)) ggX4_isAsSeen_X4_groundIn
set_option maxRecDepth 20000 in
theorem ggX4_isAsSeen_X4_minutesOver : GoodIn wsX4_isAsSeen wsX4_minutesOver := goodIn_r _ [8] (by decide +kernel) (by decide +kernel)
set_option maxRecDepth 20000 in
theorem gX4_isAsSeen_X4_minutesOver : GoodIn wsX4_isAsSeen (va_wsS RX4 243 yX4_minutesOver wsX4_minutesOver) := goodIn_app (goodIn_of _ (by decide +kernel)) ggX4_isAsSeen_X4_minutesOver
set_option maxRecDepth 20000 in
theorem ggX4_isAsSeen_X4_placeBehind : GoodIn wsX4_isAsSeen wsX4_placeBehind := goodIn_r _ [11] (by decide +kernel) (by decide +kernel)
set_option maxRecDepth 20000 in
theorem gX4_isAsSeen_X4_placeBehind : GoodIn wsX4_isAsSeen (va_wsS RX4 255 yX4_placeBehind wsX4_placeBehind) := goodIn_app (goodIn_of _ (by decide +kernel)) ggX4_isAsSeen_X4_placeBehind
theorem dX4_isAsSeen_0 : decode cX4_isAsSeen 0 = .ok (.iconst 0, 1) := by decide +kernel
theorem dX4_isAsSeen_1 : decode cX4_isAsSeen 1 = .ok (.istore_n 2, 1) := by decide +kernel
theorem dX4_isAsSeen_2 : decode cX4_isAsSeen 2 = .ok (.iconst 0, 1) := by decide +kernel
theorem dX4_isAsSeen_3 : decode cX4_isAsSeen 3 = .ok (.istore_n 3, 1) := by decide +kernel
theorem dX4_isAsSeen_4 : decode cX4_isAsSeen 4 = .ok (.iload_n 3, 1) := by decide +kernel
theorem dX4_isAsSeen_5 : decode cX4_isAsSeen 5 = .ok (.bipush 6, 2) := by decide +kernel
theorem dX4_isAsSeen_7 : decode cX4_isAsSeen 7 = .ok (.if_icmp .ge 53, 3) := by decide +kernel
theorem dX4_isAsSeen_10 : decode cX4_isAsSeen 10 = .ok (.iload_n 1, 1) := by decide +kernel
theorem dX4_isAsSeen_11 : decode cX4_isAsSeen 11 = .ok (.iload_n 2, 1) := by decide +kernel
theorem dX4_isAsSeen_12 : decode cX4_isAsSeen 12 = .ok (.invokestatic 191, 3) := by decide +kernel
theorem dX4_isAsSeen_15 : decode cX4_isAsSeen 15 = .ok (.istore 4, 2) := by decide +kernel
theorem dX4_isAsSeen_17 : decode cX4_isAsSeen 17 = .ok (.aload_n 0, 1) := by decide +kernel
theorem dX4_isAsSeen_18 : decode cX4_isAsSeen 18 = .ok (.getfield 185, 3) := by decide +kernel
theorem dX4_isAsSeen_21 : decode cX4_isAsSeen 21 = .ok (.iconst 4, 1) := by decide +kernel
theorem dX4_isAsSeen_22 : decode cX4_isAsSeen 22 = .ok (.iload_n 3, 1) := by decide +kernel
theorem dX4_isAsSeen_23 : decode cX4_isAsSeen 23 = .ok (.imul, 1) := by decide +kernel
theorem dX4_isAsSeen_24 : decode cX4_isAsSeen 24 = .ok (.iushr, 1) := by decide +kernel
theorem dX4_isAsSeen_25 : decode cX4_isAsSeen 25 = .ok (.bipush 15, 2) := by decide +kernel
theorem dX4_isAsSeen_27 : decode cX4_isAsSeen 27 = .ok (.iand, 1) := by decide +kernel
theorem dX4_isAsSeen_28 : decode cX4_isAsSeen 28 = .ok (.istore 5, 2) := by decide +kernel
theorem dX4_isAsSeen_30 : decode cX4_isAsSeen 30 = .ok (.iload 5, 2) := by decide +kernel
theorem dX4_isAsSeen_32 : decode cX4_isAsSeen 32 = .ok (.iconst 1, 1) := by decide +kernel
theorem dX4_isAsSeen_33 : decode cX4_isAsSeen 33 = .ok (.iload 4, 2) := by decide +kernel
theorem dX4_isAsSeen_35 : decode cX4_isAsSeen 35 = .ok (.invokestatic 243, 3) := by decide +kernel
theorem dX4_isAsSeen_38 : decode cX4_isAsSeen 38 = .ok (.ishl, 1) := by decide +kernel
theorem dX4_isAsSeen_39 : decode cX4_isAsSeen 39 = .ok (.iconst (-1), 1) := by decide +kernel
theorem dX4_isAsSeen_40 : decode cX4_isAsSeen 40 = .ok (.ixor, 1) := by decide +kernel
theorem dX4_isAsSeen_41 : decode cX4_isAsSeen 41 = .ok (.iand, 1) := by decide +kernel
theorem dX4_isAsSeen_42 : decode cX4_isAsSeen 42 = .ok (.ifCond .eq 5, 3) := by decide +kernel
theorem dX4_isAsSeen_45 : decode cX4_isAsSeen 45 = .ok (.iconst 0, 1) := by decide +kernel
theorem dX4_isAsSeen_46 : decode cX4_isAsSeen 46 = .ok (.ireturn, 1) := by decide +kernel
theorem dX4_isAsSeen_47 : decode cX4_isAsSeen 47 = .ok (.iload_n 2, 1) := by decide +kernel
theorem dX4_isAsSeen_48 : decode cX4_isAsSeen 48 = .ok (.iload 4, 2) := by decide +kernel
theorem dX4_isAsSeen_50 : decode cX4_isAsSeen 50 = .ok (.invokestatic 255, 3) := by decide +kernel
theorem dX4_isAsSeen_53 : decode cX4_isAsSeen 53 = .ok (.istore_n 2, 1) := by decide +kernel
theorem dX4_isAsSeen_54 : decode cX4_isAsSeen 54 = .ok (.iinc 3 1, 3) := by decide +kernel
theorem dX4_isAsSeen_57 : decode cX4_isAsSeen 57 = .ok (.goto (-53), 3) := by decide +kernel
theorem dX4_isAsSeen_60 : decode cX4_isAsSeen 60 = .ok (.iconst 1, 1) := by decide +kernel
theorem dX4_isAsSeen_61 : decode cX4_isAsSeen 61 = .ok (.ireturn, 1) := by decide +kernel
theorem dX4_loss_0 : decode cX4_loss 0 = .ok (.iload_n 1, 1) := by decide +kernel
theorem dX4_loss_1 : decode cX4_loss 1 = .ok (.iload_n 2, 1) := by decide +kernel
theorem dX4_loss_2 : decode cX4_loss 2 = .ok (.if_icmp .ne 8, 3) := by decide +kernel
theorem dX4_loss_5 : decode cX4_loss 5 = .ok (.bipush 6, 2) := by decide +kernel
theorem dX4_loss_7 : decode cX4_loss 7 = .ok (.iload_n 0, 1) := by decide +kernel
theorem dX4_loss_8 : decode cX4_loss 8 = .ok (.iadd, 1) := by decide +kernel
theorem dX4_loss_9 : decode cX4_loss 9 = .ok (.ireturn, 1) := by decide +kernel
theorem dX4_loss_10 : decode cX4_loss 10 = .ok (.iload_n 1, 1) := by decide +kernel
theorem dX4_loss_11 : decode cX4_loss 11 = .ok (.iload_n 2, 1) := by decide +kernel
theorem dX4_loss_12 : decode cX4_loss 12 = .ok (.if_icmp .le 9, 3) := by decide +kernel
theorem dX4_loss_15 : decode cX4_loss 15 = .ok (.iload_n 0, 1) := by decide +kernel
theorem dX4_loss_16 : decode cX4_loss 16 = .ok (.iload_n 1, 1) := by decide +kernel
theorem dX4_loss_17 : decode cX4_loss 17 = .ok (.iadd, 1) := by decide +kernel
theorem dX4_loss_18 : decode cX4_loss 18 = .ok (.goto 4, 3) := by decide +kernel
theorem dX4_loss_21 : decode cX4_loss 21 = .ok (.iload_n 1, 1) := by decide +kernel
theorem dX4_loss_22 : decode cX4_loss 22 = .ok (.ireturn, 1) := by decide +kernel
set_option maxRecDepth 20000 in
theorem ggX4_staysWith_X4_loss : GoodIn wsX4_staysWith wsX4_loss := goodIn_r _ [4] (by decide +kernel) (by decide +kernel)
set_option maxRecDepth 20000 in
theorem gX4_staysWith_X4_loss : GoodIn wsX4_staysWith (va_wsS RX4 276 yX4_loss wsX4_loss) := goodIn_app (goodIn_of _ (by decide +kernel)) ggX4_staysWith_X4_loss
theorem dX4_staysWith_0 : decode cX4_staysWith 0 = .ok (.iconst 0, 1) := by decide +kernel
theorem dX4_staysWith_1 : decode cX4_staysWith 1 = .ok (.istore_n 3, 1) := by decide +kernel
theorem dX4_staysWith_2 : decode cX4_staysWith 2 = .ok (.iload_n 3, 1) := by decide +kernel
theorem dX4_staysWith_3 : decode cX4_staysWith 3 = .ok (.iconst 3, 1) := by decide +kernel
theorem dX4_staysWith_4 : decode cX4_staysWith 4 = .ok (.if_icmp .gt 26, 3) := by decide +kernel
theorem dX4_staysWith_7 : decode cX4_staysWith 7 = .ok (.iload_n 0, 1) := by decide +kernel
theorem dX4_staysWith_8 : decode cX4_staysWith 8 = .ok (.iload_n 3, 1) := by decide +kernel
theorem dX4_staysWith_9 : decode cX4_staysWith 9 = .ok (.iload_n 2, 1) := by decide +kernel
theorem dX4_staysWith_10 : decode cX4_staysWith 10 = .ok (.invokestatic 276, 3) := by decide +kernel
theorem dX4_staysWith_13 : decode cX4_staysWith 13 = .ok (.iload_n 0, 1) := by decide +kernel
theorem dX4_staysWith_14 : decode cX4_staysWith 14 = .ok (.iload_n 1, 1) := by decide +kernel
theorem dX4_staysWith_15 : decode cX4_staysWith 15 = .ok (.iload_n 2, 1) := by decide +kernel
theorem dX4_staysWith_16 : decode cX4_staysWith 16 = .ok (.invokestatic 276, 3) := by decide +kernel
theorem dX4_staysWith_19 : decode cX4_staysWith 19 = .ok (.if_icmp .ge 5, 3) := by decide +kernel
theorem dX4_staysWith_22 : decode cX4_staysWith 22 = .ok (.iconst 0, 1) := by decide +kernel
theorem dX4_staysWith_23 : decode cX4_staysWith 23 = .ok (.ireturn, 1) := by decide +kernel
theorem dX4_staysWith_24 : decode cX4_staysWith 24 = .ok (.iinc 3 1, 3) := by decide +kernel
theorem dX4_staysWith_27 : decode cX4_staysWith 27 = .ok (.goto (-25), 3) := by decide +kernel
theorem dX4_staysWith_30 : decode cX4_staysWith 30 = .ok (.iconst 1, 1) := by decide +kernel
theorem dX4_staysWith_31 : decode cX4_staysWith 31 = .ok (.ireturn, 1) := by decide +kernel
set_option maxRecDepth 20000 in
theorem ggX4_waysInTime_X2_groundAt : GoodIn wsX4_waysInTime wsX2_groundAt := goodIn_r _ [7, 8, 9, 10, 11, 50, 51, 52, 53] (by decide +kernel) (by decide +kernel)
set_option maxRecDepth 20000 in
theorem gX4_waysInTime_X2_groundAt : GoodIn wsX4_waysInTime (wsV RX4 92 RX2 yX2_groundAt wsX2_groundAt) := goodIn_app (goodIn_of _ (by decide +kernel)) ggX4_waysInTime_X2_groundAt
set_option maxRecDepth 20000 in
theorem ggX4_waysInTime_X4_stepMinutes : GoodIn wsX4_waysInTime wsX4_stepMinutes := goodIn_r _ [15, 1, 16, 17, 18, 19, 20, 21, 10, 22, 23, 24, 25, 26, 27, 28, 29, 30, 31, 35, 36, 37, 38, 39, 40, 41, 42, 43, 44, 45, 46, 47, 48, 49] (by decide +kernel) (by decide +kernel)
set_option maxRecDepth 20000 in
theorem gX4_waysInTime_X4_stepMinutes : GoodIn wsX4_waysInTime (wsV RX4 251 RX4 yX4_stepMinutes wsX4_stepMinutes) := goodIn_app (goodIn_of _ (by decide +kernel)) ggX4_waysInTime_X4_stepMinutes
set_option maxRecDepth 20000 in
theorem ggX4_waysInTime_X4_waysInTime : GoodIn wsX4_waysInTime wsX4_waysInTime := goodIn_r _ [0, 1, 2, 3, 4, 5, 6, 7, 8, 9, 10, 11, 12, 13, 14, 15, 16, 17, 18, 19, 20, 21, 22, 23, 24, 25, 26, 27, 28, 29, 30, 31, 32, 33, 34, 35, 36, 37, 38, 39, 40, 41, 42, 43, 44, 45, 46, 47, 48, 49, 50, 51, 52, 53] (by decide +kernel) (by decide +kernel)
set_option maxRecDepth 20000 in
theorem gX4_waysInTime_X4_waysInTime : GoodIn wsX4_waysInTime (wsV RX4 198 RX4 yX4_waysInTime wsX4_waysInTime) := goodIn_app (goodIn_of _ (by decide +kernel)) ggX4_waysInTime_X4_waysInTime
theorem dX4_waysInTime_0 : decode cX4_waysInTime 0 = .ok (.iload 4, 2) := by decide +kernel
theorem dX4_waysInTime_2 : decode cX4_waysInTime 2 = .ok (.ifCond .ge 5, 3) := by decide +kernel
theorem dX4_waysInTime_5 : decode cX4_waysInTime 5 = .ok (.iconst 0, 1) := by decide +kernel
theorem dX4_waysInTime_6 : decode cX4_waysInTime 6 = .ok (.ireturn, 1) := by decide +kernel
theorem dX4_waysInTime_7 : decode cX4_waysInTime 7 = .ok (.iload_n 3, 1) := by decide +kernel
theorem dX4_waysInTime_8 : decode cX4_waysInTime 8 = .ok (.aload_n 0, 1) := by decide +kernel
theorem dX4_waysInTime_9 : decode cX4_waysInTime 9 = .ok (.getfield 19, 3) := by decide +kernel
theorem dX4_waysInTime_12 : decode cX4_waysInTime 12 = .ok (.getfield 71, 3) := by decide +kernel
theorem dX4_waysInTime_15 : decode cX4_waysInTime 15 = .ok (.if_icmp .lt 5, 3) := by decide +kernel
theorem dX4_waysInTime_18 : decode cX4_waysInTime 18 = .ok (.iconst 1, 1) := by decide +kernel
theorem dX4_waysInTime_19 : decode cX4_waysInTime 19 = .ok (.ireturn, 1) := by decide +kernel
theorem dX4_waysInTime_20 : decode cX4_waysInTime 20 = .ok (.aload_n 0, 1) := by decide +kernel
theorem dX4_waysInTime_21 : decode cX4_waysInTime 21 = .ok (.getfield 26, 3) := by decide +kernel
theorem dX4_waysInTime_24 : decode cX4_waysInTime 24 = .ok (.iload_n 1, 1) := by decide +kernel
theorem dX4_waysInTime_25 : decode cX4_waysInTime 25 = .ok (.iload_n 2, 1) := by decide +kernel
theorem dX4_waysInTime_26 : decode cX4_waysInTime 26 = .ok (.invokevirtual 92, 3) := by decide +kernel
theorem dX4_waysInTime_29 : decode cX4_waysInTime 29 = .ok (.istore 6, 2) := by decide +kernel
theorem dX4_waysInTime_31 : decode cX4_waysInTime 31 = .ok (.iload 4, 2) := by decide +kernel
theorem dX4_waysInTime_33 : decode cX4_waysInTime 33 = .ok (.aload_n 0, 1) := by decide +kernel
theorem dX4_waysInTime_34 : decode cX4_waysInTime 34 = .ok (.iload_n 1, 1) := by decide +kernel
theorem dX4_waysInTime_35 : decode cX4_waysInTime 35 = .ok (.iload 6, 2) := by decide +kernel
theorem dX4_waysInTime_37 : decode cX4_waysInTime 37 = .ok (.iload_n 3, 1) := by decide +kernel
theorem dX4_waysInTime_38 : decode cX4_waysInTime 38 = .ok (.aload_n 0, 1) := by decide +kernel
theorem dX4_waysInTime_39 : decode cX4_waysInTime 39 = .ok (.getfield 26, 3) := by decide +kernel
theorem dX4_waysInTime_42 : decode cX4_waysInTime 42 = .ok (.getfield 100, 3) := by decide +kernel
theorem dX4_waysInTime_45 : decode cX4_waysInTime 45 = .ok (.invokevirtual 251, 3) := by decide +kernel
theorem dX4_waysInTime_48 : decode cX4_waysInTime 48 = .ok (.isub, 1) := by decide +kernel
theorem dX4_waysInTime_49 : decode cX4_waysInTime 49 = .ok (.istore 7, 2) := by decide +kernel
theorem dX4_waysInTime_51 : decode cX4_waysInTime 51 = .ok (.iload 6, 2) := by decide +kernel
theorem dX4_waysInTime_53 : decode cX4_waysInTime 53 = .ok (.iconst 2, 1) := by decide +kernel
theorem dX4_waysInTime_54 : decode cX4_waysInTime 54 = .ok (.if_icmp .ne 8, 3) := by decide +kernel
theorem dX4_waysInTime_57 : decode cX4_waysInTime 57 = .ok (.bipush 10, 2) := by decide +kernel
theorem dX4_waysInTime_59 : decode cX4_waysInTime 59 = .ok (.goto 5, 3) := by decide +kernel
theorem dX4_waysInTime_62 : decode cX4_waysInTime 62 = .ok (.iload 5, 2) := by decide +kernel
theorem dX4_waysInTime_64 : decode cX4_waysInTime 64 = .ok (.istore 8, 2) := by decide +kernel
theorem dX4_waysInTime_66 : decode cX4_waysInTime 66 = .ok (.aload_n 0, 1) := by decide +kernel
theorem dX4_waysInTime_67 : decode cX4_waysInTime 67 = .ok (.iload_n 1, 1) := by decide +kernel
theorem dX4_waysInTime_68 : decode cX4_waysInTime 68 = .ok (.iload_n 2, 1) := by decide +kernel
theorem dX4_waysInTime_69 : decode cX4_waysInTime 69 = .ok (.iconst 2, 1) := by decide +kernel
theorem dX4_waysInTime_70 : decode cX4_waysInTime 70 = .ok (.iadd, 1) := by decide +kernel
theorem dX4_waysInTime_71 : decode cX4_waysInTime 71 = .ok (.iconst 4, 1) := by decide +kernel
theorem dX4_waysInTime_72 : decode cX4_waysInTime 72 = .ok (.irem, 1) := by decide +kernel
theorem dX4_waysInTime_73 : decode cX4_waysInTime 73 = .ok (.iload_n 3, 1) := by decide +kernel
theorem dX4_waysInTime_74 : decode cX4_waysInTime 74 = .ok (.iconst 1, 1) := by decide +kernel
theorem dX4_waysInTime_75 : decode cX4_waysInTime 75 = .ok (.iadd, 1) := by decide +kernel
theorem dX4_waysInTime_76 : decode cX4_waysInTime 76 = .ok (.iload 7, 2) := by decide +kernel
theorem dX4_waysInTime_78 : decode cX4_waysInTime 78 = .ok (.iload 5, 2) := by decide +kernel
theorem dX4_waysInTime_80 : decode cX4_waysInTime 80 = .ok (.invokevirtual 198, 3) := by decide +kernel
theorem dX4_waysInTime_83 : decode cX4_waysInTime 83 = .ok (.istore 9, 2) := by decide +kernel
theorem dX4_waysInTime_85 : decode cX4_waysInTime 85 = .ok (.aload_n 0, 1) := by decide +kernel
theorem dX4_waysInTime_86 : decode cX4_waysInTime 86 = .ok (.iload_n 1, 1) := by decide +kernel
theorem dX4_waysInTime_87 : decode cX4_waysInTime 87 = .ok (.iload_n 2, 1) := by decide +kernel
theorem dX4_waysInTime_88 : decode cX4_waysInTime 88 = .ok (.iconst 1, 1) := by decide +kernel
theorem dX4_waysInTime_89 : decode cX4_waysInTime 89 = .ok (.iadd, 1) := by decide +kernel
theorem dX4_waysInTime_90 : decode cX4_waysInTime 90 = .ok (.iconst 4, 1) := by decide +kernel
theorem dX4_waysInTime_91 : decode cX4_waysInTime 91 = .ok (.irem, 1) := by decide +kernel
theorem dX4_waysInTime_92 : decode cX4_waysInTime 92 = .ok (.iload_n 3, 1) := by decide +kernel
theorem dX4_waysInTime_93 : decode cX4_waysInTime 93 = .ok (.iconst 1, 1) := by decide +kernel
theorem dX4_waysInTime_94 : decode cX4_waysInTime 94 = .ok (.iadd, 1) := by decide +kernel
theorem dX4_waysInTime_95 : decode cX4_waysInTime 95 = .ok (.iload 7, 2) := by decide +kernel
theorem dX4_waysInTime_97 : decode cX4_waysInTime 97 = .ok (.iload 5, 2) := by decide +kernel
theorem dX4_waysInTime_99 : decode cX4_waysInTime 99 = .ok (.invokevirtual 198, 3) := by decide +kernel
theorem dX4_waysInTime_102 : decode cX4_waysInTime 102 = .ok (.istore 10, 2) := by decide +kernel
theorem dX4_waysInTime_104 : decode cX4_waysInTime 104 = .ok (.iload 8, 2) := by decide +kernel
theorem dX4_waysInTime_106 : decode cX4_waysInTime 106 = .ok (.iload 9, 2) := by decide +kernel
theorem dX4_waysInTime_108 : decode cX4_waysInTime 108 = .ok (.imul, 1) := by decide +kernel
theorem dX4_waysInTime_109 : decode cX4_waysInTime 109 = .ok (.bipush 10, 2) := by decide +kernel
theorem dX4_waysInTime_111 : decode cX4_waysInTime 111 = .ok (.iload 8, 2) := by decide +kernel
theorem dX4_waysInTime_113 : decode cX4_waysInTime 113 = .ok (.isub, 1) := by decide +kernel
theorem dX4_waysInTime_114 : decode cX4_waysInTime 114 = .ok (.iload 10, 2) := by decide +kernel
theorem dX4_waysInTime_116 : decode cX4_waysInTime 116 = .ok (.imul, 1) := by decide +kernel
theorem dX4_waysInTime_117 : decode cX4_waysInTime 117 = .ok (.iadd, 1) := by decide +kernel
theorem dX4_waysInTime_118 : decode cX4_waysInTime 118 = .ok (.ireturn, 1) := by decide +kernel
set_option maxRecDepth 20000 in
theorem ggX4_legAll_X4_soonestLegs : GoodIn wsX4_legAll wsX4_soonestLegs := goodIn_r _ [9, 4, 1, 2, 10, 11, 12, 13, 14, 15, 16, 17, 18, 19, 8, 20, 3, 21, 22, 23, 24, 25, 26, 27, 28, 29, 30, 31, 32, 33, 34, 35, 36, 37, 38, 39, 40, 41, 42, 43, 44, 45, 46, 47, 48, 49, 50, 51, 52, 53, 54, 55, 56, 57, 58, 59, 60, 61, 62, 63, 64, 65, 66, 67, 68, 69, 70, 71, 72, 73, 74, 75, 76, 77, 78, 79, 80, 81, 82, 83, 84, 85, 86, 87, 88, 89, 90] (by decide +kernel) (by decide +kernel)
set_option maxRecDepth 20000 in
theorem gX4_legAll_X4_soonestLegs : GoodIn wsX4_legAll (wsV RX4 156 RX4 yX4_soonestLegs wsX4_soonestLegs) := goodIn_app (goodIn_of _ (by decide +kernel)) ggX4_legAll_X4_soonestLegs
set_option maxRecDepth 20000 in
theorem ggX4_legAll_X4_tireBoth : GoodIn wsX4_legAll wsX4_tireBoth := goodIn_r _ [68, 69, 70, 8, 71, 55, 56, 57] (by decide +kernel) (by decide +kernel)
set_option maxRecDepth 20000 in
theorem gX4_legAll_X4_tireBoth : GoodIn wsX4_legAll (va_wsS RX4 128 yX4_tireBoth wsX4_tireBoth) := goodIn_app (goodIn_of _ (by decide +kernel)) ggX4_legAll_X4_tireBoth
theorem dX4_legAll_0 : decode cX4_legAll 0 = .ok (.aload_n 0, 1) := by decide +kernel
theorem dX4_legAll_1 : decode cX4_legAll 1 = .ok (.getfield 26, 3) := by decide +kernel
theorem dX4_legAll_4 : decode cX4_legAll 4 = .ok (.iconst 0, 1) := by decide +kernel
theorem dX4_legAll_5 : decode cX4_legAll 5 = .ok (.putfield 74, 3) := by decide +kernel
theorem dX4_legAll_8 : decode cX4_legAll 8 = .ok (.aload_n 0, 1) := by decide +kernel
theorem dX4_legAll_9 : decode cX4_legAll 9 = .ok (.invokevirtual 156, 3) := by decide +kernel
theorem dX4_legAll_12 : decode cX4_legAll 12 = .ok (.lstore_n 1, 1) := by decide +kernel
theorem dX4_legAll_13 : decode cX4_legAll 13 = .ok (.lload_n 1, 1) := by decide +kernel
theorem dX4_legAll_14 : decode cX4_legAll 14 = .ok (.ldc2_w 160, 3) := by decide +kernel
theorem dX4_legAll_17 : decode cX4_legAll 17 = .ok (.lcmp, 1) := by decide +kernel
theorem dX4_legAll_18 : decode cX4_legAll 18 = .ok (.ifCond .ne 4, 3) := by decide +kernel
theorem dX4_legAll_21 : decode cX4_legAll 21 = .ok (.return_, 1) := by decide +kernel
theorem dX4_legAll_22 : decode cX4_legAll 22 = .ok (.lload_n 1, 1) := by decide +kernel
theorem dX4_legAll_23 : decode cX4_legAll 23 = .ok (.ldc2_w 162, 3) := by decide +kernel
theorem dX4_legAll_26 : decode cX4_legAll 26 = .ok (.lrem, 1) := by decide +kernel
theorem dX4_legAll_27 : decode cX4_legAll 27 = .ok (.l2i, 1) := by decide +kernel
theorem dX4_legAll_28 : decode cX4_legAll 28 = .ok (.istore_n 3, 1) := by decide +kernel
theorem dX4_legAll_29 : decode cX4_legAll 29 = .ok (.iconst 0, 1) := by decide +kernel
theorem dX4_legAll_30 : decode cX4_legAll 30 = .ok (.istore 4, 2) := by decide +kernel
theorem dX4_legAll_32 : decode cX4_legAll 32 = .ok (.iload 4, 2) := by decide +kernel
theorem dX4_legAll_34 : decode cX4_legAll 34 = .ok (.aload_n 0, 1) := by decide +kernel
theorem dX4_legAll_35 : decode cX4_legAll 35 = .ok (.getfield 19, 3) := by decide +kernel
theorem dX4_legAll_38 : decode cX4_legAll 38 = .ok (.getfield 68, 3) := by decide +kernel
theorem dX4_legAll_41 : decode cX4_legAll 41 = .ok (.if_icmp .ge 43, 3) := by decide +kernel
theorem dX4_legAll_44 : decode cX4_legAll 44 = .ok (.aload_n 0, 1) := by decide +kernel
theorem dX4_legAll_45 : decode cX4_legAll 45 = .ok (.getfield 26, 3) := by decide +kernel
theorem dX4_legAll_48 : decode cX4_legAll 48 = .ok (.aload_n 0, 1) := by decide +kernel
theorem dX4_legAll_49 : decode cX4_legAll 49 = .ok (.getfield 26, 3) := by decide +kernel
theorem dX4_legAll_52 : decode cX4_legAll 52 = .ok (.getfield 100, 3) := by decide +kernel
theorem dX4_legAll_55 : decode cX4_legAll 55 = .ok (.iload_n 3, 1) := by decide +kernel
theorem dX4_legAll_56 : decode cX4_legAll 56 = .ok (.bipush 10, 2) := by decide +kernel
theorem dX4_legAll_58 : decode cX4_legAll 58 = .ok (.idiv, 1) := by decide +kernel
theorem dX4_legAll_59 : decode cX4_legAll 59 = .ok (.bipush 10, 2) := by decide +kernel
theorem dX4_legAll_61 : decode cX4_legAll 61 = .ok (.irem, 1) := by decide +kernel
theorem dX4_legAll_62 : decode cX4_legAll 62 = .ok (.iload_n 3, 1) := by decide +kernel
theorem dX4_legAll_63 : decode cX4_legAll 63 = .ok (.bipush 10, 2) := by decide +kernel
theorem dX4_legAll_65 : decode cX4_legAll 65 = .ok (.irem, 1) := by decide +kernel
theorem dX4_legAll_66 : decode cX4_legAll 66 = .ok (.invokestatic 128, 3) := by decide +kernel
theorem dX4_legAll_69 : decode cX4_legAll 69 = .ok (.putfield 100, 3) := by decide +kernel
theorem dX4_legAll_72 : decode cX4_legAll 72 = .ok (.iload_n 3, 1) := by decide +kernel
theorem dX4_legAll_73 : decode cX4_legAll 73 = .ok (.sipush 1000, 3) := by decide +kernel
theorem dX4_legAll_76 : decode cX4_legAll 76 = .ok (.idiv, 1) := by decide +kernel
theorem dX4_legAll_77 : decode cX4_legAll 77 = .ok (.istore_n 3, 1) := by decide +kernel
theorem dX4_legAll_78 : decode cX4_legAll 78 = .ok (.iinc 4 1, 3) := by decide +kernel
theorem dX4_legAll_81 : decode cX4_legAll 81 = .ok (.goto (-49), 3) := by decide +kernel
theorem dX4_legAll_84 : decode cX4_legAll 84 = .ok (.aload_n 0, 1) := by decide +kernel
theorem dX4_legAll_85 : decode cX4_legAll 85 = .ok (.getfield 26, 3) := by decide +kernel
theorem dX4_legAll_88 : decode cX4_legAll 88 = .ok (.dup, 1) := by decide +kernel
theorem dX4_legAll_89 : decode cX4_legAll 89 = .ok (.getfield 77, 3) := by decide +kernel
theorem dX4_legAll_92 : decode cX4_legAll 92 = .ok (.lload_n 1, 1) := by decide +kernel
theorem dX4_legAll_93 : decode cX4_legAll 93 = .ok (.ldc2_w 162, 3) := by decide +kernel
theorem dX4_legAll_96 : decode cX4_legAll 96 = .ok (.ldiv, 1) := by decide +kernel
theorem dX4_legAll_97 : decode cX4_legAll 97 = .ok (.l2i, 1) := by decide +kernel
theorem dX4_legAll_98 : decode cX4_legAll 98 = .ok (.iadd, 1) := by decide +kernel
theorem dX4_legAll_99 : decode cX4_legAll 99 = .ok (.putfield 77, 3) := by decide +kernel
theorem dX4_legAll_102 : decode cX4_legAll 102 = .ok (.return_, 1) := by decide +kernel
theorem dX5_init_0 : decode cX5_init 0 = .ok (.aload_n 0, 1) := by decide +kernel
theorem dX5_init_1 : decode cX5_init 1 = .ok (.invokespecial 1, 3) := by decide +kernel
theorem dX5_init_4 : decode cX5_init 4 = .ok (.aload_n 0, 1) := by decide +kernel
theorem dX5_init_5 : decode cX5_init 5 = .ok (.bipush 40, 2) := by decide +kernel
theorem dX5_init_7 : decode cX5_init 7 = .ok (.newarray .int, 2) := by decide +kernel
theorem dX5_init_9 : decode cX5_init 9 = .ok (.putfield 7, 3) := by decide +kernel
theorem dX5_init_12 : decode cX5_init 12 = .ok (.aload_n 0, 1) := by decide +kernel
theorem dX5_init_13 : decode cX5_init 13 = .ok (.iconst 1, 1) := by decide +kernel
theorem dX5_init_14 : decode cX5_init 14 = .ok (.putfield 13, 3) := by decide +kernel
theorem dX5_init_17 : decode cX5_init 17 = .ok (.aload_n 0, 1) := by decide +kernel
theorem dX5_init_18 : decode cX5_init 18 = .ok (.iconst 4, 1) := by decide +kernel
theorem dX5_init_19 : decode cX5_init 19 = .ok (.newarray .int, 2) := by decide +kernel
theorem dX5_init_21 : decode cX5_init 21 = .ok (.putfield 17, 3) := by decide +kernel
theorem dX5_init_24 : decode cX5_init 24 = .ok (.aload_n 0, 1) := by decide +kernel
theorem dX5_init_25 : decode cX5_init 25 = .ok (.iconst 3, 1) := by decide +kernel
theorem dX5_init_26 : decode cX5_init 26 = .ok (.newarray .int, 2) := by decide +kernel
theorem dX5_init_28 : decode cX5_init 28 = .ok (.putfield 20, 3) := by decide +kernel
theorem dX5_init_31 : decode cX5_init 31 = .ok (.aload_n 0, 1) := by decide +kernel
theorem dX5_init_32 : decode cX5_init 32 = .ok (.bipush 20, 2) := by decide +kernel
theorem dX5_init_34 : decode cX5_init 34 = .ok (.newarray .int, 2) := by decide +kernel
theorem dX5_init_36 : decode cX5_init 36 = .ok (.putfield 23, 3) := by decide +kernel
theorem dX5_init_39 : decode cX5_init 39 = .ok (.aload_n 0, 1) := by decide +kernel
theorem dX5_init_40 : decode cX5_init 40 = .ok (.iconst 3, 1) := by decide +kernel
theorem dX5_init_41 : decode cX5_init 41 = .ok (.newarray .int, 2) := by decide +kernel
theorem dX5_init_43 : decode cX5_init 43 = .ok (.putfield 26, 3) := by decide +kernel
theorem dX5_init_46 : decode cX5_init 46 = .ok (.aload_n 0, 1) := by decide +kernel
theorem dX5_init_47 : decode cX5_init 47 = .ok (.bipush 22, 2) := by decide +kernel
theorem dX5_init_49 : decode cX5_init 49 = .ok (.newarray .int, 2) := by decide +kernel
theorem dX5_init_51 : decode cX5_init 51 = .ok (.putfield 29, 3) := by decide +kernel
theorem dX5_init_54 : decode cX5_init 54 = .ok (.aload_n 0, 1) := by decide +kernel
theorem dX5_init_55 : decode cX5_init 55 = .ok (.bipush 22, 2) := by decide +kernel
theorem dX5_init_57 : decode cX5_init 57 = .ok (.newarray .int, 2) := by decide +kernel
theorem dX5_init_59 : decode cX5_init 59 = .ok (.putfield 32, 3) := by decide +kernel
theorem dX5_init_62 : decode cX5_init 62 = .ok (.aload_n 0, 1) := by decide +kernel
theorem dX5_init_63 : decode cX5_init 63 = .ok (.bipush 22, 2) := by decide +kernel
theorem dX5_init_65 : decode cX5_init 65 = .ok (.newarray .int, 2) := by decide +kernel
theorem dX5_init_67 : decode cX5_init 67 = .ok (.putfield 35, 3) := by decide +kernel
theorem dX5_init_70 : decode cX5_init 70 = .ok (.aload_n 0, 1) := by decide +kernel
theorem dX5_init_71 : decode cX5_init 71 = .ok (.sipush 308, 3) := by decide +kernel
theorem dX5_init_74 : decode cX5_init 74 = .ok (.newarray .int, 2) := by decide +kernel
theorem dX5_init_76 : decode cX5_init 76 = .ok (.putfield 38, 3) := by decide +kernel
theorem dX5_init_79 : decode cX5_init 79 = .ok (.aload_n 0, 1) := by decide +kernel
theorem dX5_init_80 : decode cX5_init 80 = .ok (.bipush 44, 2) := by decide +kernel
theorem dX5_init_82 : decode cX5_init 82 = .ok (.newarray .int, 2) := by decide +kernel
theorem dX5_init_84 : decode cX5_init 84 = .ok (.putfield 41, 3) := by decide +kernel
theorem dX5_init_87 : decode cX5_init 87 = .ok (.aload_n 0, 1) := by decide +kernel
theorem dX5_init_88 : decode cX5_init 88 = .ok (.iconst 2, 1) := by decide +kernel
theorem dX5_init_89 : decode cX5_init 89 = .ok (.newarray .boolean, 2) := by decide +kernel
theorem dX5_init_91 : decode cX5_init 91 = .ok (.putfield 44, 3) := by decide +kernel
theorem dX5_init_94 : decode cX5_init 94 = .ok (.aload_n 0, 1) := by decide +kernel
theorem dX5_init_95 : decode cX5_init 95 = .ok (.bipush 6, 2) := by decide +kernel
theorem dX5_init_97 : decode cX5_init 97 = .ok (.newarray .int, 2) := by decide +kernel
theorem dX5_init_99 : decode cX5_init 99 = .ok (.putfield 48, 3) := by decide +kernel
theorem dX5_init_102 : decode cX5_init 102 = .ok (.aload_n 0, 1) := by decide +kernel
theorem dX5_init_103 : decode cX5_init 103 = .ok (.bipush 6, 2) := by decide +kernel
theorem dX5_init_105 : decode cX5_init 105 = .ok (.newarray .int, 2) := by decide +kernel
theorem dX5_init_107 : decode cX5_init 107 = .ok (.putfield 51, 3) := by decide +kernel
theorem dX5_init_110 : decode cX5_init 110 = .ok (.aload_n 0, 1) := by decide +kernel
theorem dX5_init_111 : decode cX5_init 111 = .ok (.bipush 16, 2) := by decide +kernel
theorem dX5_init_113 : decode cX5_init 113 = .ok (.newarray .int, 2) := by decide +kernel
theorem dX5_init_115 : decode cX5_init 115 = .ok (.putfield 54, 3) := by decide +kernel
theorem dX5_init_118 : decode cX5_init 118 = .ok (.aload_n 0, 1) := by decide +kernel
theorem dX5_init_119 : decode cX5_init 119 = .ok (.bipush 6, 2) := by decide +kernel
theorem dX5_init_121 : decode cX5_init 121 = .ok (.newarray .int, 2) := by decide +kernel
theorem dX5_init_123 : decode cX5_init 123 = .ok (.putfield 57, 3) := by decide +kernel
theorem dX5_init_126 : decode cX5_init 126 = .ok (.aload_n 0, 1) := by decide +kernel
theorem dX5_init_127 : decode cX5_init 127 = .ok (.bipush 6, 2) := by decide +kernel
theorem dX5_init_129 : decode cX5_init 129 = .ok (.newarray .int, 2) := by decide +kernel
theorem dX5_init_131 : decode cX5_init 131 = .ok (.putfield 60, 3) := by decide +kernel
theorem dX5_init_134 : decode cX5_init 134 = .ok (.return_, 1) := by decide +kernel
theorem dX5_in_0 : decode cX5_in 0 = .ok (.lload_n 0, 1) := by decide +kernel
theorem dX5_in_1 : decode cX5_in 1 = .ok (.lload_n 2, 1) := by decide +kernel
theorem dX5_in_2 : decode cX5_in 2 = .ok (.lcmp, 1) := by decide +kernel
theorem dX5_in_3 : decode cX5_in 3 = .ok (.ifCond .lt 14, 3) := by decide +kernel
theorem dX5_in_6 : decode cX5_in 6 = .ok (.lload_n 0, 1) := by decide +kernel
theorem dX5_in_7 : decode cX5_in 7 = .ok (.lload 4, 2) := by decide +kernel
theorem dX5_in_9 : decode cX5_in 9 = .ok (.lcmp, 1) := by decide +kernel
theorem dX5_in_10 : decode cX5_in 10 = .ok (.ifCond .gt 7, 3) := by decide +kernel
theorem dX5_in_13 : decode cX5_in 13 = .ok (.iconst 1, 1) := by decide +kernel
theorem dX5_in_14 : decode cX5_in 14 = .ok (.goto 4, 3) := by decide +kernel
theorem dX5_in_17 : decode cX5_in 17 = .ok (.iconst 0, 1) := by decide +kernel
theorem dX5_in_18 : decode cX5_in 18 = .ok (.ireturn, 1) := by decide +kernel
theorem dX5_has_0 : decode cX5_has 0 = .ok (.iload_n 0, 1) := by decide +kernel
theorem dX5_has_1 : decode cX5_has 1 = .ok (.iload_n 1, 1) := by decide +kernel
theorem dX5_has_2 : decode cX5_has 2 = .ok (.ishr, 1) := by decide +kernel
theorem dX5_has_3 : decode cX5_has 3 = .ok (.iconst 1, 1) := by decide +kernel
theorem dX5_has_4 : decode cX5_has 4 = .ok (.iand, 1) := by decide +kernel
theorem dX5_has_5 : decode cX5_has 5 = .ok (.iconst 1, 1) := by decide +kernel
theorem dX5_has_6 : decode cX5_has 6 = .ok (.if_icmp .ne 7, 3) := by decide +kernel
theorem dX5_has_9 : decode cX5_has 9 = .ok (.iconst 1, 1) := by decide +kernel
theorem dX5_has_10 : decode cX5_has 10 = .ok (.goto 4, 3) := by decide +kernel
theorem dX5_has_13 : decode cX5_has 13 = .ok (.iconst 0, 1) := by decide +kernel
theorem dX5_has_14 : decode cX5_has 14 = .ok (.ireturn, 1) := by decide +kernel
theorem dX5_many_0 : decode cX5_many 0 = .ok (.iconst 0, 1) := by decide +kernel
theorem dX5_many_1 : decode cX5_many 1 = .ok (.istore_n 1, 1) := by decide +kernel
theorem dX5_many_2 : decode cX5_many 2 = .ok (.iconst 0, 1) := by decide +kernel
theorem dX5_many_3 : decode cX5_many 3 = .ok (.istore_n 2, 1) := by decide +kernel
theorem dX5_many_4 : decode cX5_many 4 = .ok (.iload_n 2, 1) := by decide +kernel
theorem dX5_many_5 : decode cX5_many 5 = .ok (.bipush 8, 2) := by decide +kernel
theorem dX5_many_7 : decode cX5_many 7 = .ok (.if_icmp .ge 17, 3) := by decide +kernel
theorem dX5_many_10 : decode cX5_many 10 = .ok (.iload_n 1, 1) := by decide +kernel
theorem dX5_many_11 : decode cX5_many 11 = .ok (.iload_n 0, 1) := by decide +kernel
theorem dX5_many_12 : decode cX5_many 12 = .ok (.iload_n 2, 1) := by decide +kernel
theorem dX5_many_13 : decode cX5_many 13 = .ok (.ishr, 1) := by decide +kernel
theorem dX5_many_14 : decode cX5_many 14 = .ok (.iconst 1, 1) := by decide +kernel
theorem dX5_many_15 : decode cX5_many 15 = .ok (.iand, 1) := by decide +kernel
theorem dX5_many_16 : decode cX5_many 16 = .ok (.iadd, 1) := by decide +kernel
theorem dX5_many_17 : decode cX5_many 17 = .ok (.istore_n 1, 1) := by decide +kernel
theorem dX5_many_18 : decode cX5_many 18 = .ok (.iinc 2 1, 3) := by decide +kernel
theorem dX5_many_21 : decode cX5_many 21 = .ok (.goto (-17), 3) := by decide +kernel
theorem dX5_many_24 : decode cX5_many 24 = .ok (.iload_n 1, 1) := by decide +kernel
theorem dX5_many_25 : decode cX5_many 25 = .ok (.ireturn, 1) := by decide +kernel
set_option maxRecDepth 20000 in
theorem ggX5_noLegger_X5_in : GoodIn wsX5_noLegger wsX5_in := goodIn_r _ [5] (by decide +kernel) (by decide +kernel)
set_option maxRecDepth 20000 in
theorem gX5_noLegger_X5_in : GoodIn wsX5_noLegger (va_wsS RX5 69 yX5_in wsX5_in) := goodIn_app (goodIn_of _ (by decide +kernel)) ggX5_noLegger_X5_in
theorem dX5_noLegger_0 : decode cX5_noLegger 0 = .ok (.iload_n 1, 1) := by decide +kernel
theorem dX5_noLegger_1 : decode cX5_noLegger 1 = .ok (.i2l, 1) := by decide +kernel
theorem dX5_noLegger_2 : decode cX5_noLegger 2 = .ok (.lconst 0, 1) := by decide +kernel
theorem dX5_noLegger_3 : decode cX5_noLegger 3 = .ok (.aload_n 0, 1) := by decide +kernel
theorem dX5_noLegger_4 : decode cX5_noLegger 4 = .ok (.getfield 66, 3) := by decide +kernel
theorem dX5_noLegger_7 : decode cX5_noLegger 7 = .ok (.iconst 1, 1) := by decide +kernel
theorem dX5_noLegger_8 : decode cX5_noLegger 8 = .ok (.isub, 1) := by decide +kernel
theorem dX5_noLegger_9 : decode cX5_noLegger 9 = .ok (.i2l, 1) := by decide +kernel
theorem dX5_noLegger_10 : decode cX5_noLegger 10 = .ok (.invokestatic 69, 3) := by decide +kernel
theorem dX5_noLegger_13 : decode cX5_noLegger 13 = .ok (.ifCond .ne 7, 3) := by decide +kernel
theorem dX5_noLegger_16 : decode cX5_noLegger 16 = .ok (.iconst 1, 1) := by decide +kernel
theorem dX5_noLegger_17 : decode cX5_noLegger 17 = .ok (.goto 4, 3) := by decide +kernel
theorem dX5_noLegger_20 : decode cX5_noLegger 20 = .ok (.iconst 0, 1) := by decide +kernel
theorem dX5_noLegger_21 : decode cX5_noLegger 21 = .ok (.ireturn, 1) := by decide +kernel
set_option maxRecDepth 20000 in
theorem ggX5_noBoat_X5_in : GoodIn wsX5_noBoat wsX5_in := goodIn_r _ [5] (by decide +kernel) (by decide +kernel)
set_option maxRecDepth 20000 in
theorem gX5_noBoat_X5_in : GoodIn wsX5_noBoat (va_wsS RX5 69 yX5_in wsX5_in) := goodIn_app (goodIn_of _ (by decide +kernel)) ggX5_noBoat_X5_in
theorem dX5_noBoat_0 : decode cX5_noBoat 0 = .ok (.iload_n 1, 1) := by decide +kernel
theorem dX5_noBoat_1 : decode cX5_noBoat 1 = .ok (.i2l, 1) := by decide +kernel
theorem dX5_noBoat_2 : decode cX5_noBoat 2 = .ok (.lconst 0, 1) := by decide +kernel
theorem dX5_noBoat_3 : decode cX5_noBoat 3 = .ok (.aload_n 0, 1) := by decide +kernel
theorem dX5_noBoat_4 : decode cX5_noBoat 4 = .ok (.getfield 73, 3) := by decide +kernel
theorem dX5_noBoat_7 : decode cX5_noBoat 7 = .ok (.iconst 1, 1) := by decide +kernel
theorem dX5_noBoat_8 : decode cX5_noBoat 8 = .ok (.isub, 1) := by decide +kernel
theorem dX5_noBoat_9 : decode cX5_noBoat 9 = .ok (.i2l, 1) := by decide +kernel
theorem dX5_noBoat_10 : decode cX5_noBoat 10 = .ok (.invokestatic 69, 3) := by decide +kernel
theorem dX5_noBoat_13 : decode cX5_noBoat 13 = .ok (.ifCond .ne 7, 3) := by decide +kernel
theorem dX5_noBoat_16 : decode cX5_noBoat 16 = .ok (.iconst 1, 1) := by decide +kernel
theorem dX5_noBoat_17 : decode cX5_noBoat 17 = .ok (.goto 4, 3) := by decide +kernel
theorem dX5_noBoat_20 : decode cX5_noBoat 20 = .ok (.iconst 0, 1) := by decide +kernel
theorem dX5_noBoat_21 : decode cX5_noBoat 21 = .ok (.ireturn, 1) := by decide +kernel
set_option maxRecDepth 20000 in
theorem ggX5_write_X5_in : GoodIn wsX5_write wsX5_in := goodIn_r _ [8] (by decide +kernel) (by decide +kernel)
set_option maxRecDepth 20000 in
theorem gX5_write_X5_in : GoodIn wsX5_write (va_wsS RX5 69 yX5_in wsX5_in) := goodIn_app (goodIn_of _ (by decide +kernel)) ggX5_write_X5_in
theorem dX5_write_0 : decode cX5_write 0 = .ok (.aload_n 0, 1) := by decide +kernel
theorem dX5_write_1 : decode cX5_write 1 = .ok (.iconst 0, 1) := by decide +kernel
theorem dX5_write_2 : decode cX5_write 2 = .ok (.putfield 63, 3) := by decide +kernel
theorem dX5_write_5 : decode cX5_write 5 = .ok (.iload_n 1, 1) := by decide +kernel
theorem dX5_write_6 : decode cX5_write 6 = .ok (.i2l, 1) := by decide +kernel
theorem dX5_write_7 : decode cX5_write 7 = .ok (.lconst 0, 1) := by decide +kernel
theorem dX5_write_8 : decode cX5_write 8 = .ok (.ldc2_w 76, 3) := by decide +kernel
theorem dX5_write_11 : decode cX5_write 11 = .ok (.invokestatic 69, 3) := by decide +kernel
theorem dX5_write_14 : decode cX5_write 14 = .ok (.ifCond .ne 6, 3) := by decide +kernel
theorem dX5_write_17 : decode cX5_write 17 = .ok (.bipush (-2), 2) := by decide +kernel
theorem dX5_write_19 : decode cX5_write 19 = .ok (.ireturn, 1) := by decide +kernel
theorem dX5_write_20 : decode cX5_write 20 = .ok (.aload_n 0, 1) := by decide +kernel
theorem dX5_write_21 : decode cX5_write 21 = .ok (.getfield 78, 3) := by decide +kernel
theorem dX5_write_24 : decode cX5_write 24 = .ok (.bipush 40, 2) := by decide +kernel
theorem dX5_write_26 : decode cX5_write 26 = .ok (.if_icmp .ne 6, 3) := by decide +kernel
theorem dX5_write_29 : decode cX5_write 29 = .ok (.bipush (-4), 2) := by decide +kernel
theorem dX5_write_31 : decode cX5_write 31 = .ok (.ireturn, 1) := by decide +kernel
theorem dX5_write_32 : decode cX5_write 32 = .ok (.aload_n 0, 1) := by decide +kernel
theorem dX5_write_33 : decode cX5_write 33 = .ok (.getfield 7, 3) := by decide +kernel
theorem dX5_write_36 : decode cX5_write 36 = .ok (.aload_n 0, 1) := by decide +kernel
theorem dX5_write_37 : decode cX5_write 37 = .ok (.getfield 78, 3) := by decide +kernel
theorem dX5_write_40 : decode cX5_write 40 = .ok (.iload_n 1, 1) := by decide +kernel
theorem dX5_write_41 : decode cX5_write 41 = .ok (.iastore, 1) := by decide +kernel
theorem dX5_write_42 : decode cX5_write 42 = .ok (.aload_n 0, 1) := by decide +kernel
theorem dX5_write_43 : decode cX5_write 43 = .ok (.dup, 1) := by decide +kernel
theorem dX5_write_44 : decode cX5_write 44 = .ok (.getfield 78, 3) := by decide +kernel
theorem dX5_write_47 : decode cX5_write 47 = .ok (.iconst 1, 1) := by decide +kernel
theorem dX5_write_48 : decode cX5_write 48 = .ok (.iadd, 1) := by decide +kernel
theorem dX5_write_49 : decode cX5_write 49 = .ok (.putfield 78, 3) := by decide +kernel
theorem dX5_write_52 : decode cX5_write 52 = .ok (.aload_n 0, 1) := by decide +kernel
theorem dX5_write_53 : decode cX5_write 53 = .ok (.getfield 78, 3) := by decide +kernel
theorem dX5_write_56 : decode cX5_write 56 = .ok (.ireturn, 1) := by decide +kernel
theorem dX5_wipe_0 : decode cX5_wipe 0 = .ok (.aload_n 0, 1) := by decide +kernel
theorem dX5_wipe_1 : decode cX5_wipe 1 = .ok (.iconst 0, 1) := by decide +kernel
theorem dX5_wipe_2 : decode cX5_wipe 2 = .ok (.putfield 63, 3) := by decide +kernel
theorem dX5_wipe_5 : decode cX5_wipe 5 = .ok (.aload_n 0, 1) := by decide +kernel
theorem dX5_wipe_6 : decode cX5_wipe 6 = .ok (.getfield 78, 3) := by decide +kernel
theorem dX5_wipe_9 : decode cX5_wipe 9 = .ok (.istore_n 1, 1) := by decide +kernel
theorem dX5_wipe_10 : decode cX5_wipe 10 = .ok (.aload_n 0, 1) := by decide +kernel
theorem dX5_wipe_11 : decode cX5_wipe 11 = .ok (.iconst 0, 1) := by decide +kernel
theorem dX5_wipe_12 : decode cX5_wipe 12 = .ok (.putfield 78, 3) := by decide +kernel
theorem dX5_wipe_15 : decode cX5_wipe 15 = .ok (.iload_n 1, 1) := by decide +kernel
theorem dX5_wipe_16 : decode cX5_wipe 16 = .ok (.ireturn, 1) := by decide +kernel
set_option maxRecDepth 20000 in
theorem ggX5_figure_X5_in : GoodIn wsX5_figure wsX5_in := goodIn_r _ [7] (by decide +kernel) (by decide +kernel)
set_option maxRecDepth 20000 in
theorem gX5_figure_X5_in : GoodIn wsX5_figure (va_wsS RX5 69 yX5_in wsX5_in) := goodIn_app (goodIn_of _ (by decide +kernel)) ggX5_figure_X5_in
theorem dX5_figure_0 : decode cX5_figure 0 = .ok (.aload_n 0, 1) := by decide +kernel
theorem dX5_figure_1 : decode cX5_figure 1 = .ok (.getfield 81, 3) := by decide +kernel
theorem dX5_figure_4 : decode cX5_figure 4 = .ok (.aload_n 0, 1) := by decide +kernel
theorem dX5_figure_5 : decode cX5_figure 5 = .ok (.getfield 78, 3) := by decide +kernel
theorem dX5_figure_8 : decode cX5_figure 8 = .ok (.if_icmp .eq 26, 3) := by decide +kernel
theorem dX5_figure_11 : decode cX5_figure 11 = .ok (.aload_n 0, 1) := by decide +kernel
theorem dX5_figure_12 : decode cX5_figure 12 = .ok (.getfield 7, 3) := by decide +kernel
theorem dX5_figure_15 : decode cX5_figure 15 = .ok (.aload_n 0, 1) := by decide +kernel
theorem dX5_figure_16 : decode cX5_figure 16 = .ok (.getfield 81, 3) := by decide +kernel
theorem dX5_figure_19 : decode cX5_figure 19 = .ok (.iaload, 1) := by decide +kernel
theorem dX5_figure_20 : decode cX5_figure 20 = .ok (.bipush 48, 2) := by decide +kernel
theorem dX5_figure_22 : decode cX5_figure 22 = .ok (.isub, 1) := by decide +kernel
theorem dX5_figure_23 : decode cX5_figure 23 = .ok (.i2l, 1) := by decide +kernel
theorem dX5_figure_24 : decode cX5_figure 24 = .ok (.iload_n 1, 1) := by decide +kernel
theorem dX5_figure_25 : decode cX5_figure 25 = .ok (.i2l, 1) := by decide +kernel
theorem dX5_figure_26 : decode cX5_figure 26 = .ok (.iload_n 2, 1) := by decide +kernel
theorem dX5_figure_27 : decode cX5_figure 27 = .ok (.i2l, 1) := by decide +kernel
theorem dX5_figure_28 : decode cX5_figure 28 = .ok (.invokestatic 69, 3) := by decide +kernel
theorem dX5_figure_31 : decode cX5_figure 31 = .ok (.ifCond .ne 6, 3) := by decide +kernel
theorem dX5_figure_34 : decode cX5_figure 34 = .ok (.bipush (-9), 2) := by decide +kernel
theorem dX5_figure_36 : decode cX5_figure 36 = .ok (.ireturn, 1) := by decide +kernel
theorem dX5_figure_37 : decode cX5_figure 37 = .ok (.aload_n 0, 1) := by decide +kernel
theorem dX5_figure_38 : decode cX5_figure 38 = .ok (.dup, 1) := by decide +kernel
theorem dX5_figure_39 : decode cX5_figure 39 = .ok (.getfield 81, 3) := by decide +kernel
theorem dX5_figure_42 : decode cX5_figure 42 = .ok (.iconst 1, 1) := by decide +kernel
theorem dX5_figure_43 : decode cX5_figure 43 = .ok (.iadd, 1) := by decide +kernel
theorem dX5_figure_44 : decode cX5_figure 44 = .ok (.putfield 81, 3) := by decide +kernel
theorem dX5_figure_47 : decode cX5_figure 47 = .ok (.aload_n 0, 1) := by decide +kernel
theorem dX5_figure_48 : decode cX5_figure 48 = .ok (.getfield 7, 3) := by decide +kernel
theorem dX5_figure_51 : decode cX5_figure 51 = .ok (.aload_n 0, 1) := by decide +kernel
theorem dX5_figure_52 : decode cX5_figure 52 = .ok (.getfield 81, 3) := by decide +kernel
theorem dX5_figure_55 : decode cX5_figure 55 = .ok (.iconst 1, 1) := by decide +kernel
theorem dX5_figure_56 : decode cX5_figure 56 = .ok (.isub, 1) := by decide +kernel
theorem dX5_figure_57 : decode cX5_figure 57 = .ok (.iaload, 1) := by decide +kernel
theorem dX5_figure_58 : decode cX5_figure 58 = .ok (.bipush 48, 2) := by decide +kernel
theorem dX5_figure_60 : decode cX5_figure 60 = .ok (.isub, 1) := by decide +kernel
theorem dX5_figure_61 : decode cX5_figure 61 = .ok (.ireturn, 1) := by decide +kernel
set_option maxRecDepth 20000 in
theorem ggX5_readLegger_X5_figure : GoodIn wsX5_readLegger wsX5_figure := goodIn_r _ [7, 8, 9, 10, 11, 12, 6, 13, 14, 15, 16, 17, 18, 19, 20, 21, 22, 23, 24, 25, 26, 27, 28, 29, 30, 31, 32, 33, 34, 35, 36, 37, 38, 39, 40, 41, 42, 43, 44, 45, 46, 47, 48, 49, 50] (by decide +kernel) (by decide +kernel)
set_option maxRecDepth 20000 in
theorem gX5_readLegger_X5_figure : GoodIn wsX5_readLegger (wsV RX5 84 RX5 yX5_figure wsX5_figure) := goodIn_app (goodIn_of _ (by decide +kernel)) ggX5_readLegger_X5_figure
theorem dX5_readLegger_0 : decode cX5_readLegger 0 = .ok (.iconst 0, 1) := by decide +kernel
theorem dX5_readLegger_1 : decode cX5_readLegger 1 = .ok (.istore_n 1, 1) := by decide +kernel
theorem dX5_readLegger_2 : decode cX5_readLegger 2 = .ok (.iload_n 1, 1) := by decide +kernel
theorem dX5_readLegger_3 : decode cX5_readLegger 3 = .ok (.iconst 5, 1) := by decide +kernel
theorem dX5_readLegger_4 : decode cX5_readLegger 4 = .ok (.if_icmp .ge 38, 3) := by decide +kernel
theorem dX5_readLegger_7 : decode cX5_readLegger 7 = .ok (.aload_n 0, 1) := by decide +kernel
theorem dX5_readLegger_8 : decode cX5_readLegger 8 = .ok (.iconst 0, 1) := by decide +kernel
theorem dX5_readLegger_9 : decode cX5_readLegger 9 = .ok (.iconst 3, 1) := by decide +kernel
theorem dX5_readLegger_10 : decode cX5_readLegger 10 = .ok (.invokevirtual 84, 3) := by decide +kernel
theorem dX5_readLegger_13 : decode cX5_readLegger 13 = .ok (.istore_n 2, 1) := by decide +kernel
theorem dX5_readLegger_14 : decode cX5_readLegger 14 = .ok (.iload_n 2, 1) := by decide +kernel
theorem dX5_readLegger_15 : decode cX5_readLegger 15 = .ok (.bipush (-9), 2) := by decide +kernel
theorem dX5_readLegger_17 : decode cX5_readLegger 17 = .ok (.if_icmp .ne 5, 3) := by decide +kernel
theorem dX5_readLegger_20 : decode cX5_readLegger 20 = .ok (.iconst 0, 1) := by decide +kernel
theorem dX5_readLegger_21 : decode cX5_readLegger 21 = .ok (.ireturn, 1) := by decide +kernel
theorem dX5_readLegger_22 : decode cX5_readLegger 22 = .ok (.aload_n 0, 1) := by decide +kernel
theorem dX5_readLegger_23 : decode cX5_readLegger 23 = .ok (.getfield 23, 3) := by decide +kernel
theorem dX5_readLegger_26 : decode cX5_readLegger 26 = .ok (.iconst 5, 1) := by decide +kernel
theorem dX5_readLegger_27 : decode cX5_readLegger 27 = .ok (.aload_n 0, 1) := by decide +kernel
theorem dX5_readLegger_28 : decode cX5_readLegger 28 = .ok (.getfield 88, 3) := by decide +kernel
theorem dX5_readLegger_31 : decode cX5_readLegger 31 = .ok (.imul, 1) := by decide +kernel
theorem dX5_readLegger_32 : decode cX5_readLegger 32 = .ok (.iload_n 1, 1) := by decide +kernel
theorem dX5_readLegger_33 : decode cX5_readLegger 33 = .ok (.iadd, 1) := by decide +kernel
theorem dX5_readLegger_34 : decode cX5_readLegger 34 = .ok (.iload_n 2, 1) := by decide +kernel
theorem dX5_readLegger_35 : decode cX5_readLegger 35 = .ok (.iastore, 1) := by decide +kernel
theorem dX5_readLegger_36 : decode cX5_readLegger 36 = .ok (.iinc 1 1, 3) := by decide +kernel
theorem dX5_readLegger_39 : decode cX5_readLegger 39 = .ok (.goto (-37), 3) := by decide +kernel
theorem dX5_readLegger_42 : decode cX5_readLegger 42 = .ok (.aload_n 0, 1) := by decide +kernel
theorem dX5_readLegger_43 : decode cX5_readLegger 43 = .ok (.dup, 1) := by decide +kernel
theorem dX5_readLegger_44 : decode cX5_readLegger 44 = .ok (.getfield 88, 3) := by decide +kernel
theorem dX5_readLegger_47 : decode cX5_readLegger 47 = .ok (.iconst 1, 1) := by decide +kernel
theorem dX5_readLegger_48 : decode cX5_readLegger 48 = .ok (.iadd, 1) := by decide +kernel
theorem dX5_readLegger_49 : decode cX5_readLegger 49 = .ok (.putfield 88, 3) := by decide +kernel
theorem dX5_readLegger_52 : decode cX5_readLegger 52 = .ok (.iconst 1, 1) := by decide +kernel
theorem dX5_readLegger_53 : decode cX5_readLegger 53 = .ok (.ireturn, 1) := by decide +kernel
set_option maxRecDepth 20000 in
theorem ggX5_readPart_X5_readLegger : GoodIn wsX5_readPart wsX5_readLegger := goodIn_r _ [10, 11, 3, 12, 13, 14, 9, 15, 2, 16, 1, 17, 18, 19, 20, 21, 22, 23, 24, 25, 26, 27, 28, 29, 30, 31, 32, 33, 34, 35, 36, 37, 38, 39, 40, 41, 42, 43, 44, 45, 46, 47, 48, 49, 50, 51, 52, 53, 54, 55, 56] (by decide +kernel) (by decide +kernel)
set_option maxRecDepth 20000 in
theorem gX5_readPart_X5_readLegger : GoodIn wsX5_readPart (wsV RX5 91 RX5 yX5_readLegger wsX5_readLegger) := goodIn_app (goodIn_of _ (by decide +kernel)) ggX5_readPart_X5_readLegger
set_option maxRecDepth 20000 in
theorem ggX5_readPart_X5_figure : GoodIn wsX5_readPart wsX5_figure := goodIn_r _ [15, 2, 16, 1, 17, 18, 9, 19, 20, 21, 22, 23, 24, 25, 26, 27, 28, 29, 30, 31, 32, 33, 34, 35, 36, 37, 38, 39, 40, 41, 42, 43, 44, 45, 46, 47, 48, 49, 50, 51, 52, 53, 54, 55, 56] (by decide +kernel) (by decide +kernel)
set_option maxRecDepth 20000 in
theorem gX5_readPart_X5_figure : GoodIn wsX5_readPart (wsV RX5 84 RX5 yX5_figure wsX5_figure) := goodIn_app (goodIn_of _ (by decide +kernel)) ggX5_readPart_X5_figure
theorem dX5_readPart_0 : decode cX5_readPart 0 = .ok (.aload_n 0, 1) := by decide +kernel
theorem dX5_readPart_1 : decode cX5_readPart 1 = .ok (.getfield 7, 3) := by decide +kernel
theorem dX5_readPart_4 : decode cX5_readPart 4 = .ok (.aload_n 0, 1) := by decide +kernel
theorem dX5_readPart_5 : decode cX5_readPart 5 = .ok (.getfield 81, 3) := by decide +kernel
theorem dX5_readPart_8 : decode cX5_readPart 8 = .ok (.iaload, 1) := by decide +kernel
theorem dX5_readPart_9 : decode cX5_readPart 9 = .ok (.istore_n 1, 1) := by decide +kernel
theorem dX5_readPart_10 : decode cX5_readPart 10 = .ok (.aload_n 0, 1) := by decide +kernel
theorem dX5_readPart_11 : decode cX5_readPart 11 = .ok (.dup, 1) := by decide +kernel
theorem dX5_readPart_12 : decode cX5_readPart 12 = .ok (.getfield 81, 3) := by decide +kernel
theorem dX5_readPart_15 : decode cX5_readPart 15 = .ok (.iconst 1, 1) := by decide +kernel
theorem dX5_readPart_16 : decode cX5_readPart 16 = .ok (.iadd, 1) := by decide +kernel
theorem dX5_readPart_17 : decode cX5_readPart 17 = .ok (.putfield 81, 3) := by decide +kernel
theorem dX5_readPart_20 : decode cX5_readPart 20 = .ok (.iload_n 1, 1) := by decide +kernel
theorem dX5_readPart_21 : decode cX5_readPart 21 = .ok (.bipush 71, 2) := by decide +kernel
theorem dX5_readPart_23 : decode cX5_readPart 23 = .ok (.if_icmp .ne 16, 3) := by decide +kernel
theorem dX5_readPart_26 : decode cX5_readPart 26 = .ok (.aload_n 0, 1) := by decide +kernel
theorem dX5_readPart_27 : decode cX5_readPart 27 = .ok (.getfield 88, 3) := by decide +kernel
theorem dX5_readPart_30 : decode cX5_readPart 30 = .ok (.iconst 4, 1) := by decide +kernel
theorem dX5_readPart_31 : decode cX5_readPart 31 = .ok (.if_icmp .ge 8, 3) := by decide +kernel
theorem dX5_readPart_34 : decode cX5_readPart 34 = .ok (.aload_n 0, 1) := by decide +kernel
theorem dX5_readPart_35 : decode cX5_readPart 35 = .ok (.invokevirtual 91, 3) := by decide +kernel
theorem dX5_readPart_38 : decode cX5_readPart 38 = .ok (.ireturn, 1) := by decide +kernel
theorem dX5_readPart_39 : decode cX5_readPart 39 = .ok (.iload_n 1, 1) := by decide +kernel
theorem dX5_readPart_40 : decode cX5_readPart 40 = .ok (.bipush 66, 2) := by decide +kernel
theorem dX5_readPart_42 : decode cX5_readPart 42 = .ok (.if_icmp .ne 49, 3) := by decide +kernel
theorem dX5_readPart_45 : decode cX5_readPart 45 = .ok (.aload_n 0, 1) := by decide +kernel
theorem dX5_readPart_46 : decode cX5_readPart 46 = .ok (.getfield 94, 3) := by decide +kernel
theorem dX5_readPart_49 : decode cX5_readPart 49 = .ok (.iconst 3, 1) := by decide +kernel
theorem dX5_readPart_50 : decode cX5_readPart 50 = .ok (.if_icmp .ge 41, 3) := by decide +kernel
theorem dX5_readPart_53 : decode cX5_readPart 53 = .ok (.aload_n 0, 1) := by decide +kernel
theorem dX5_readPart_54 : decode cX5_readPart 54 = .ok (.iconst 0, 1) := by decide +kernel
theorem dX5_readPart_55 : decode cX5_readPart 55 = .ok (.bipush 9, 2) := by decide +kernel
theorem dX5_readPart_57 : decode cX5_readPart 57 = .ok (.invokevirtual 84, 3) := by decide +kernel
theorem dX5_readPart_60 : decode cX5_readPart 60 = .ok (.istore_n 2, 1) := by decide +kernel
theorem dX5_readPart_61 : decode cX5_readPart 61 = .ok (.iload_n 2, 1) := by decide +kernel
theorem dX5_readPart_62 : decode cX5_readPart 62 = .ok (.bipush (-9), 2) := by decide +kernel
theorem dX5_readPart_64 : decode cX5_readPart 64 = .ok (.if_icmp .ne 5, 3) := by decide +kernel
theorem dX5_readPart_67 : decode cX5_readPart 67 = .ok (.iconst 0, 1) := by decide +kernel
theorem dX5_readPart_68 : decode cX5_readPart 68 = .ok (.ireturn, 1) := by decide +kernel
theorem dX5_readPart_69 : decode cX5_readPart 69 = .ok (.aload_n 0, 1) := by decide +kernel
theorem dX5_readPart_70 : decode cX5_readPart 70 = .ok (.getfield 26, 3) := by decide +kernel
theorem dX5_readPart_73 : decode cX5_readPart 73 = .ok (.aload_n 0, 1) := by decide +kernel
theorem dX5_readPart_74 : decode cX5_readPart 74 = .ok (.getfield 94, 3) := by decide +kernel
theorem dX5_readPart_77 : decode cX5_readPart 77 = .ok (.iload_n 2, 1) := by decide +kernel
theorem dX5_readPart_78 : decode cX5_readPart 78 = .ok (.iastore, 1) := by decide +kernel
theorem dX5_readPart_79 : decode cX5_readPart 79 = .ok (.aload_n 0, 1) := by decide +kernel
theorem dX5_readPart_80 : decode cX5_readPart 80 = .ok (.dup, 1) := by decide +kernel
theorem dX5_readPart_81 : decode cX5_readPart 81 = .ok (.getfield 94, 3) := by decide +kernel
theorem dX5_readPart_84 : decode cX5_readPart 84 = .ok (.iconst 1, 1) := by decide +kernel
theorem dX5_readPart_85 : decode cX5_readPart 85 = .ok (.iadd, 1) := by decide +kernel
theorem dX5_readPart_86 : decode cX5_readPart 86 = .ok (.putfield 94, 3) := by decide +kernel
theorem dX5_readPart_89 : decode cX5_readPart 89 = .ok (.iconst 1, 1) := by decide +kernel
theorem dX5_readPart_90 : decode cX5_readPart 90 = .ok (.ireturn, 1) := by decide +kernel
theorem dX5_readPart_91 : decode cX5_readPart 91 = .ok (.aload_n 0, 1) := by decide +kernel
theorem dX5_readPart_92 : decode cX5_readPart 92 = .ok (.dup, 1) := by decide +kernel
theorem dX5_readPart_93 : decode cX5_readPart 93 = .ok (.getfield 81, 3) := by decide +kernel
theorem dX5_readPart_96 : decode cX5_readPart 96 = .ok (.iconst 1, 1) := by decide +kernel
theorem dX5_readPart_97 : decode cX5_readPart 97 = .ok (.isub, 1) := by decide +kernel
theorem dX5_readPart_98 : decode cX5_readPart 98 = .ok (.putfield 81, 3) := by decide +kernel
theorem dX5_readPart_101 : decode cX5_readPart 101 = .ok (.iconst 0, 1) := by decide +kernel
theorem dX5_readPart_102 : decode cX5_readPart 102 = .ok (.ireturn, 1) := by decide +kernel
set_option maxRecDepth 20000 in
theorem ggX5_readTunnel_X5_figure : GoodIn wsX5_readTunnel wsX5_figure := goodIn_r _ [11, 1, 4, 5, 12, 13, 10, 14, 25, 26, 27, 28, 29, 30, 31, 32, 33, 34, 35, 36, 37, 38, 39, 40, 41, 42, 43, 44, 45, 46, 47, 48, 49, 50, 51, 52, 53, 54, 55, 56, 57, 58, 59, 60, 61] (by decide +kernel) (by decide +kernel)
set_option maxRecDepth 20000 in
theorem gX5_readTunnel_X5_figure : GoodIn wsX5_readTunnel (wsV RX5 84 RX5 yX5_figure wsX5_figure) := goodIn_app (goodIn_of _ (by decide +kernel)) ggX5_readTunnel_X5_figure
set_option maxRecDepth 20000 in
theorem ggX5_readTunnel_X5_readPart : GoodIn wsX5_readTunnel wsX5_readPart := goodIn_r _ [18, 5, 1, 2, 3, 19, 20, 21, 22, 10, 23, 24, 7, 8, 9, 11, 4, 12, 13, 14, 25, 26, 27, 28, 29, 30, 31, 32, 33, 34, 35, 36, 37, 38, 39, 40, 41, 42, 43, 44, 45, 46, 47, 48, 49, 50, 51, 52, 53, 54, 55, 56, 57, 58, 59, 60, 61] (by decide +kernel) (by decide +kernel)
set_option maxRecDepth 20000 in
theorem gX5_readTunnel_X5_readPart : GoodIn wsX5_readTunnel (wsV RX5 100 RX5 yX5_readPart wsX5_readPart) := goodIn_app (goodIn_of _ (by decide +kernel)) ggX5_readTunnel_X5_readPart
theorem dX5_readTunnel_0 : decode cX5_readTunnel 0 = .ok (.aload_n 0, 1) := by decide +kernel
theorem dX5_readTunnel_1 : decode cX5_readTunnel 1 = .ok (.iconst 0, 1) := by decide +kernel
theorem dX5_readTunnel_2 : decode cX5_readTunnel 2 = .ok (.putfield 81, 3) := by decide +kernel
theorem dX5_readTunnel_5 : decode cX5_readTunnel 5 = .ok (.aload_n 0, 1) := by decide +kernel
theorem dX5_readTunnel_6 : decode cX5_readTunnel 6 = .ok (.iconst 0, 1) := by decide +kernel
theorem dX5_readTunnel_7 : decode cX5_readTunnel 7 = .ok (.putfield 88, 3) := by decide +kernel
theorem dX5_readTunnel_10 : decode cX5_readTunnel 10 = .ok (.aload_n 0, 1) := by decide +kernel
theorem dX5_readTunnel_11 : decode cX5_readTunnel 11 = .ok (.iconst 0, 1) := by decide +kernel
theorem dX5_readTunnel_12 : decode cX5_readTunnel 12 = .ok (.putfield 94, 3) := by decide +kernel
theorem dX5_readTunnel_15 : decode cX5_readTunnel 15 = .ok (.aload_n 0, 1) := by decide +kernel
theorem dX5_readTunnel_16 : decode cX5_readTunnel 16 = .ok (.getfield 78, 3) := by decide +kernel
theorem dX5_readTunnel_19 : decode cX5_readTunnel 19 = .ok (.ifCond .eq 14, 3) := by decide +kernel
theorem dX5_readTunnel_22 : decode cX5_readTunnel 22 = .ok (.aload_n 0, 1) := by decide +kernel
theorem dX5_readTunnel_23 : decode cX5_readTunnel 23 = .ok (.getfield 7, 3) := by decide +kernel
theorem dX5_readTunnel_26 : decode cX5_readTunnel 26 = .ok (.iconst 0, 1) := by decide +kernel
theorem dX5_readTunnel_27 : decode cX5_readTunnel 27 = .ok (.iaload, 1) := by decide +kernel
theorem dX5_readTunnel_28 : decode cX5_readTunnel 28 = .ok (.bipush 76, 2) := by decide +kernel
theorem dX5_readTunnel_30 : decode cX5_readTunnel 30 = .ok (.if_icmp .eq 5, 3) := by decide +kernel
theorem dX5_readTunnel_33 : decode cX5_readTunnel 33 = .ok (.iconst 0, 1) := by decide +kernel
theorem dX5_readTunnel_34 : decode cX5_readTunnel 34 = .ok (.ireturn, 1) := by decide +kernel
theorem dX5_readTunnel_35 : decode cX5_readTunnel 35 = .ok (.aload_n 0, 1) := by decide +kernel
theorem dX5_readTunnel_36 : decode cX5_readTunnel 36 = .ok (.iconst 1, 1) := by decide +kernel
theorem dX5_readTunnel_37 : decode cX5_readTunnel 37 = .ok (.putfield 81, 3) := by decide +kernel
theorem dX5_readTunnel_40 : decode cX5_readTunnel 40 = .ok (.aload_n 0, 1) := by decide +kernel
theorem dX5_readTunnel_41 : decode cX5_readTunnel 41 = .ok (.aload_n 0, 1) := by decide +kernel
theorem dX5_readTunnel_42 : decode cX5_readTunnel 42 = .ok (.iconst 1, 1) := by decide +kernel
theorem dX5_readTunnel_43 : decode cX5_readTunnel 43 = .ok (.bipush 6, 2) := by decide +kernel
theorem dX5_readTunnel_45 : decode cX5_readTunnel 45 = .ok (.invokevirtual 84, 3) := by decide +kernel
theorem dX5_readTunnel_48 : decode cX5_readTunnel 48 = .ok (.putfield 97, 3) := by decide +kernel
theorem dX5_readTunnel_51 : decode cX5_readTunnel 51 = .ok (.aload_n 0, 1) := by decide +kernel
theorem dX5_readTunnel_52 : decode cX5_readTunnel 52 = .ok (.getfield 97, 3) := by decide +kernel
theorem dX5_readTunnel_55 : decode cX5_readTunnel 55 = .ok (.bipush (-9), 2) := by decide +kernel
theorem dX5_readTunnel_57 : decode cX5_readTunnel 57 = .ok (.if_icmp .ne 8, 3) := by decide +kernel
theorem dX5_readTunnel_60 : decode cX5_readTunnel 60 = .ok (.aload_n 0, 1) := by decide +kernel
theorem dX5_readTunnel_61 : decode cX5_readTunnel 61 = .ok (.getfield 81, 3) := by decide +kernel
theorem dX5_readTunnel_64 : decode cX5_readTunnel 64 = .ok (.ireturn, 1) := by decide +kernel
theorem dX5_readTunnel_65 : decode cX5_readTunnel 65 = .ok (.aload_n 0, 1) := by decide +kernel
theorem dX5_readTunnel_66 : decode cX5_readTunnel 66 = .ok (.getfield 81, 3) := by decide +kernel
theorem dX5_readTunnel_69 : decode cX5_readTunnel 69 = .ok (.aload_n 0, 1) := by decide +kernel
theorem dX5_readTunnel_70 : decode cX5_readTunnel 70 = .ok (.getfield 78, 3) := by decide +kernel
theorem dX5_readTunnel_73 : decode cX5_readTunnel 73 = .ok (.if_icmp .ge 15, 3) := by decide +kernel
theorem dX5_readTunnel_76 : decode cX5_readTunnel 76 = .ok (.aload_n 0, 1) := by decide +kernel
theorem dX5_readTunnel_77 : decode cX5_readTunnel 77 = .ok (.invokevirtual 100, 3) := by decide +kernel
theorem dX5_readTunnel_80 : decode cX5_readTunnel 80 = .ok (.ifCond .ne (-15), 3) := by decide +kernel
theorem dX5_readTunnel_83 : decode cX5_readTunnel 83 = .ok (.aload_n 0, 1) := by decide +kernel
theorem dX5_readTunnel_84 : decode cX5_readTunnel 84 = .ok (.getfield 81, 3) := by decide +kernel
theorem dX5_readTunnel_87 : decode cX5_readTunnel 87 = .ok (.ireturn, 1) := by decide +kernel
theorem dX5_readTunnel_88 : decode cX5_readTunnel 88 = .ok (.bipush (-9), 2) := by decide +kernel
theorem dX5_readTunnel_90 : decode cX5_readTunnel 90 = .ok (.ireturn, 1) := by decide +kernel
set_option maxRecDepth 20000 in
theorem ggX5_fault_X5_readTunnel : GoodIn wsX5_fault wsX5_readTunnel := goodIn_r _ [6, 7, 8, 9, 10, 11, 12, 13, 14, 15, 5, 16, 17, 18, 19, 20, 21, 22, 23, 24, 25, 26, 27, 28, 29, 30, 31, 32, 33, 34, 35, 36, 37, 38, 39, 40, 41, 42, 43, 44, 45, 46, 47, 48, 49, 50, 51, 52, 53, 54, 55, 56, 57, 58, 59, 60, 61, 62, 63, 64, 65, 66] (by decide +kernel) (by decide +kernel)
set_option maxRecDepth 20000 in
theorem gX5_fault_X5_readTunnel : GoodIn wsX5_fault (wsV RX5 103 RX5 yX5_readTunnel wsX5_readTunnel) := goodIn_app (goodIn_of _ (by decide +kernel)) ggX5_fault_X5_readTunnel
theorem dX5_fault_0 : decode cX5_fault 0 = .ok (.aload_n 0, 1) := by decide +kernel
theorem dX5_fault_1 : decode cX5_fault 1 = .ok (.iconst 0, 1) := by decide +kernel
theorem dX5_fault_2 : decode cX5_fault 2 = .ok (.putfield 63, 3) := by decide +kernel
theorem dX5_fault_5 : decode cX5_fault 5 = .ok (.aload_n 0, 1) := by decide +kernel
theorem dX5_fault_6 : decode cX5_fault 6 = .ok (.invokevirtual 103, 3) := by decide +kernel
theorem dX5_fault_9 : decode cX5_fault 9 = .ok (.ireturn, 1) := by decide +kernel
set_option maxRecDepth 20000 in
theorem ggX5_tunnel_X5_readTunnel : GoodIn wsX5_tunnel wsX5_readTunnel := goodIn_r _ [19, 20, 4, 6, 21, 22, 2, 23, 24, 25, 18, 26, 27, 28, 29, 30, 31, 32, 33, 12, 34, 35, 36, 37, 10, 38, 39, 40, 41, 42, 43, 44, 45, 46, 47, 48, 49, 50, 51, 52, 53, 54, 55, 56, 57, 58, 59, 60, 61, 62, 63, 64, 65, 66, 67, 68, 69, 70, 71, 72, 73, 74] (by decide +kernel) (by decide +kernel)
set_option maxRecDepth 20000 in
theorem gX5_tunnel_X5_readTunnel : GoodIn wsX5_tunnel (wsV RX5 103 RX5 yX5_readTunnel wsX5_readTunnel) := goodIn_app (goodIn_of _ (by decide +kernel)) ggX5_tunnel_X5_readTunnel
theorem dX5_tunnel_0 : decode cX5_tunnel 0 = .ok (.aload_n 0, 1) := by decide +kernel
theorem dX5_tunnel_1 : decode cX5_tunnel 1 = .ok (.iconst 0, 1) := by decide +kernel
theorem dX5_tunnel_2 : decode cX5_tunnel 2 = .ok (.putfield 63, 3) := by decide +kernel
theorem dX5_tunnel_5 : decode cX5_tunnel 5 = .ok (.aload_n 0, 1) := by decide +kernel
theorem dX5_tunnel_6 : decode cX5_tunnel 6 = .ok (.invokevirtual 103, 3) := by decide +kernel
theorem dX5_tunnel_9 : decode cX5_tunnel 9 = .ok (.bipush (-9), 2) := by decide +kernel
theorem dX5_tunnel_11 : decode cX5_tunnel 11 = .ok (.if_icmp .eq 6, 3) := by decide +kernel
theorem dX5_tunnel_14 : decode cX5_tunnel 14 = .ok (.bipush (-3), 2) := by decide +kernel
theorem dX5_tunnel_16 : decode cX5_tunnel 16 = .ok (.ireturn, 1) := by decide +kernel
theorem dX5_tunnel_17 : decode cX5_tunnel 17 = .ok (.aload_n 0, 1) := by decide +kernel
theorem dX5_tunnel_18 : decode cX5_tunnel 18 = .ok (.aload_n 0, 1) := by decide +kernel
theorem dX5_tunnel_19 : decode cX5_tunnel 19 = .ok (.getfield 97, 3) := by decide +kernel
theorem dX5_tunnel_22 : decode cX5_tunnel 22 = .ok (.putfield 13, 3) := by decide +kernel
theorem dX5_tunnel_25 : decode cX5_tunnel 25 = .ok (.aload_n 0, 1) := by decide +kernel
theorem dX5_tunnel_26 : decode cX5_tunnel 26 = .ok (.aload_n 0, 1) := by decide +kernel
theorem dX5_tunnel_27 : decode cX5_tunnel 27 = .ok (.getfield 88, 3) := by decide +kernel
theorem dX5_tunnel_30 : decode cX5_tunnel 30 = .ok (.putfield 66, 3) := by decide +kernel
theorem dX5_tunnel_33 : decode cX5_tunnel 33 = .ok (.aload_n 0, 1) := by decide +kernel
theorem dX5_tunnel_34 : decode cX5_tunnel 34 = .ok (.aload_n 0, 1) := by decide +kernel
theorem dX5_tunnel_35 : decode cX5_tunnel 35 = .ok (.getfield 94, 3) := by decide +kernel
theorem dX5_tunnel_38 : decode cX5_tunnel 38 = .ok (.putfield 73, 3) := by decide +kernel
theorem dX5_tunnel_41 : decode cX5_tunnel 41 = .ok (.iconst 0, 1) := by decide +kernel
theorem dX5_tunnel_42 : decode cX5_tunnel 42 = .ok (.istore_n 1, 1) := by decide +kernel
theorem dX5_tunnel_43 : decode cX5_tunnel 43 = .ok (.iload_n 1, 1) := by decide +kernel
theorem dX5_tunnel_44 : decode cX5_tunnel 44 = .ok (.bipush 22, 2) := by decide +kernel
theorem dX5_tunnel_46 : decode cX5_tunnel 46 = .ok (.if_icmp .ge 16, 3) := by decide +kernel
theorem dX5_tunnel_49 : decode cX5_tunnel 49 = .ok (.aload_n 0, 1) := by decide +kernel
theorem dX5_tunnel_50 : decode cX5_tunnel 50 = .ok (.getfield 29, 3) := by decide +kernel
theorem dX5_tunnel_53 : decode cX5_tunnel 53 = .ok (.iload_n 1, 1) := by decide +kernel
theorem dX5_tunnel_54 : decode cX5_tunnel 54 = .ok (.iconst 0, 1) := by decide +kernel
theorem dX5_tunnel_55 : decode cX5_tunnel 55 = .ok (.iastore, 1) := by decide +kernel
theorem dX5_tunnel_56 : decode cX5_tunnel 56 = .ok (.iinc 1 1, 3) := by decide +kernel
theorem dX5_tunnel_59 : decode cX5_tunnel 59 = .ok (.goto (-16), 3) := by decide +kernel
theorem dX5_tunnel_62 : decode cX5_tunnel 62 = .ok (.iconst 0, 1) := by decide +kernel
theorem dX5_tunnel_63 : decode cX5_tunnel 63 = .ok (.istore_n 1, 1) := by decide +kernel
theorem dX5_tunnel_64 : decode cX5_tunnel 64 = .ok (.iload_n 1, 1) := by decide +kernel
theorem dX5_tunnel_65 : decode cX5_tunnel 65 = .ok (.aload_n 0, 1) := by decide +kernel
theorem dX5_tunnel_66 : decode cX5_tunnel 66 = .ok (.getfield 66, 3) := by decide +kernel
theorem dX5_tunnel_69 : decode cX5_tunnel 69 = .ok (.if_icmp .ge 60, 3) := by decide +kernel
theorem dX5_tunnel_72 : decode cX5_tunnel 72 = .ok (.aload_n 0, 1) := by decide +kernel
theorem dX5_tunnel_73 : decode cX5_tunnel 73 = .ok (.getfield 17, 3) := by decide +kernel
theorem dX5_tunnel_76 : decode cX5_tunnel 76 = .ok (.iload_n 1, 1) := by decide +kernel
theorem dX5_tunnel_77 : decode cX5_tunnel 77 = .ok (.aload_n 0, 1) := by decide +kernel
theorem dX5_tunnel_78 : decode cX5_tunnel 78 = .ok (.getfield 23, 3) := by decide +kernel
theorem dX5_tunnel_81 : decode cX5_tunnel 81 = .ok (.iconst 5, 1) := by decide +kernel
theorem dX5_tunnel_82 : decode cX5_tunnel 82 = .ok (.iload_n 1, 1) := by decide +kernel
theorem dX5_tunnel_83 : decode cX5_tunnel 83 = .ok (.imul, 1) := by decide +kernel
theorem dX5_tunnel_84 : decode cX5_tunnel 84 = .ok (.iaload, 1) := by decide +kernel
theorem dX5_tunnel_85 : decode cX5_tunnel 85 = .ok (.iastore, 1) := by decide +kernel
theorem dX5_tunnel_86 : decode cX5_tunnel 86 = .ok (.iconst 0, 1) := by decide +kernel
theorem dX5_tunnel_87 : decode cX5_tunnel 87 = .ok (.istore_n 2, 1) := by decide +kernel
theorem dX5_tunnel_88 : decode cX5_tunnel 88 = .ok (.iload_n 2, 1) := by decide +kernel
theorem dX5_tunnel_89 : decode cX5_tunnel 89 = .ok (.iconst 4, 1) := by decide +kernel
theorem dX5_tunnel_90 : decode cX5_tunnel 90 = .ok (.if_icmp .ge 33, 3) := by decide +kernel
theorem dX5_tunnel_93 : decode cX5_tunnel 93 = .ok (.aload_n 0, 1) := by decide +kernel
theorem dX5_tunnel_94 : decode cX5_tunnel 94 = .ok (.getfield 29, 3) := by decide +kernel
theorem dX5_tunnel_97 : decode cX5_tunnel 97 = .ok (.iconst 0, 1) := by decide +kernel
theorem dX5_tunnel_98 : decode cX5_tunnel 98 = .ok (.iconst 4, 1) := by decide +kernel
theorem dX5_tunnel_99 : decode cX5_tunnel 99 = .ok (.iload_n 1, 1) := by decide +kernel
theorem dX5_tunnel_100 : decode cX5_tunnel 100 = .ok (.imul, 1) := by decide +kernel
theorem dX5_tunnel_101 : decode cX5_tunnel 101 = .ok (.iadd, 1) := by decide +kernel
theorem dX5_tunnel_102 : decode cX5_tunnel 102 = .ok (.iload_n 2, 1) := by decide +kernel
theorem dX5_tunnel_103 : decode cX5_tunnel 103 = .ok (.iadd, 1) := by decide +kernel
theorem dX5_tunnel_104 : decode cX5_tunnel 104 = .ok (.aload_n 0, 1) := by decide +kernel
theorem dX5_tunnel_105 : decode cX5_tunnel 105 = .ok (.getfield 23, 3) := by decide +kernel
theorem dX5_tunnel_108 : decode cX5_tunnel 108 = .ok (.iconst 5, 1) := by decide +kernel
theorem dX5_tunnel_109 : decode cX5_tunnel 109 = .ok (.iload_n 1, 1) := by decide +kernel
theorem dX5_tunnel_110 : decode cX5_tunnel 110 = .ok (.imul, 1) := by decide +kernel
theorem dX5_tunnel_111 : decode cX5_tunnel 111 = .ok (.iconst 1, 1) := by decide +kernel
theorem dX5_tunnel_112 : decode cX5_tunnel 112 = .ok (.iadd, 1) := by decide +kernel
theorem dX5_tunnel_113 : decode cX5_tunnel 113 = .ok (.iload_n 2, 1) := by decide +kernel
theorem dX5_tunnel_114 : decode cX5_tunnel 114 = .ok (.iadd, 1) := by decide +kernel
theorem dX5_tunnel_115 : decode cX5_tunnel 115 = .ok (.iaload, 1) := by decide +kernel
theorem dX5_tunnel_116 : decode cX5_tunnel 116 = .ok (.iastore, 1) := by decide +kernel
theorem dX5_tunnel_117 : decode cX5_tunnel 117 = .ok (.iinc 2 1, 3) := by decide +kernel
theorem dX5_tunnel_120 : decode cX5_tunnel 120 = .ok (.goto (-32), 3) := by decide +kernel
theorem dX5_tunnel_123 : decode cX5_tunnel 123 = .ok (.iinc 1 1, 3) := by decide +kernel
theorem dX5_tunnel_126 : decode cX5_tunnel 126 = .ok (.goto (-62), 3) := by decide +kernel
theorem dX5_tunnel_129 : decode cX5_tunnel 129 = .ok (.iconst 0, 1) := by decide +kernel
theorem dX5_tunnel_130 : decode cX5_tunnel 130 = .ok (.istore_n 1, 1) := by decide +kernel
theorem dX5_tunnel_131 : decode cX5_tunnel 131 = .ok (.iload_n 1, 1) := by decide +kernel
theorem dX5_tunnel_132 : decode cX5_tunnel 132 = .ok (.aload_n 0, 1) := by decide +kernel
theorem dX5_tunnel_133 : decode cX5_tunnel 133 = .ok (.getfield 73, 3) := by decide +kernel
theorem dX5_tunnel_136 : decode cX5_tunnel 136 = .ok (.if_icmp .ge 21, 3) := by decide +kernel
theorem dX5_tunnel_139 : decode cX5_tunnel 139 = .ok (.aload_n 0, 1) := by decide +kernel
theorem dX5_tunnel_140 : decode cX5_tunnel 140 = .ok (.getfield 20, 3) := by decide +kernel
theorem dX5_tunnel_143 : decode cX5_tunnel 143 = .ok (.iload_n 1, 1) := by decide +kernel
theorem dX5_tunnel_144 : decode cX5_tunnel 144 = .ok (.aload_n 0, 1) := by decide +kernel
theorem dX5_tunnel_145 : decode cX5_tunnel 145 = .ok (.getfield 26, 3) := by decide +kernel
theorem dX5_tunnel_148 : decode cX5_tunnel 148 = .ok (.iload_n 1, 1) := by decide +kernel
theorem dX5_tunnel_149 : decode cX5_tunnel 149 = .ok (.iaload, 1) := by decide +kernel
theorem dX5_tunnel_150 : decode cX5_tunnel 150 = .ok (.iastore, 1) := by decide +kernel
theorem dX5_tunnel_151 : decode cX5_tunnel 151 = .ok (.iinc 1 1, 3) := by decide +kernel
theorem dX5_tunnel_154 : decode cX5_tunnel 154 = .ok (.goto (-23), 3) := by decide +kernel
theorem dX5_tunnel_157 : decode cX5_tunnel 157 = .ok (.aload_n 0, 1) := by decide +kernel
theorem dX5_tunnel_158 : decode cX5_tunnel 158 = .ok (.iconst 0, 1) := by decide +kernel
theorem dX5_tunnel_159 : decode cX5_tunnel 159 = .ok (.putfield 107, 3) := by decide +kernel
theorem dX5_tunnel_162 : decode cX5_tunnel 162 = .ok (.aload_n 0, 1) := by decide +kernel
theorem dX5_tunnel_163 : decode cX5_tunnel 163 = .ok (.getfield 44, 3) := by decide +kernel
theorem dX5_tunnel_166 : decode cX5_tunnel 166 = .ok (.iconst 0, 1) := by decide +kernel
theorem dX5_tunnel_167 : decode cX5_tunnel 167 = .ok (.iconst 0, 1) := by decide +kernel
theorem dX5_tunnel_168 : decode cX5_tunnel 168 = .ok (.bastore, 1) := by decide +kernel
theorem dX5_tunnel_169 : decode cX5_tunnel 169 = .ok (.aload_n 0, 1) := by decide +kernel
theorem dX5_tunnel_170 : decode cX5_tunnel 170 = .ok (.getfield 44, 3) := by decide +kernel
theorem dX5_tunnel_173 : decode cX5_tunnel 173 = .ok (.iconst 1, 1) := by decide +kernel
theorem dX5_tunnel_174 : decode cX5_tunnel 174 = .ok (.iconst 0, 1) := by decide +kernel
theorem dX5_tunnel_175 : decode cX5_tunnel 175 = .ok (.bastore, 1) := by decide +kernel
theorem dX5_tunnel_176 : decode cX5_tunnel 176 = .ok (.bipush 10, 2) := by decide +kernel
theorem dX5_tunnel_178 : decode cX5_tunnel 178 = .ok (.aload_n 0, 1) := by decide +kernel
theorem dX5_tunnel_179 : decode cX5_tunnel 179 = .ok (.getfield 66, 3) := by decide +kernel
theorem dX5_tunnel_182 : decode cX5_tunnel 182 = .ok (.imul, 1) := by decide +kernel
theorem dX5_tunnel_183 : decode cX5_tunnel 183 = .ok (.aload_n 0, 1) := by decide +kernel
theorem dX5_tunnel_184 : decode cX5_tunnel 184 = .ok (.getfield 73, 3) := by decide +kernel
theorem dX5_tunnel_187 : decode cX5_tunnel 187 = .ok (.iadd, 1) := by decide +kernel
theorem dX5_tunnel_188 : decode cX5_tunnel 188 = .ok (.ireturn, 1) := by decide +kernel
theorem dX5_minutes_0 : decode cX5_minutes 0 = .ok (.iload_n 0, 1) := by decide +kernel
theorem dX5_minutes_1 : decode cX5_minutes 1 = .ok (.iconst 1, 1) := by decide +kernel
theorem dX5_minutes_2 : decode cX5_minutes 2 = .ok (.if_icmp .ne 7, 3) := by decide +kernel
theorem dX5_minutes_5 : decode cX5_minutes 5 = .ok (.iconst 2, 1) := by decide +kernel
theorem dX5_minutes_6 : decode cX5_minutes 6 = .ok (.goto 13, 3) := by decide +kernel
theorem dX5_minutes_9 : decode cX5_minutes 9 = .ok (.iload_n 0, 1) := by decide +kernel
theorem dX5_minutes_10 : decode cX5_minutes 10 = .ok (.iconst 3, 1) := by decide +kernel
theorem dX5_minutes_11 : decode cX5_minutes 11 = .ok (.if_icmp .ne 7, 3) := by decide +kernel
theorem dX5_minutes_14 : decode cX5_minutes 14 = .ok (.iconst 3, 1) := by decide +kernel
theorem dX5_minutes_15 : decode cX5_minutes 15 = .ok (.goto 4, 3) := by decide +kernel
theorem dX5_minutes_18 : decode cX5_minutes 18 = .ok (.iconst 1, 1) := by decide +kernel
theorem dX5_minutes_19 : decode cX5_minutes 19 = .ok (.ireturn, 1) := by decide +kernel
set_option maxRecDepth 20000 in
theorem ggX5_takes_X5_minutes : GoodIn wsX5_takes wsX5_minutes := goodIn_r _ [6] (by decide +kernel) (by decide +kernel)
set_option maxRecDepth 20000 in
theorem gX5_takes_X5_minutes : GoodIn wsX5_takes (va_wsS RX5 110 yX5_minutes wsX5_minutes) := goodIn_app (goodIn_of _ (by decide +kernel)) ggX5_takes_X5_minutes
theorem dX5_takes_0 : decode cX5_takes 0 = .ok (.aload_n 1, 1) := by decide +kernel
theorem dX5_takes_1 : decode cX5_takes 1 = .ok (.iconst 0, 1) := by decide +kernel
theorem dX5_takes_2 : decode cX5_takes 2 = .ok (.iconst 4, 1) := by decide +kernel
theorem dX5_takes_3 : decode cX5_takes 3 = .ok (.iload_n 2, 1) := by decide +kernel
theorem dX5_takes_4 : decode cX5_takes 4 = .ok (.imul, 1) := by decide +kernel
theorem dX5_takes_5 : decode cX5_takes 5 = .ok (.iadd, 1) := by decide +kernel
theorem dX5_takes_6 : decode cX5_takes 6 = .ok (.iload 4, 2) := by decide +kernel
theorem dX5_takes_8 : decode cX5_takes 8 = .ok (.iadd, 1) := by decide +kernel
theorem dX5_takes_9 : decode cX5_takes 9 = .ok (.iaload, 1) := by decide +kernel
theorem dX5_takes_10 : decode cX5_takes 10 = .ok (.invokestatic 110, 3) := by decide +kernel
theorem dX5_takes_13 : decode cX5_takes 13 = .ok (.istore 5, 2) := by decide +kernel
theorem dX5_takes_15 : decode cX5_takes 15 = .ok (.iload 5, 2) := by decide +kernel
theorem dX5_takes_17 : decode cX5_takes 17 = .ok (.aload_n 0, 1) := by decide +kernel
theorem dX5_takes_18 : decode cX5_takes 18 = .ok (.getfield 17, 3) := by decide +kernel
theorem dX5_takes_21 : decode cX5_takes 21 = .ok (.iload_n 2, 1) := by decide +kernel
theorem dX5_takes_22 : decode cX5_takes 22 = .ok (.iaload, 1) := by decide +kernel
theorem dX5_takes_23 : decode cX5_takes 23 = .ok (.iconst 1, 1) := by decide +kernel
theorem dX5_takes_24 : decode cX5_takes 24 = .ok (.if_icmp .ne 7, 3) := by decide +kernel
theorem dX5_takes_27 : decode cX5_takes 27 = .ok (.iconst 1, 1) := by decide +kernel
theorem dX5_takes_28 : decode cX5_takes 28 = .ok (.goto 4, 3) := by decide +kernel
theorem dX5_takes_31 : decode cX5_takes 31 = .ok (.iconst 0, 1) := by decide +kernel
theorem dX5_takes_32 : decode cX5_takes 32 = .ok (.iadd, 1) := by decide +kernel
theorem dX5_takes_33 : decode cX5_takes 33 = .ok (.istore 5, 2) := by decide +kernel
theorem dX5_takes_35 : decode cX5_takes 35 = .ok (.iload 5, 2) := by decide +kernel
theorem dX5_takes_37 : decode cX5_takes 37 = .ok (.aload_n 0, 1) := by decide +kernel
theorem dX5_takes_38 : decode cX5_takes 38 = .ok (.getfield 17, 3) := by decide +kernel
theorem dX5_takes_41 : decode cX5_takes 41 = .ok (.iload_n 2, 1) := by decide +kernel
theorem dX5_takes_42 : decode cX5_takes 42 = .ok (.iaload, 1) := by decide +kernel
theorem dX5_takes_43 : decode cX5_takes 43 = .ok (.iconst 2, 1) := by decide +kernel
theorem dX5_takes_44 : decode cX5_takes 44 = .ok (.if_icmp .ne 13, 3) := by decide +kernel
theorem dX5_takes_47 : decode cX5_takes 47 = .ok (.iload 5, 2) := by decide +kernel
theorem dX5_takes_49 : decode cX5_takes 49 = .ok (.iconst 1, 1) := by decide +kernel
theorem dX5_takes_50 : decode cX5_takes 50 = .ok (.if_icmp .le 7, 3) := by decide +kernel
theorem dX5_takes_53 : decode cX5_takes 53 = .ok (.iconst 1, 1) := by decide +kernel
theorem dX5_takes_54 : decode cX5_takes 54 = .ok (.goto 4, 3) := by decide +kernel
theorem dX5_takes_57 : decode cX5_takes 57 = .ok (.iconst 0, 1) := by decide +kernel
theorem dX5_takes_58 : decode cX5_takes 58 = .ok (.isub, 1) := by decide +kernel
theorem dX5_takes_59 : decode cX5_takes 59 = .ok (.istore 5, 2) := by decide +kernel
theorem dX5_takes_61 : decode cX5_takes 61 = .ok (.iload 5, 2) := by decide +kernel
theorem dX5_takes_63 : decode cX5_takes 63 = .ok (.aload_n 0, 1) := by decide +kernel
theorem dX5_takes_64 : decode cX5_takes 64 = .ok (.getfield 17, 3) := by decide +kernel
theorem dX5_takes_67 : decode cX5_takes 67 = .ok (.iload_n 2, 1) := by decide +kernel
theorem dX5_takes_68 : decode cX5_takes 68 = .ok (.iaload, 1) := by decide +kernel
theorem dX5_takes_69 : decode cX5_takes 69 = .ok (.iconst 3, 1) := by decide +kernel
theorem dX5_takes_70 : decode cX5_takes 70 = .ok (.if_icmp .ne 17, 3) := by decide +kernel
theorem dX5_takes_73 : decode cX5_takes 73 = .ok (.iload_n 3, 1) := by decide +kernel
theorem dX5_takes_74 : decode cX5_takes 74 = .ok (.aload_n 0, 1) := by decide +kernel
theorem dX5_takes_75 : decode cX5_takes 75 = .ok (.getfield 13, 3) := by decide +kernel
theorem dX5_takes_78 : decode cX5_takes 78 = .ok (.iconst 2, 1) := by decide +kernel
theorem dX5_takes_79 : decode cX5_takes 79 = .ok (.idiv, 1) := by decide +kernel
theorem dX5_takes_80 : decode cX5_takes 80 = .ok (.if_icmp .ne 7, 3) := by decide +kernel
theorem dX5_takes_83 : decode cX5_takes 83 = .ok (.iconst 2, 1) := by decide +kernel
theorem dX5_takes_84 : decode cX5_takes 84 = .ok (.goto 4, 3) := by decide +kernel
theorem dX5_takes_87 : decode cX5_takes 87 = .ok (.iconst 0, 1) := by decide +kernel
theorem dX5_takes_88 : decode cX5_takes 88 = .ok (.iadd, 1) := by decide +kernel
theorem dX5_takes_89 : decode cX5_takes 89 = .ok (.istore 5, 2) := by decide +kernel
theorem dX5_takes_91 : decode cX5_takes 91 = .ok (.iload 5, 2) := by decide +kernel
theorem dX5_takes_93 : decode cX5_takes 93 = .ok (.aload_n 1, 1) := by decide +kernel
theorem dX5_takes_94 : decode cX5_takes 94 = .ok (.bipush 16, 2) := by decide +kernel
theorem dX5_takes_96 : decode cX5_takes 96 = .ok (.iload_n 2, 1) := by decide +kernel
theorem dX5_takes_97 : decode cX5_takes 97 = .ok (.iadd, 1) := by decide +kernel
theorem dX5_takes_98 : decode cX5_takes 98 = .ok (.iaload, 1) := by decide +kernel
theorem dX5_takes_99 : decode cX5_takes 99 = .ok (.iadd, 1) := by decide +kernel
theorem dX5_takes_100 : decode cX5_takes 100 = .ok (.ireturn, 1) := by decide +kernel
theorem dX5_next_0 : decode cX5_next 0 = .ok (.iload_n 0, 1) := by decide +kernel
theorem dX5_next_1 : decode cX5_next 1 = .ok (.iload_n 1, 1) := by decide +kernel
theorem dX5_next_2 : decode cX5_next 2 = .ok (.iconst 2, 1) := by decide +kernel
theorem dX5_next_3 : decode cX5_next 3 = .ok (.if_icmp .ne 7, 3) := by decide +kernel
theorem dX5_next_6 : decode cX5_next 6 = .ok (.iconst 2, 1) := by decide +kernel
theorem dX5_next_7 : decode cX5_next 7 = .ok (.goto 4, 3) := by decide +kernel
theorem dX5_next_10 : decode cX5_next 10 = .ok (.iconst 1, 1) := by decide +kernel
theorem dX5_next_11 : decode cX5_next 11 = .ok (.iadd, 1) := by decide +kernel
theorem dX5_next_12 : decode cX5_next 12 = .ok (.iconst 4, 1) := by decide +kernel
theorem dX5_next_13 : decode cX5_next 13 = .ok (.irem, 1) := by decide +kernel
theorem dX5_next_14 : decode cX5_next 14 = .ok (.ireturn, 1) := by decide +kernel
set_option maxRecDepth 20000 in
theorem ggX5_timeOf_X5_takes : GoodIn wsX5_timeOf wsX5_takes := goodIn_r _ [6, 7, 1, 8, 9, 5, 10, 14, 15, 16, 17, 18, 19, 20, 21, 22, 23, 24, 25, 26, 27, 28, 29, 30, 31, 32, 33, 34, 35, 36, 37, 38, 39, 40, 41, 42, 43, 44, 45, 46, 47, 48, 49, 50] (by decide +kernel) (by decide +kernel)
set_option maxRecDepth 20000 in
theorem gX5_timeOf_X5_takes : GoodIn wsX5_timeOf (wsV RX5 114 RX5 yX5_takes wsX5_takes) := goodIn_app (goodIn_of _ (by decide +kernel)) ggX5_timeOf_X5_takes
set_option maxRecDepth 20000 in
theorem ggX5_timeOf_X5_next : GoodIn wsX5_timeOf wsX5_next := goodIn_r _ [13] (by decide +kernel) (by decide +kernel)
set_option maxRecDepth 20000 in
theorem gX5_timeOf_X5_next : GoodIn wsX5_timeOf (va_wsS RX5 118 yX5_next wsX5_next) := goodIn_app (goodIn_of _ (by decide +kernel)) ggX5_timeOf_X5_next
theorem dX5_timeOf_0 : decode cX5_timeOf 0 = .ok (.iload 4, 2) := by decide +kernel
theorem dX5_timeOf_2 : decode cX5_timeOf 2 = .ok (.istore 6, 2) := by decide +kernel
theorem dX5_timeOf_4 : decode cX5_timeOf 4 = .ok (.iload 5, 2) := by decide +kernel
theorem dX5_timeOf_6 : decode cX5_timeOf 6 = .ok (.istore 7, 2) := by decide +kernel
theorem dX5_timeOf_8 : decode cX5_timeOf 8 = .ok (.iconst 0, 1) := by decide +kernel
theorem dX5_timeOf_9 : decode cX5_timeOf 9 = .ok (.istore 8, 2) := by decide +kernel
theorem dX5_timeOf_11 : decode cX5_timeOf 11 = .ok (.iconst 0, 1) := by decide +kernel
theorem dX5_timeOf_12 : decode cX5_timeOf 12 = .ok (.istore 9, 2) := by decide +kernel
theorem dX5_timeOf_14 : decode cX5_timeOf 14 = .ok (.iload 9, 2) := by decide +kernel
theorem dX5_timeOf_16 : decode cX5_timeOf 16 = .ok (.aload_n 0, 1) := by decide +kernel
theorem dX5_timeOf_17 : decode cX5_timeOf 17 = .ok (.getfield 13, 3) := by decide +kernel
theorem dX5_timeOf_20 : decode cX5_timeOf 20 = .ok (.if_icmp .ge 107, 3) := by decide +kernel
theorem dX5_timeOf_23 : decode cX5_timeOf 23 = .ok (.aload_n 0, 1) := by decide +kernel
theorem dX5_timeOf_24 : decode cX5_timeOf 24 = .ok (.aload_n 1, 1) := by decide +kernel
theorem dX5_timeOf_25 : decode cX5_timeOf 25 = .ok (.iload_n 2, 1) := by decide +kernel
theorem dX5_timeOf_26 : decode cX5_timeOf 26 = .ok (.iload 9, 2) := by decide +kernel
theorem dX5_timeOf_28 : decode cX5_timeOf 28 = .ok (.iload 6, 2) := by decide +kernel
theorem dX5_timeOf_30 : decode cX5_timeOf 30 = .ok (.invokevirtual 114, 3) := by decide +kernel
theorem dX5_timeOf_33 : decode cX5_timeOf 33 = .ok (.istore 10, 2) := by decide +kernel
theorem dX5_timeOf_35 : decode cX5_timeOf 35 = .ok (.aload_n 0, 1) := by decide +kernel
theorem dX5_timeOf_36 : decode cX5_timeOf 36 = .ok (.aload_n 1, 1) := by decide +kernel
theorem dX5_timeOf_37 : decode cX5_timeOf 37 = .ok (.iload_n 3, 1) := by decide +kernel
theorem dX5_timeOf_38 : decode cX5_timeOf 38 = .ok (.iload 9, 2) := by decide +kernel
theorem dX5_timeOf_40 : decode cX5_timeOf 40 = .ok (.iload 7, 2) := by decide +kernel
theorem dX5_timeOf_42 : decode cX5_timeOf 42 = .ok (.invokevirtual 114, 3) := by decide +kernel
theorem dX5_timeOf_45 : decode cX5_timeOf 45 = .ok (.istore 11, 2) := by decide +kernel
theorem dX5_timeOf_47 : decode cX5_timeOf 47 = .ok (.aload_n 1, 1) := by decide +kernel
theorem dX5_timeOf_48 : decode cX5_timeOf 48 = .ok (.iconst 0, 1) := by decide +kernel
theorem dX5_timeOf_49 : decode cX5_timeOf 49 = .ok (.iconst 4, 1) := by decide +kernel
theorem dX5_timeOf_50 : decode cX5_timeOf 50 = .ok (.iload_n 2, 1) := by decide +kernel
theorem dX5_timeOf_51 : decode cX5_timeOf 51 = .ok (.imul, 1) := by decide +kernel
theorem dX5_timeOf_52 : decode cX5_timeOf 52 = .ok (.iadd, 1) := by decide +kernel
theorem dX5_timeOf_53 : decode cX5_timeOf 53 = .ok (.iload 6, 2) := by decide +kernel
theorem dX5_timeOf_55 : decode cX5_timeOf 55 = .ok (.iadd, 1) := by decide +kernel
theorem dX5_timeOf_56 : decode cX5_timeOf 56 = .ok (.iaload, 1) := by decide +kernel
theorem dX5_timeOf_57 : decode cX5_timeOf 57 = .ok (.istore 12, 2) := by decide +kernel
theorem dX5_timeOf_59 : decode cX5_timeOf 59 = .ok (.aload_n 1, 1) := by decide +kernel
theorem dX5_timeOf_60 : decode cX5_timeOf 60 = .ok (.iconst 0, 1) := by decide +kernel
theorem dX5_timeOf_61 : decode cX5_timeOf 61 = .ok (.iconst 4, 1) := by decide +kernel
theorem dX5_timeOf_62 : decode cX5_timeOf 62 = .ok (.iload_n 3, 1) := by decide +kernel
theorem dX5_timeOf_63 : decode cX5_timeOf 63 = .ok (.imul, 1) := by decide +kernel
theorem dX5_timeOf_64 : decode cX5_timeOf 64 = .ok (.iadd, 1) := by decide +kernel
theorem dX5_timeOf_65 : decode cX5_timeOf 65 = .ok (.iload 7, 2) := by decide +kernel
theorem dX5_timeOf_67 : decode cX5_timeOf 67 = .ok (.iadd, 1) := by decide +kernel
theorem dX5_timeOf_68 : decode cX5_timeOf 68 = .ok (.iaload, 1) := by decide +kernel
theorem dX5_timeOf_69 : decode cX5_timeOf 69 = .ok (.istore 13, 2) := by decide +kernel
theorem dX5_timeOf_71 : decode cX5_timeOf 71 = .ok (.iload 8, 2) := by decide +kernel
theorem dX5_timeOf_73 : decode cX5_timeOf 73 = .ok (.iload 10, 2) := by decide +kernel
theorem dX5_timeOf_75 : decode cX5_timeOf 75 = .ok (.iload 11, 2) := by decide +kernel
theorem dX5_timeOf_77 : decode cX5_timeOf 77 = .ok (.if_icmp .le 8, 3) := by decide +kernel
theorem dX5_timeOf_80 : decode cX5_timeOf 80 = .ok (.iload 10, 2) := by decide +kernel
theorem dX5_timeOf_82 : decode cX5_timeOf 82 = .ok (.goto 5, 3) := by decide +kernel
theorem dX5_timeOf_85 : decode cX5_timeOf 85 = .ok (.iload 11, 2) := by decide +kernel
theorem dX5_timeOf_87 : decode cX5_timeOf 87 = .ok (.iload 12, 2) := by decide +kernel
theorem dX5_timeOf_89 : decode cX5_timeOf 89 = .ok (.iload 13, 2) := by decide +kernel
theorem dX5_timeOf_91 : decode cX5_timeOf 91 = .ok (.if_icmp .ne 7, 3) := by decide +kernel
theorem dX5_timeOf_94 : decode cX5_timeOf 94 = .ok (.iconst 0, 1) := by decide +kernel
theorem dX5_timeOf_95 : decode cX5_timeOf 95 = .ok (.goto 4, 3) := by decide +kernel
theorem dX5_timeOf_98 : decode cX5_timeOf 98 = .ok (.iconst 1, 1) := by decide +kernel
theorem dX5_timeOf_99 : decode cX5_timeOf 99 = .ok (.iadd, 1) := by decide +kernel
theorem dX5_timeOf_100 : decode cX5_timeOf 100 = .ok (.iadd, 1) := by decide +kernel
theorem dX5_timeOf_101 : decode cX5_timeOf 101 = .ok (.istore 8, 2) := by decide +kernel
theorem dX5_timeOf_103 : decode cX5_timeOf 103 = .ok (.iload 6, 2) := by decide +kernel
theorem dX5_timeOf_105 : decode cX5_timeOf 105 = .ok (.iload 12, 2) := by decide +kernel
theorem dX5_timeOf_107 : decode cX5_timeOf 107 = .ok (.invokestatic 118, 3) := by decide +kernel
theorem dX5_timeOf_110 : decode cX5_timeOf 110 = .ok (.istore 6, 2) := by decide +kernel
theorem dX5_timeOf_112 : decode cX5_timeOf 112 = .ok (.iload 7, 2) := by decide +kernel
theorem dX5_timeOf_114 : decode cX5_timeOf 114 = .ok (.iload 13, 2) := by decide +kernel
theorem dX5_timeOf_116 : decode cX5_timeOf 116 = .ok (.invokestatic 118, 3) := by decide +kernel
theorem dX5_timeOf_119 : decode cX5_timeOf 119 = .ok (.istore 7, 2) := by decide +kernel
theorem dX5_timeOf_121 : decode cX5_timeOf 121 = .ok (.iinc 9 1, 3) := by decide +kernel
theorem dX5_timeOf_124 : decode cX5_timeOf 124 = .ok (.goto (-110), 3) := by decide +kernel
theorem dX5_timeOf_127 : decode cX5_timeOf 127 = .ok (.iload 8, 2) := by decide +kernel
theorem dX5_timeOf_129 : decode cX5_timeOf 129 = .ok (.ireturn, 1) := by decide +kernel
theorem dX5_about_0 : decode cX5_about 0 = .ok (.aload_n 0, 1) := by decide +kernel
theorem dX5_about_1 : decode cX5_about 1 = .ok (.iconst 0, 1) := by decide +kernel
theorem dX5_about_2 : decode cX5_about 2 = .ok (.putfield 63, 3) := by decide +kernel
theorem dX5_about_5 : decode cX5_about 5 = .ok (.iload_n 1, 1) := by decide +kernel
theorem dX5_about_6 : decode cX5_about 6 = .ok (.tableswitch 92 0 7 #[46, 51, 56, 61, 69, 77, 82, 87], 46) := by decide +kernel
theorem dX5_about_52 : decode cX5_about 52 = .ok (.aload_n 0, 1) := by decide +kernel
theorem dX5_about_53 : decode cX5_about 53 = .ok (.getfield 13, 3) := by decide +kernel
theorem dX5_about_56 : decode cX5_about 56 = .ok (.ireturn, 1) := by decide +kernel
theorem dX5_about_57 : decode cX5_about 57 = .ok (.aload_n 0, 1) := by decide +kernel
theorem dX5_about_58 : decode cX5_about 58 = .ok (.getfield 66, 3) := by decide +kernel
theorem dX5_about_61 : decode cX5_about 61 = .ok (.ireturn, 1) := by decide +kernel
theorem dX5_about_62 : decode cX5_about 62 = .ok (.aload_n 0, 1) := by decide +kernel
theorem dX5_about_63 : decode cX5_about 63 = .ok (.getfield 73, 3) := by decide +kernel
theorem dX5_about_66 : decode cX5_about 66 = .ok (.ireturn, 1) := by decide +kernel
theorem dX5_about_67 : decode cX5_about 67 = .ok (.aload_n 0, 1) := by decide +kernel
theorem dX5_about_68 : decode cX5_about 68 = .ok (.getfield 29, 3) := by decide +kernel
theorem dX5_about_71 : decode cX5_about 71 = .ok (.bipush 20, 2) := by decide +kernel
theorem dX5_about_73 : decode cX5_about 73 = .ok (.iaload, 1) := by decide +kernel
theorem dX5_about_74 : decode cX5_about 74 = .ok (.ireturn, 1) := by decide +kernel
theorem dX5_about_75 : decode cX5_about 75 = .ok (.aload_n 0, 1) := by decide +kernel
theorem dX5_about_76 : decode cX5_about 76 = .ok (.getfield 29, 3) := by decide +kernel
theorem dX5_about_79 : decode cX5_about 79 = .ok (.bipush 21, 2) := by decide +kernel
theorem dX5_about_81 : decode cX5_about 81 = .ok (.iaload, 1) := by decide +kernel
theorem dX5_about_82 : decode cX5_about 82 = .ok (.ireturn, 1) := by decide +kernel
theorem dX5_about_83 : decode cX5_about 83 = .ok (.aload_n 0, 1) := by decide +kernel
theorem dX5_about_84 : decode cX5_about 84 = .ok (.getfield 107, 3) := by decide +kernel
theorem dX5_about_87 : decode cX5_about 87 = .ok (.ireturn, 1) := by decide +kernel
theorem dX5_about_88 : decode cX5_about 88 = .ok (.aload_n 0, 1) := by decide +kernel
theorem dX5_about_89 : decode cX5_about 89 = .ok (.getfield 121, 3) := by decide +kernel
theorem dX5_about_92 : decode cX5_about 92 = .ok (.ireturn, 1) := by decide +kernel
theorem dX5_about_93 : decode cX5_about 93 = .ok (.aload_n 0, 1) := by decide +kernel
theorem dX5_about_94 : decode cX5_about 94 = .ok (.getfield 78, 3) := by decide +kernel
theorem dX5_about_97 : decode cX5_about 97 = .ok (.ireturn, 1) := by decide +kernel
theorem dX5_about_98 : decode cX5_about 98 = .ok (.bipush (-2), 2) := by decide +kernel
theorem dX5_about_100 : decode cX5_about 100 = .ok (.ireturn, 1) := by decide +kernel
set_option maxRecDepth 20000 in
theorem ggX5_legger_X5_noLegger : GoodIn wsX5_legger wsX5_noLegger := goodIn_r _ [9, 10, 11, 12, 8, 13, 14, 15, 16, 17, 18, 19, 20, 21, 22, 23, 24, 25, 26, 27, 28, 29, 30, 31, 32, 33, 34, 35, 36, 37, 38, 39, 40, 41, 42, 43, 44, 45, 46, 47, 48, 49, 50] (by decide +kernel) (by decide +kernel)
set_option maxRecDepth 20000 in
theorem gX5_legger_X5_noLegger : GoodIn wsX5_legger (wsV RX5 124 RX5 yX5_noLegger wsX5_noLegger) := goodIn_app (goodIn_of _ (by decide +kernel)) ggX5_legger_X5_noLegger
set_option maxRecDepth 20000 in
theorem ggX5_legger_X5_in : GoodIn wsX5_legger wsX5_in := goodIn_r _ [13] (by decide +kernel) (by decide +kernel)
set_option maxRecDepth 20000 in
theorem gX5_legger_X5_in : GoodIn wsX5_legger (va_wsS RX5 69 yX5_in wsX5_in) := goodIn_app (goodIn_of _ (by decide +kernel)) ggX5_legger_X5_in
theorem dX5_legger_0 : decode cX5_legger 0 = .ok (.aload_n 0, 1) := by decide +kernel
theorem dX5_legger_1 : decode cX5_legger 1 = .ok (.iconst 0, 1) := by decide +kernel
theorem dX5_legger_2 : decode cX5_legger 2 = .ok (.putfield 63, 3) := by decide +kernel
theorem dX5_legger_5 : decode cX5_legger 5 = .ok (.aload_n 0, 1) := by decide +kernel
theorem dX5_legger_6 : decode cX5_legger 6 = .ok (.iload_n 1, 1) := by decide +kernel
theorem dX5_legger_7 : decode cX5_legger 7 = .ok (.invokevirtual 124, 3) := by decide +kernel
theorem dX5_legger_10 : decode cX5_legger 10 = .ok (.ifCond .eq 5, 3) := by decide +kernel
theorem dX5_legger_13 : decode cX5_legger 13 = .ok (.iconst (-1), 1) := by decide +kernel
theorem dX5_legger_14 : decode cX5_legger 14 = .ok (.ireturn, 1) := by decide +kernel
theorem dX5_legger_15 : decode cX5_legger 15 = .ok (.iload_n 2, 1) := by decide +kernel
theorem dX5_legger_16 : decode cX5_legger 16 = .ok (.i2l, 1) := by decide +kernel
theorem dX5_legger_17 : decode cX5_legger 17 = .ok (.lconst 0, 1) := by decide +kernel
theorem dX5_legger_18 : decode cX5_legger 18 = .ok (.ldc2_w 128, 3) := by decide +kernel
theorem dX5_legger_21 : decode cX5_legger 21 = .ok (.invokestatic 69, 3) := by decide +kernel
theorem dX5_legger_24 : decode cX5_legger 24 = .ok (.ifCond .eq 16, 3) := by decide +kernel
theorem dX5_legger_27 : decode cX5_legger 27 = .ok (.aload_n 0, 1) := by decide +kernel
theorem dX5_legger_28 : decode cX5_legger 28 = .ok (.getfield 29, 3) := by decide +kernel
theorem dX5_legger_31 : decode cX5_legger 31 = .ok (.iconst 0, 1) := by decide +kernel
theorem dX5_legger_32 : decode cX5_legger 32 = .ok (.iconst 4, 1) := by decide +kernel
theorem dX5_legger_33 : decode cX5_legger 33 = .ok (.iload_n 1, 1) := by decide +kernel
theorem dX5_legger_34 : decode cX5_legger 34 = .ok (.imul, 1) := by decide +kernel
theorem dX5_legger_35 : decode cX5_legger 35 = .ok (.iadd, 1) := by decide +kernel
theorem dX5_legger_36 : decode cX5_legger 36 = .ok (.iload_n 2, 1) := by decide +kernel
theorem dX5_legger_37 : decode cX5_legger 37 = .ok (.iadd, 1) := by decide +kernel
theorem dX5_legger_38 : decode cX5_legger 38 = .ok (.iaload, 1) := by decide +kernel
theorem dX5_legger_39 : decode cX5_legger 39 = .ok (.ireturn, 1) := by decide +kernel
theorem dX5_legger_40 : decode cX5_legger 40 = .ok (.iload_n 2, 1) := by decide +kernel
theorem dX5_legger_41 : decode cX5_legger 41 = .ok (.iconst 4, 1) := by decide +kernel
theorem dX5_legger_42 : decode cX5_legger 42 = .ok (.if_icmp .ne 12, 3) := by decide +kernel
theorem dX5_legger_45 : decode cX5_legger 45 = .ok (.aload_n 0, 1) := by decide +kernel
theorem dX5_legger_46 : decode cX5_legger 46 = .ok (.getfield 17, 3) := by decide +kernel
theorem dX5_legger_49 : decode cX5_legger 49 = .ok (.iload_n 1, 1) := by decide +kernel
theorem dX5_legger_50 : decode cX5_legger 50 = .ok (.iaload, 1) := by decide +kernel
theorem dX5_legger_51 : decode cX5_legger 51 = .ok (.goto 22, 3) := by decide +kernel
theorem dX5_legger_54 : decode cX5_legger 54 = .ok (.iload_n 2, 1) := by decide +kernel
theorem dX5_legger_55 : decode cX5_legger 55 = .ok (.iconst 5, 1) := by decide +kernel
theorem dX5_legger_56 : decode cX5_legger 56 = .ok (.if_icmp .ne 15, 3) := by decide +kernel
theorem dX5_legger_59 : decode cX5_legger 59 = .ok (.aload_n 0, 1) := by decide +kernel
theorem dX5_legger_60 : decode cX5_legger 60 = .ok (.getfield 29, 3) := by decide +kernel
theorem dX5_legger_63 : decode cX5_legger 63 = .ok (.bipush 16, 2) := by decide +kernel
end
section
theorem dX5_legger_65 : decode cX5_legger 65 = .ok (.iload_n 1, 1) := by decide +kernel
theorem dX5_legger_66 : decode cX5_legger 66 = .ok (.iadd, 1) := by decide +kernel
theorem dX5_legger_67 : decode cX5_legger 67 = .ok (.iaload, 1) := by decide +kernel
theorem dX5_legger_68 : decode cX5_legger 68 = .ok (.goto 5, 3) := by decide +kernel
theorem dX5_legger_71 : decode cX5_legger 71 = .ok (.bipush (-2), 2) := by decide +kernel
theorem dX5_legger_73 : decode cX5_legger 73 = .ok (.ireturn, 1) := by decide +kernel
set_option maxRecDepth 20000 in
theorem ggX5_load_X5_noBoat : GoodIn wsX5_load wsX5_noBoat := goodIn_r _ [7, 8, 9, 10, 6, 11, 12, 13, 14, 15, 16, 17, 18, 19, 20, 21, 22, 23, 24, 25, 26, 27, 28, 29, 30, 31, 32, 33, 34, 35, 36, 37, 38, 39, 40, 41, 42, 43, 44, 45, 46, 47, 48] (by decide +kernel) (by decide +kernel)
set_option maxRecDepth 20000 in
theorem gX5_load_X5_noBoat : GoodIn wsX5_load (wsV RX5 130 RX5 yX5_noBoat wsX5_noBoat) := goodIn_app (goodIn_of _ (by decide +kernel)) ggX5_load_X5_noBoat
theorem dX5_load_0 : decode cX5_load 0 = .ok (.aload_n 0, 1) := by decide +kernel
theorem dX5_load_1 : decode cX5_load 1 = .ok (.iconst 0, 1) := by decide +kernel
theorem dX5_load_2 : decode cX5_load 2 = .ok (.putfield 63, 3) := by decide +kernel
theorem dX5_load_5 : decode cX5_load 5 = .ok (.aload_n 0, 1) := by decide +kernel
theorem dX5_load_6 : decode cX5_load 6 = .ok (.iload_n 1, 1) := by decide +kernel
theorem dX5_load_7 : decode cX5_load 7 = .ok (.invokevirtual 130, 3) := by decide +kernel
theorem dX5_load_10 : decode cX5_load 10 = .ok (.ifCond .eq 7, 3) := by decide +kernel
theorem dX5_load_13 : decode cX5_load 13 = .ok (.iconst (-1), 1) := by decide +kernel
theorem dX5_load_14 : decode cX5_load 14 = .ok (.goto 9, 3) := by decide +kernel
theorem dX5_load_17 : decode cX5_load 17 = .ok (.aload_n 0, 1) := by decide +kernel
theorem dX5_load_18 : decode cX5_load 18 = .ok (.getfield 20, 3) := by decide +kernel
theorem dX5_load_21 : decode cX5_load 21 = .ok (.iload_n 1, 1) := by decide +kernel
theorem dX5_load_22 : decode cX5_load 22 = .ok (.iaload, 1) := by decide +kernel
theorem dX5_load_23 : decode cX5_load 23 = .ok (.ireturn, 1) := by decide +kernel
theorem dX5_note_0 : decode cX5_note 0 = .ok (.aload_n 0, 1) := by decide +kernel
theorem dX5_note_1 : decode cX5_note 1 = .ok (.getfield 107, 3) := by decide +kernel
theorem dX5_note_4 : decode cX5_note 4 = .ok (.bipush 14, 2) := by decide +kernel
theorem dX5_note_6 : decode cX5_note 6 = .ok (.if_icmp .ne 43, 3) := by decide +kernel
theorem dX5_note_9 : decode cX5_note 9 = .ok (.iconst 0, 1) := by decide +kernel
theorem dX5_note_10 : decode cX5_note 10 = .ok (.istore_n 1, 1) := by decide +kernel
theorem dX5_note_11 : decode cX5_note 11 = .ok (.iload_n 1, 1) := by decide +kernel
theorem dX5_note_12 : decode cX5_note 12 = .ok (.sipush 286, 3) := by decide +kernel
theorem dX5_note_15 : decode cX5_note 15 = .ok (.if_icmp .ge 24, 3) := by decide +kernel
theorem dX5_note_18 : decode cX5_note 18 = .ok (.aload_n 0, 1) := by decide +kernel
theorem dX5_note_19 : decode cX5_note 19 = .ok (.getfield 38, 3) := by decide +kernel
theorem dX5_note_22 : decode cX5_note 22 = .ok (.iload_n 1, 1) := by decide +kernel
theorem dX5_note_23 : decode cX5_note 23 = .ok (.aload_n 0, 1) := by decide +kernel
theorem dX5_note_24 : decode cX5_note 24 = .ok (.getfield 38, 3) := by decide +kernel
theorem dX5_note_27 : decode cX5_note 27 = .ok (.iload_n 1, 1) := by decide +kernel
theorem dX5_note_28 : decode cX5_note 28 = .ok (.bipush 22, 2) := by decide +kernel
theorem dX5_note_30 : decode cX5_note 30 = .ok (.iadd, 1) := by decide +kernel
theorem dX5_note_31 : decode cX5_note 31 = .ok (.iaload, 1) := by decide +kernel
theorem dX5_note_32 : decode cX5_note 32 = .ok (.iastore, 1) := by decide +kernel
theorem dX5_note_33 : decode cX5_note 33 = .ok (.iinc 1 1, 3) := by decide +kernel
theorem dX5_note_36 : decode cX5_note 36 = .ok (.goto (-25), 3) := by decide +kernel
theorem dX5_note_39 : decode cX5_note 39 = .ok (.aload_n 0, 1) := by decide +kernel
theorem dX5_note_40 : decode cX5_note 40 = .ok (.dup, 1) := by decide +kernel
theorem dX5_note_41 : decode cX5_note 41 = .ok (.getfield 107, 3) := by decide +kernel
theorem dX5_note_44 : decode cX5_note 44 = .ok (.iconst 1, 1) := by decide +kernel
theorem dX5_note_45 : decode cX5_note 45 = .ok (.isub, 1) := by decide +kernel
theorem dX5_note_46 : decode cX5_note 46 = .ok (.putfield 107, 3) := by decide +kernel
theorem dX5_note_49 : decode cX5_note 49 = .ok (.iconst 0, 1) := by decide +kernel
theorem dX5_note_50 : decode cX5_note 50 = .ok (.istore_n 1, 1) := by decide +kernel
theorem dX5_note_51 : decode cX5_note 51 = .ok (.iload_n 1, 1) := by decide +kernel
theorem dX5_note_52 : decode cX5_note 52 = .ok (.bipush 22, 2) := by decide +kernel
theorem dX5_note_54 : decode cX5_note 54 = .ok (.if_icmp .ge 29, 3) := by decide +kernel
theorem dX5_note_57 : decode cX5_note 57 = .ok (.aload_n 0, 1) := by decide +kernel
theorem dX5_note_58 : decode cX5_note 58 = .ok (.getfield 38, 3) := by decide +kernel
theorem dX5_note_61 : decode cX5_note 61 = .ok (.bipush 22, 2) := by decide +kernel
theorem dX5_note_63 : decode cX5_note 63 = .ok (.aload_n 0, 1) := by decide +kernel
theorem dX5_note_64 : decode cX5_note 64 = .ok (.getfield 107, 3) := by decide +kernel
theorem dX5_note_67 : decode cX5_note 67 = .ok (.imul, 1) := by decide +kernel
theorem dX5_note_68 : decode cX5_note 68 = .ok (.iload_n 1, 1) := by decide +kernel
theorem dX5_note_69 : decode cX5_note 69 = .ok (.iadd, 1) := by decide +kernel
theorem dX5_note_70 : decode cX5_note 70 = .ok (.aload_n 0, 1) := by decide +kernel
theorem dX5_note_71 : decode cX5_note 71 = .ok (.getfield 29, 3) := by decide +kernel
theorem dX5_note_74 : decode cX5_note 74 = .ok (.iload_n 1, 1) := by decide +kernel
theorem dX5_note_75 : decode cX5_note 75 = .ok (.iaload, 1) := by decide +kernel
theorem dX5_note_76 : decode cX5_note 76 = .ok (.iastore, 1) := by decide +kernel
theorem dX5_note_77 : decode cX5_note 77 = .ok (.iinc 1 1, 3) := by decide +kernel
theorem dX5_note_80 : decode cX5_note 80 = .ok (.goto (-29), 3) := by decide +kernel
theorem dX5_note_83 : decode cX5_note 83 = .ok (.aload_n 0, 1) := by decide +kernel
theorem dX5_note_84 : decode cX5_note 84 = .ok (.dup, 1) := by decide +kernel
theorem dX5_note_85 : decode cX5_note 85 = .ok (.getfield 107, 3) := by decide +kernel
theorem dX5_note_88 : decode cX5_note 88 = .ok (.iconst 1, 1) := by decide +kernel
theorem dX5_note_89 : decode cX5_note 89 = .ok (.iadd, 1) := by decide +kernel
theorem dX5_note_90 : decode cX5_note 90 = .ok (.putfield 107, 3) := by decide +kernel
theorem dX5_note_93 : decode cX5_note 93 = .ok (.return_, 1) := by decide +kernel
set_option maxRecDepth 20000 in
theorem ggX5_goLeg_X5_timeOf : GoodIn wsX5_goLeg wsX5_timeOf := goodIn_r _ [6, 7, 8, 9, 10, 5, 11, 12, 13, 14, 15, 16, 17, 18, 19, 20, 21, 22, 23, 24, 25, 26, 27, 28, 29, 30, 31, 32, 33, 34, 35, 36, 37, 38, 39, 40, 41, 42, 43, 44, 45, 46, 47, 48, 49, 50, 51, 52, 53, 54, 55] (by decide +kernel) (by decide +kernel)
set_option maxRecDepth 20000 in
theorem gX5_goLeg_X5_timeOf : GoodIn wsX5_goLeg (wsV RX5 133 RX5 yX5_timeOf wsX5_timeOf) := goodIn_app (goodIn_of _ (by decide +kernel)) ggX5_goLeg_X5_timeOf
theorem dX5_goLeg_0 : decode cX5_goLeg 0 = .ok (.aload_n 1, 1) := by decide +kernel
theorem dX5_goLeg_1 : decode cX5_goLeg 1 = .ok (.bipush 21, 2) := by decide +kernel
theorem dX5_goLeg_3 : decode cX5_goLeg 3 = .ok (.dup2, 1) := by decide +kernel
theorem dX5_goLeg_4 : decode cX5_goLeg 4 = .ok (.iaload, 1) := by decide +kernel
theorem dX5_goLeg_5 : decode cX5_goLeg 5 = .ok (.aload_n 0, 1) := by decide +kernel
theorem dX5_goLeg_6 : decode cX5_goLeg 6 = .ok (.aload_n 1, 1) := by decide +kernel
theorem dX5_goLeg_7 : decode cX5_goLeg 7 = .ok (.iload_n 3, 1) := by decide +kernel
theorem dX5_goLeg_8 : decode cX5_goLeg 8 = .ok (.iload 4, 2) := by decide +kernel
theorem dX5_goLeg_10 : decode cX5_goLeg 10 = .ok (.iconst 0, 1) := by decide +kernel
theorem dX5_goLeg_11 : decode cX5_goLeg 11 = .ok (.iconst 0, 1) := by decide +kernel
theorem dX5_goLeg_12 : decode cX5_goLeg 12 = .ok (.invokevirtual 133, 3) := by decide +kernel
theorem dX5_goLeg_15 : decode cX5_goLeg 15 = .ok (.aload_n 0, 1) := by decide +kernel
theorem dX5_goLeg_16 : decode cX5_goLeg 16 = .ok (.getfield 20, 3) := by decide +kernel
theorem dX5_goLeg_19 : decode cX5_goLeg 19 = .ok (.iload_n 2, 1) := by decide +kernel
theorem dX5_goLeg_20 : decode cX5_goLeg 20 = .ok (.iaload, 1) := by decide +kernel
theorem dX5_goLeg_21 : decode cX5_goLeg 21 = .ok (.iadd, 1) := by decide +kernel
theorem dX5_goLeg_22 : decode cX5_goLeg 22 = .ok (.iadd, 1) := by decide +kernel
theorem dX5_goLeg_23 : decode cX5_goLeg 23 = .ok (.iastore, 1) := by decide +kernel
theorem dX5_goLeg_24 : decode cX5_goLeg 24 = .ok (.aload_n 1, 1) := by decide +kernel
theorem dX5_goLeg_25 : decode cX5_goLeg 25 = .ok (.bipush 20, 2) := by decide +kernel
theorem dX5_goLeg_27 : decode cX5_goLeg 27 = .ok (.dup2, 1) := by decide +kernel
theorem dX5_goLeg_28 : decode cX5_goLeg 28 = .ok (.iaload, 1) := by decide +kernel
theorem dX5_goLeg_29 : decode cX5_goLeg 29 = .ok (.iconst 1, 1) := by decide +kernel
theorem dX5_goLeg_30 : decode cX5_goLeg 30 = .ok (.iload_n 2, 1) := by decide +kernel
theorem dX5_goLeg_31 : decode cX5_goLeg 31 = .ok (.ishl, 1) := by decide +kernel
theorem dX5_goLeg_32 : decode cX5_goLeg 32 = .ok (.ior, 1) := by decide +kernel
theorem dX5_goLeg_33 : decode cX5_goLeg 33 = .ok (.iastore, 1) := by decide +kernel
theorem dX5_goLeg_34 : decode cX5_goLeg 34 = .ok (.aload_n 1, 1) := by decide +kernel
theorem dX5_goLeg_35 : decode cX5_goLeg 35 = .ok (.bipush 16, 2) := by decide +kernel
theorem dX5_goLeg_37 : decode cX5_goLeg 37 = .ok (.iload_n 3, 1) := by decide +kernel
theorem dX5_goLeg_38 : decode cX5_goLeg 38 = .ok (.iadd, 1) := by decide +kernel
theorem dX5_goLeg_39 : decode cX5_goLeg 39 = .ok (.dup2, 1) := by decide +kernel
theorem dX5_goLeg_40 : decode cX5_goLeg 40 = .ok (.iaload, 1) := by decide +kernel
theorem dX5_goLeg_41 : decode cX5_goLeg 41 = .ok (.aload_n 1, 1) := by decide +kernel
theorem dX5_goLeg_42 : decode cX5_goLeg 42 = .ok (.bipush 16, 2) := by decide +kernel
theorem dX5_goLeg_44 : decode cX5_goLeg 44 = .ok (.iload_n 3, 1) := by decide +kernel
theorem dX5_goLeg_45 : decode cX5_goLeg 45 = .ok (.iadd, 1) := by decide +kernel
theorem dX5_goLeg_46 : decode cX5_goLeg 46 = .ok (.iaload, 1) := by decide +kernel
theorem dX5_goLeg_47 : decode cX5_goLeg 47 = .ok (.iconst 3, 1) := by decide +kernel
theorem dX5_goLeg_48 : decode cX5_goLeg 48 = .ok (.if_icmp .ge 7, 3) := by decide +kernel
theorem dX5_goLeg_51 : decode cX5_goLeg 51 = .ok (.iconst 1, 1) := by decide +kernel
theorem dX5_goLeg_52 : decode cX5_goLeg 52 = .ok (.goto 4, 3) := by decide +kernel
theorem dX5_goLeg_55 : decode cX5_goLeg 55 = .ok (.iconst 0, 1) := by decide +kernel
theorem dX5_goLeg_56 : decode cX5_goLeg 56 = .ok (.iadd, 1) := by decide +kernel
theorem dX5_goLeg_57 : decode cX5_goLeg 57 = .ok (.iastore, 1) := by decide +kernel
theorem dX5_goLeg_58 : decode cX5_goLeg 58 = .ok (.aload_n 1, 1) := by decide +kernel
theorem dX5_goLeg_59 : decode cX5_goLeg 59 = .ok (.bipush 16, 2) := by decide +kernel
theorem dX5_goLeg_61 : decode cX5_goLeg 61 = .ok (.iload 4, 2) := by decide +kernel
theorem dX5_goLeg_63 : decode cX5_goLeg 63 = .ok (.iadd, 1) := by decide +kernel
theorem dX5_goLeg_64 : decode cX5_goLeg 64 = .ok (.dup2, 1) := by decide +kernel
theorem dX5_goLeg_65 : decode cX5_goLeg 65 = .ok (.iaload, 1) := by decide +kernel
theorem dX5_goLeg_66 : decode cX5_goLeg 66 = .ok (.aload_n 1, 1) := by decide +kernel
theorem dX5_goLeg_67 : decode cX5_goLeg 67 = .ok (.bipush 16, 2) := by decide +kernel
theorem dX5_goLeg_69 : decode cX5_goLeg 69 = .ok (.iload 4, 2) := by decide +kernel
theorem dX5_goLeg_71 : decode cX5_goLeg 71 = .ok (.iadd, 1) := by decide +kernel
theorem dX5_goLeg_72 : decode cX5_goLeg 72 = .ok (.iaload, 1) := by decide +kernel
theorem dX5_goLeg_73 : decode cX5_goLeg 73 = .ok (.iconst 3, 1) := by decide +kernel
theorem dX5_goLeg_74 : decode cX5_goLeg 74 = .ok (.if_icmp .ge 7, 3) := by decide +kernel
theorem dX5_goLeg_77 : decode cX5_goLeg 77 = .ok (.iconst 1, 1) := by decide +kernel
theorem dX5_goLeg_78 : decode cX5_goLeg 78 = .ok (.goto 4, 3) := by decide +kernel
theorem dX5_goLeg_81 : decode cX5_goLeg 81 = .ok (.iconst 0, 1) := by decide +kernel
theorem dX5_goLeg_82 : decode cX5_goLeg 82 = .ok (.iadd, 1) := by decide +kernel
theorem dX5_goLeg_83 : decode cX5_goLeg 83 = .ok (.iastore, 1) := by decide +kernel
theorem dX5_goLeg_84 : decode cX5_goLeg 84 = .ok (.return_, 1) := by decide +kernel
set_option maxRecDepth 20000 in
theorem ggX5_noPair_X5_noBoat : GoodIn wsX5_noPair wsX5_noBoat := goodIn_r _ [5, 6, 7, 8, 4, 9, 15, 16, 17, 18, 19, 20, 21, 22, 23, 24, 25, 26, 27, 28, 29, 30, 31, 32, 33, 34, 35, 36, 37, 38, 39, 40, 41, 42, 43, 44, 45, 46, 47, 48, 49, 50, 51] (by decide +kernel) (by decide +kernel)
set_option maxRecDepth 20000 in
theorem gX5_noPair_X5_noBoat : GoodIn wsX5_noPair (wsV RX5 130 RX5 yX5_noBoat wsX5_noBoat) := goodIn_app (goodIn_of _ (by decide +kernel)) ggX5_noPair_X5_noBoat
set_option maxRecDepth 20000 in
theorem ggX5_noPair_X5_noLegger : GoodIn wsX5_noPair wsX5_noLegger := goodIn_r _ [13, 14, 7, 8, 4, 9, 15, 16, 17, 18, 19, 20, 21, 22, 23, 24, 25, 26, 27, 28, 29, 30, 31, 32, 33, 34, 35, 36, 37, 38, 39, 40, 41, 42, 43, 44, 45, 46, 47, 48, 49, 50, 51] (by decide +kernel) (by decide +kernel)
set_option maxRecDepth 20000 in
theorem gX5_noPair_X5_noLegger : GoodIn wsX5_noPair (wsV RX5 124 RX5 yX5_noLegger wsX5_noLegger) := goodIn_app (goodIn_of _ (by decide +kernel)) ggX5_noPair_X5_noLegger
theorem dX5_noPair_0 : decode cX5_noPair 0 = .ok (.aload_n 0, 1) := by decide +kernel
theorem dX5_noPair_1 : decode cX5_noPair 1 = .ok (.iload_n 1, 1) := by decide +kernel
theorem dX5_noPair_2 : decode cX5_noPair 2 = .ok (.invokevirtual 130, 3) := by decide +kernel
theorem dX5_noPair_5 : decode cX5_noPair 5 = .ok (.ifCond .ne 19, 3) := by decide +kernel
theorem dX5_noPair_8 : decode cX5_noPair 8 = .ok (.aload_n 0, 1) := by decide +kernel
theorem dX5_noPair_9 : decode cX5_noPair 9 = .ok (.iload_n 2, 1) := by decide +kernel
theorem dX5_noPair_10 : decode cX5_noPair 10 = .ok (.invokevirtual 124, 3) := by decide +kernel
theorem dX5_noPair_13 : decode cX5_noPair 13 = .ok (.ifCond .ne 11, 3) := by decide +kernel
theorem dX5_noPair_16 : decode cX5_noPair 16 = .ok (.aload_n 0, 1) := by decide +kernel
theorem dX5_noPair_17 : decode cX5_noPair 17 = .ok (.iload_n 3, 1) := by decide +kernel
theorem dX5_noPair_18 : decode cX5_noPair 18 = .ok (.invokevirtual 124, 3) := by decide +kernel
theorem dX5_noPair_21 : decode cX5_noPair 21 = .ok (.ifCond .eq 5, 3) := by decide +kernel
theorem dX5_noPair_24 : decode cX5_noPair 24 = .ok (.iconst (-1), 1) := by decide +kernel
theorem dX5_noPair_25 : decode cX5_noPair 25 = .ok (.ireturn, 1) := by decide +kernel
theorem dX5_noPair_26 : decode cX5_noPair 26 = .ok (.iload_n 2, 1) := by decide +kernel
theorem dX5_noPair_27 : decode cX5_noPair 27 = .ok (.iload_n 3, 1) := by decide +kernel
theorem dX5_noPair_28 : decode cX5_noPair 28 = .ok (.if_icmp .ne 8, 3) := by decide +kernel
theorem dX5_noPair_31 : decode cX5_noPair 31 = .ok (.bipush (-2), 2) := by decide +kernel
theorem dX5_noPair_33 : decode cX5_noPair 33 = .ok (.goto 4, 3) := by decide +kernel
theorem dX5_noPair_36 : decode cX5_noPair 36 = .ok (.iconst 0, 1) := by decide +kernel
theorem dX5_noPair_37 : decode cX5_noPair 37 = .ok (.ireturn, 1) := by decide +kernel
set_option maxRecDepth 20000 in
theorem ggX5_leg_X5_noPair : GoodIn wsX5_leg wsX5_noPair := goodIn_r _ [7, 8, 9, 10, 6, 11, 12, 13, 14, 15, 16, 17, 18, 19, 20, 51, 52, 53, 54, 55, 56, 57, 58, 59, 60, 61, 62, 63, 64, 65, 66, 67, 68, 69, 70, 71, 72, 73, 74, 75, 76, 77, 78, 79, 80, 81, 82, 83, 84, 85, 86, 87] (by decide +kernel) (by decide +kernel)
set_option maxRecDepth 20000 in
theorem gX5_leg_X5_noPair : GoodIn wsX5_leg (wsV RX5 137 RX5 yX5_noPair wsX5_noPair) := goodIn_app (goodIn_of _ (by decide +kernel)) ggX5_leg_X5_noPair
set_option maxRecDepth 20000 in
theorem ggX5_leg_X5_has : GoodIn wsX5_leg wsX5_has := goodIn_r _ [23] (by decide +kernel) (by decide +kernel)
set_option maxRecDepth 20000 in
theorem gX5_leg_X5_has : GoodIn wsX5_leg (va_wsS RX5 141 yX5_has wsX5_has) := goodIn_app (goodIn_of _ (by decide +kernel)) ggX5_leg_X5_has
set_option maxRecDepth 20000 in
theorem ggX5_leg_X5_note : GoodIn wsX5_leg wsX5_note := goodIn_r _ [27, 28, 29, 2, 51, 52, 53, 54, 55, 56, 57, 58, 59, 60, 61, 62, 63, 64, 65, 66, 67, 68, 69, 70, 71, 72, 73, 74, 75, 76, 77, 78, 79, 80, 81, 82, 83, 84, 85, 86, 87] (by decide +kernel) (by decide +kernel)
set_option maxRecDepth 20000 in
theorem gX5_leg_X5_note : GoodIn wsX5_leg (wsV RX5 145 RX5 yX5_note wsX5_note) := goodIn_app (goodIn_of _ (by decide +kernel)) ggX5_leg_X5_note
set_option maxRecDepth 20000 in
theorem ggX5_leg_X5_goLeg : GoodIn wsX5_leg wsX5_goLeg := goodIn_r _ [33, 34, 35, 36, 37, 6, 38, 39, 40, 41, 42, 43, 44, 45, 46, 47, 48, 49, 50, 51, 52, 53, 54, 55, 56, 57, 58, 59, 60, 61, 62, 63, 64, 65, 66, 67, 68, 69, 70, 71, 72, 73, 74, 75, 76, 77, 78, 79, 80, 81, 82, 83, 84, 85, 86, 87] (by decide +kernel) (by decide +kernel)
set_option maxRecDepth 20000 in
theorem gX5_leg_X5_goLeg : GoodIn wsX5_leg (wsV RX5 148 RX5 yX5_goLeg wsX5_goLeg) := goodIn_app (goodIn_of _ (by decide +kernel)) ggX5_leg_X5_goLeg
theorem dX5_leg_0 : decode cX5_leg 0 = .ok (.aload_n 0, 1) := by decide +kernel
theorem dX5_leg_1 : decode cX5_leg 1 = .ok (.iconst 0, 1) := by decide +kernel
theorem dX5_leg_2 : decode cX5_leg 2 = .ok (.putfield 63, 3) := by decide +kernel
theorem dX5_leg_5 : decode cX5_leg 5 = .ok (.aload_n 0, 1) := by decide +kernel
theorem dX5_leg_6 : decode cX5_leg 6 = .ok (.iload_n 1, 1) := by decide +kernel
theorem dX5_leg_7 : decode cX5_leg 7 = .ok (.iload_n 2, 1) := by decide +kernel
theorem dX5_leg_8 : decode cX5_leg 8 = .ok (.iload_n 3, 1) := by decide +kernel
theorem dX5_leg_9 : decode cX5_leg 9 = .ok (.invokevirtual 137, 3) := by decide +kernel
theorem dX5_leg_12 : decode cX5_leg 12 = .ok (.istore 4, 2) := by decide +kernel
theorem dX5_leg_14 : decode cX5_leg 14 = .ok (.iload 4, 2) := by decide +kernel
theorem dX5_leg_16 : decode cX5_leg 16 = .ok (.ifCond .eq 6, 3) := by decide +kernel
theorem dX5_leg_19 : decode cX5_leg 19 = .ok (.iload 4, 2) := by decide +kernel
theorem dX5_leg_21 : decode cX5_leg 21 = .ok (.ireturn, 1) := by decide +kernel
theorem dX5_leg_22 : decode cX5_leg 22 = .ok (.aload_n 0, 1) := by decide +kernel
theorem dX5_leg_23 : decode cX5_leg 23 = .ok (.getfield 29, 3) := by decide +kernel
theorem dX5_leg_26 : decode cX5_leg 26 = .ok (.bipush 20, 2) := by decide +kernel
theorem dX5_leg_28 : decode cX5_leg 28 = .ok (.iaload, 1) := by decide +kernel
theorem dX5_leg_29 : decode cX5_leg 29 = .ok (.iload_n 1, 1) := by decide +kernel
theorem dX5_leg_30 : decode cX5_leg 30 = .ok (.invokestatic 141, 3) := by decide +kernel
theorem dX5_leg_33 : decode cX5_leg 33 = .ok (.ifCond .eq 6, 3) := by decide +kernel
theorem dX5_leg_36 : decode cX5_leg 36 = .ok (.bipush (-3), 2) := by decide +kernel
theorem dX5_leg_38 : decode cX5_leg 38 = .ok (.ireturn, 1) := by decide +kernel
theorem dX5_leg_39 : decode cX5_leg 39 = .ok (.aload_n 0, 1) := by decide +kernel
theorem dX5_leg_40 : decode cX5_leg 40 = .ok (.invokevirtual 145, 3) := by decide +kernel
theorem dX5_leg_43 : decode cX5_leg 43 = .ok (.aload_n 0, 1) := by decide +kernel
theorem dX5_leg_44 : decode cX5_leg 44 = .ok (.aload_n 0, 1) := by decide +kernel
theorem dX5_leg_45 : decode cX5_leg 45 = .ok (.getfield 29, 3) := by decide +kernel
theorem dX5_leg_48 : decode cX5_leg 48 = .ok (.iload_n 1, 1) := by decide +kernel
theorem dX5_leg_49 : decode cX5_leg 49 = .ok (.iload_n 2, 1) := by decide +kernel
theorem dX5_leg_50 : decode cX5_leg 50 = .ok (.iload_n 3, 1) := by decide +kernel
theorem dX5_leg_51 : decode cX5_leg 51 = .ok (.invokevirtual 148, 3) := by decide +kernel
theorem dX5_leg_54 : decode cX5_leg 54 = .ok (.aload_n 0, 1) := by decide +kernel
theorem dX5_leg_55 : decode cX5_leg 55 = .ok (.getfield 29, 3) := by decide +kernel
theorem dX5_leg_58 : decode cX5_leg 58 = .ok (.bipush 21, 2) := by decide +kernel
theorem dX5_leg_60 : decode cX5_leg 60 = .ok (.iaload, 1) := by decide +kernel
theorem dX5_leg_61 : decode cX5_leg 61 = .ok (.ireturn, 1) := by decide +kernel
set_option maxRecDepth 20000 in
theorem ggX5_rest_X5_noLegger : GoodIn wsX5_rest wsX5_noLegger := goodIn_r _ [7, 8, 9, 10, 6, 11, 18, 19, 20, 21, 22, 23, 24, 25, 26, 27, 28, 29, 30, 31, 32, 33, 34, 35, 36, 37, 38, 39, 40, 41, 42, 43, 44, 45, 46, 47, 48, 49, 50, 51, 52, 53, 54] (by decide +kernel) (by decide +kernel)
set_option maxRecDepth 20000 in
theorem gX5_rest_X5_noLegger : GoodIn wsX5_rest (wsV RX5 124 RX5 yX5_noLegger wsX5_noLegger) := goodIn_app (goodIn_of _ (by decide +kernel)) ggX5_rest_X5_noLegger
set_option maxRecDepth 20000 in
theorem ggX5_rest_X5_note : GoodIn wsX5_rest wsX5_note := goodIn_r _ [15, 16, 17, 2, 18, 19, 20, 21, 22, 23, 24, 25, 26, 27, 28, 29, 30, 31, 32, 33, 34, 35, 36, 37, 38, 39, 40, 41, 42, 43, 44, 45, 46, 47, 48, 49, 50, 51, 52, 53, 54] (by decide +kernel) (by decide +kernel)
set_option maxRecDepth 20000 in
theorem gX5_rest_X5_note : GoodIn wsX5_rest (wsV RX5 145 RX5 yX5_note wsX5_note) := goodIn_app (goodIn_of _ (by decide +kernel)) ggX5_rest_X5_note
theorem dX5_rest_0 : decode cX5_rest 0 = .ok (.aload_n 0, 1) := by decide +kernel
theorem dX5_rest_1 : decode cX5_rest 1 = .ok (.iconst 0, 1) := by decide +kernel
theorem dX5_rest_2 : decode cX5_rest 2 = .ok (.putfield 63, 3) := by decide +kernel
theorem dX5_rest_5 : decode cX5_rest 5 = .ok (.aload_n 0, 1) := by decide +kernel
theorem dX5_rest_6 : decode cX5_rest 6 = .ok (.iload_n 1, 1) := by decide +kernel
theorem dX5_rest_7 : decode cX5_rest 7 = .ok (.invokevirtual 124, 3) := by decide +kernel
theorem dX5_rest_10 : decode cX5_rest 10 = .ok (.ifCond .eq 5, 3) := by decide +kernel
theorem dX5_rest_13 : decode cX5_rest 13 = .ok (.iconst (-1), 1) := by decide +kernel
theorem dX5_rest_14 : decode cX5_rest 14 = .ok (.ireturn, 1) := by decide +kernel
theorem dX5_rest_15 : decode cX5_rest 15 = .ok (.aload_n 0, 1) := by decide +kernel
theorem dX5_rest_16 : decode cX5_rest 16 = .ok (.getfield 29, 3) := by decide +kernel
theorem dX5_rest_19 : decode cX5_rest 19 = .ok (.bipush 16, 2) := by decide +kernel
theorem dX5_rest_21 : decode cX5_rest 21 = .ok (.iload_n 1, 1) := by decide +kernel
theorem dX5_rest_22 : decode cX5_rest 22 = .ok (.iadd, 1) := by decide +kernel
theorem dX5_rest_23 : decode cX5_rest 23 = .ok (.iaload, 1) := by decide +kernel
theorem dX5_rest_24 : decode cX5_rest 24 = .ok (.ifCond .ne 6, 3) := by decide +kernel
theorem dX5_rest_27 : decode cX5_rest 27 = .ok (.bipush (-3), 2) := by decide +kernel
theorem dX5_rest_29 : decode cX5_rest 29 = .ok (.ireturn, 1) := by decide +kernel
theorem dX5_rest_30 : decode cX5_rest 30 = .ok (.aload_n 0, 1) := by decide +kernel
theorem dX5_rest_31 : decode cX5_rest 31 = .ok (.invokevirtual 145, 3) := by decide +kernel
theorem dX5_rest_34 : decode cX5_rest 34 = .ok (.aload_n 0, 1) := by decide +kernel
theorem dX5_rest_35 : decode cX5_rest 35 = .ok (.getfield 29, 3) := by decide +kernel
theorem dX5_rest_38 : decode cX5_rest 38 = .ok (.bipush 16, 2) := by decide +kernel
theorem dX5_rest_40 : decode cX5_rest 40 = .ok (.iload_n 1, 1) := by decide +kernel
theorem dX5_rest_41 : decode cX5_rest 41 = .ok (.iadd, 1) := by decide +kernel
theorem dX5_rest_42 : decode cX5_rest 42 = .ok (.iconst 0, 1) := by decide +kernel
theorem dX5_rest_43 : decode cX5_rest 43 = .ok (.iastore, 1) := by decide +kernel
theorem dX5_rest_44 : decode cX5_rest 44 = .ok (.aload_n 0, 1) := by decide +kernel
theorem dX5_rest_45 : decode cX5_rest 45 = .ok (.getfield 29, 3) := by decide +kernel
theorem dX5_rest_48 : decode cX5_rest 48 = .ok (.bipush 21, 2) := by decide +kernel
theorem dX5_rest_50 : decode cX5_rest 50 = .ok (.dup2, 1) := by decide +kernel
theorem dX5_rest_51 : decode cX5_rest 51 = .ok (.iaload, 1) := by decide +kernel
theorem dX5_rest_52 : decode cX5_rest 52 = .ok (.iconst 5, 1) := by decide +kernel
theorem dX5_rest_53 : decode cX5_rest 53 = .ok (.iadd, 1) := by decide +kernel
theorem dX5_rest_54 : decode cX5_rest 54 = .ok (.iastore, 1) := by decide +kernel
theorem dX5_rest_55 : decode cX5_rest 55 = .ok (.aload_n 0, 1) := by decide +kernel
theorem dX5_rest_56 : decode cX5_rest 56 = .ok (.getfield 29, 3) := by decide +kernel
theorem dX5_rest_59 : decode cX5_rest 59 = .ok (.bipush 21, 2) := by decide +kernel
theorem dX5_rest_61 : decode cX5_rest 61 = .ok (.iaload, 1) := by decide +kernel
theorem dX5_rest_62 : decode cX5_rest 62 = .ok (.ireturn, 1) := by decide +kernel
set_option maxRecDepth 20000 in
theorem ggX5_wet_X5_noLegger : GoodIn wsX5_wet wsX5_noLegger := goodIn_r _ [8, 9, 10, 11, 7, 12, 19, 20, 21, 22, 23, 24, 25, 26, 27, 28, 29, 30, 31, 32, 33, 34, 35, 36, 37, 38, 39, 40, 41, 42, 43, 44, 45, 46, 47, 48, 49, 50, 51, 52, 53, 54, 55] (by decide +kernel) (by decide +kernel)
set_option maxRecDepth 20000 in
theorem gX5_wet_X5_noLegger : GoodIn wsX5_wet (wsV RX5 124 RX5 yX5_noLegger wsX5_noLegger) := goodIn_app (goodIn_of _ (by decide +kernel)) ggX5_wet_X5_noLegger
set_option maxRecDepth 20000 in
theorem ggX5_wet_X5_in : GoodIn wsX5_wet wsX5_in := goodIn_r _ [12] (by decide +kernel) (by decide +kernel)
set_option maxRecDepth 20000 in
theorem gX5_wet_X5_in : GoodIn wsX5_wet (va_wsS RX5 69 yX5_in wsX5_in) := goodIn_app (goodIn_of _ (by decide +kernel)) ggX5_wet_X5_in
set_option maxRecDepth 20000 in
theorem ggX5_wet_X5_note : GoodIn wsX5_wet wsX5_note := goodIn_r _ [16, 17, 18, 3, 19, 20, 21, 22, 23, 24, 25, 26, 27, 28, 29, 30, 31, 32, 33, 34, 35, 36, 37, 38, 39, 40, 41, 42, 43, 44, 45, 46, 47, 48, 49, 50, 51, 52, 53, 54, 55] (by decide +kernel) (by decide +kernel)
set_option maxRecDepth 20000 in
theorem gX5_wet_X5_note : GoodIn wsX5_wet (wsV RX5 145 RX5 yX5_note wsX5_note) := goodIn_app (goodIn_of _ (by decide +kernel)) ggX5_wet_X5_note
theorem dX5_wet_0 : decode cX5_wet 0 = .ok (.aload_n 0, 1) := by decide +kernel
theorem dX5_wet_1 : decode cX5_wet 1 = .ok (.iconst 0, 1) := by decide +kernel
theorem dX5_wet_2 : decode cX5_wet 2 = .ok (.putfield 63, 3) := by decide +kernel
theorem dX5_wet_5 : decode cX5_wet 5 = .ok (.aload_n 0, 1) := by decide +kernel
theorem dX5_wet_6 : decode cX5_wet 6 = .ok (.iload_n 1, 1) := by decide +kernel
theorem dX5_wet_7 : decode cX5_wet 7 = .ok (.invokevirtual 124, 3) := by decide +kernel
theorem dX5_wet_10 : decode cX5_wet 10 = .ok (.ifCond .eq 5, 3) := by decide +kernel
theorem dX5_wet_13 : decode cX5_wet 13 = .ok (.iconst (-1), 1) := by decide +kernel
theorem dX5_wet_14 : decode cX5_wet 14 = .ok (.ireturn, 1) := by decide +kernel
theorem dX5_wet_15 : decode cX5_wet 15 = .ok (.iload_n 2, 1) := by decide +kernel
theorem dX5_wet_16 : decode cX5_wet 16 = .ok (.i2l, 1) := by decide +kernel
theorem dX5_wet_17 : decode cX5_wet 17 = .ok (.lconst 0, 1) := by decide +kernel
theorem dX5_wet_18 : decode cX5_wet 18 = .ok (.ldc2_w 128, 3) := by decide +kernel
theorem dX5_wet_21 : decode cX5_wet 21 = .ok (.invokestatic 69, 3) := by decide +kernel
theorem dX5_wet_24 : decode cX5_wet 24 = .ok (.ifCond .ne 6, 3) := by decide +kernel
theorem dX5_wet_27 : decode cX5_wet 27 = .ok (.bipush (-2), 2) := by decide +kernel
theorem dX5_wet_29 : decode cX5_wet 29 = .ok (.ireturn, 1) := by decide +kernel
theorem dX5_wet_30 : decode cX5_wet 30 = .ok (.aload_n 0, 1) := by decide +kernel
theorem dX5_wet_31 : decode cX5_wet 31 = .ok (.getfield 29, 3) := by decide +kernel
theorem dX5_wet_34 : decode cX5_wet 34 = .ok (.iconst 0, 1) := by decide +kernel
theorem dX5_wet_35 : decode cX5_wet 35 = .ok (.iconst 4, 1) := by decide +kernel
theorem dX5_wet_36 : decode cX5_wet 36 = .ok (.iload_n 1, 1) := by decide +kernel
theorem dX5_wet_37 : decode cX5_wet 37 = .ok (.imul, 1) := by decide +kernel
theorem dX5_wet_38 : decode cX5_wet 38 = .ok (.iadd, 1) := by decide +kernel
theorem dX5_wet_39 : decode cX5_wet 39 = .ok (.iload_n 2, 1) := by decide +kernel
theorem dX5_wet_40 : decode cX5_wet 40 = .ok (.iadd, 1) := by decide +kernel
theorem dX5_wet_41 : decode cX5_wet 41 = .ok (.iaload, 1) := by decide +kernel
theorem dX5_wet_42 : decode cX5_wet 42 = .ok (.istore_n 3, 1) := by decide +kernel
theorem dX5_wet_43 : decode cX5_wet 43 = .ok (.iload_n 3, 1) := by decide +kernel
theorem dX5_wet_44 : decode cX5_wet 44 = .ok (.iconst 2, 1) := by decide +kernel
theorem dX5_wet_45 : decode cX5_wet 45 = .ok (.if_icmp .ne 6, 3) := by decide +kernel
theorem dX5_wet_48 : decode cX5_wet 48 = .ok (.bipush (-3), 2) := by decide +kernel
theorem dX5_wet_50 : decode cX5_wet 50 = .ok (.ireturn, 1) := by decide +kernel
theorem dX5_wet_51 : decode cX5_wet 51 = .ok (.aload_n 0, 1) := by decide +kernel
theorem dX5_wet_52 : decode cX5_wet 52 = .ok (.invokevirtual 145, 3) := by decide +kernel
theorem dX5_wet_55 : decode cX5_wet 55 = .ok (.aload_n 0, 1) := by decide +kernel
theorem dX5_wet_56 : decode cX5_wet 56 = .ok (.getfield 29, 3) := by decide +kernel
theorem dX5_wet_59 : decode cX5_wet 59 = .ok (.iconst 0, 1) := by decide +kernel
theorem dX5_wet_60 : decode cX5_wet 60 = .ok (.iconst 4, 1) := by decide +kernel
theorem dX5_wet_61 : decode cX5_wet 61 = .ok (.iload_n 1, 1) := by decide +kernel
theorem dX5_wet_62 : decode cX5_wet 62 = .ok (.imul, 1) := by decide +kernel
theorem dX5_wet_63 : decode cX5_wet 63 = .ok (.iadd, 1) := by decide +kernel
theorem dX5_wet_64 : decode cX5_wet 64 = .ok (.iload_n 2, 1) := by decide +kernel
theorem dX5_wet_65 : decode cX5_wet 65 = .ok (.iadd, 1) := by decide +kernel
theorem dX5_wet_66 : decode cX5_wet 66 = .ok (.iconst 2, 1) := by decide +kernel
theorem dX5_wet_67 : decode cX5_wet 67 = .ok (.iastore, 1) := by decide +kernel
theorem dX5_wet_68 : decode cX5_wet 68 = .ok (.iload_n 3, 1) := by decide +kernel
theorem dX5_wet_69 : decode cX5_wet 69 = .ok (.ireturn, 1) := by decide +kernel
set_option maxRecDepth 20000 in
theorem ggX5_dry_X5_noLegger : GoodIn wsX5_dry wsX5_noLegger := goodIn_r _ [8, 9, 10, 11, 7, 12, 19, 20, 21, 22, 23, 24, 25, 26, 27, 28, 29, 30, 31, 32, 33, 34, 35, 36, 37, 38, 39, 40, 41, 42, 43, 44, 45, 46, 47, 48, 49, 50, 51, 52, 53, 54, 55] (by decide +kernel) (by decide +kernel)
set_option maxRecDepth 20000 in
theorem gX5_dry_X5_noLegger : GoodIn wsX5_dry (wsV RX5 124 RX5 yX5_noLegger wsX5_noLegger) := goodIn_app (goodIn_of _ (by decide +kernel)) ggX5_dry_X5_noLegger
set_option maxRecDepth 20000 in
theorem ggX5_dry_X5_in : GoodIn wsX5_dry wsX5_in := goodIn_r _ [12] (by decide +kernel) (by decide +kernel)
set_option maxRecDepth 20000 in
theorem gX5_dry_X5_in : GoodIn wsX5_dry (va_wsS RX5 69 yX5_in wsX5_in) := goodIn_app (goodIn_of _ (by decide +kernel)) ggX5_dry_X5_in
set_option maxRecDepth 20000 in
theorem ggX5_dry_X5_note : GoodIn wsX5_dry wsX5_note := goodIn_r _ [16, 17, 18, 3, 19, 20, 21, 22, 23, 24, 25, 26, 27, 28, 29, 30, 31, 32, 33, 34, 35, 36, 37, 38, 39, 40, 41, 42, 43, 44, 45, 46, 47, 48, 49, 50, 51, 52, 53, 54, 55] (by decide +kernel) (by decide +kernel)
set_option maxRecDepth 20000 in
theorem gX5_dry_X5_note : GoodIn wsX5_dry (wsV RX5 145 RX5 yX5_note wsX5_note) := goodIn_app (goodIn_of _ (by decide +kernel)) ggX5_dry_X5_note
theorem dX5_dry_0 : decode cX5_dry 0 = .ok (.aload_n 0, 1) := by decide +kernel
theorem dX5_dry_1 : decode cX5_dry 1 = .ok (.iconst 0, 1) := by decide +kernel
theorem dX5_dry_2 : decode cX5_dry 2 = .ok (.putfield 63, 3) := by decide +kernel
theorem dX5_dry_5 : decode cX5_dry 5 = .ok (.aload_n 0, 1) := by decide +kernel
theorem dX5_dry_6 : decode cX5_dry 6 = .ok (.iload_n 1, 1) := by decide +kernel
theorem dX5_dry_7 : decode cX5_dry 7 = .ok (.invokevirtual 124, 3) := by decide +kernel
theorem dX5_dry_10 : decode cX5_dry 10 = .ok (.ifCond .eq 5, 3) := by decide +kernel
theorem dX5_dry_13 : decode cX5_dry 13 = .ok (.iconst (-1), 1) := by decide +kernel
theorem dX5_dry_14 : decode cX5_dry 14 = .ok (.ireturn, 1) := by decide +kernel
theorem dX5_dry_15 : decode cX5_dry 15 = .ok (.iload_n 2, 1) := by decide +kernel
theorem dX5_dry_16 : decode cX5_dry 16 = .ok (.i2l, 1) := by decide +kernel
theorem dX5_dry_17 : decode cX5_dry 17 = .ok (.lconst 0, 1) := by decide +kernel
theorem dX5_dry_18 : decode cX5_dry 18 = .ok (.ldc2_w 128, 3) := by decide +kernel
theorem dX5_dry_21 : decode cX5_dry 21 = .ok (.invokestatic 69, 3) := by decide +kernel
theorem dX5_dry_24 : decode cX5_dry 24 = .ok (.ifCond .ne 6, 3) := by decide +kernel
theorem dX5_dry_27 : decode cX5_dry 27 = .ok (.bipush (-2), 2) := by decide +kernel
theorem dX5_dry_29 : decode cX5_dry 29 = .ok (.ireturn, 1) := by decide +kernel
theorem dX5_dry_30 : decode cX5_dry 30 = .ok (.aload_n 0, 1) := by decide +kernel
theorem dX5_dry_31 : decode cX5_dry 31 = .ok (.getfield 29, 3) := by decide +kernel
theorem dX5_dry_34 : decode cX5_dry 34 = .ok (.iconst 0, 1) := by decide +kernel
theorem dX5_dry_35 : decode cX5_dry 35 = .ok (.iconst 4, 1) := by decide +kernel
theorem dX5_dry_36 : decode cX5_dry 36 = .ok (.iload_n 1, 1) := by decide +kernel
theorem dX5_dry_37 : decode cX5_dry 37 = .ok (.imul, 1) := by decide +kernel
theorem dX5_dry_38 : decode cX5_dry 38 = .ok (.iadd, 1) := by decide +kernel
theorem dX5_dry_39 : decode cX5_dry 39 = .ok (.iload_n 2, 1) := by decide +kernel
theorem dX5_dry_40 : decode cX5_dry 40 = .ok (.iadd, 1) := by decide +kernel
theorem dX5_dry_41 : decode cX5_dry 41 = .ok (.iaload, 1) := by decide +kernel
theorem dX5_dry_42 : decode cX5_dry 42 = .ok (.iconst 2, 1) := by decide +kernel
theorem dX5_dry_43 : decode cX5_dry 43 = .ok (.if_icmp .eq 6, 3) := by decide +kernel
theorem dX5_dry_46 : decode cX5_dry 46 = .ok (.bipush (-3), 2) := by decide +kernel
theorem dX5_dry_48 : decode cX5_dry 48 = .ok (.ireturn, 1) := by decide +kernel
theorem dX5_dry_49 : decode cX5_dry 49 = .ok (.aload_n 0, 1) := by decide +kernel
theorem dX5_dry_50 : decode cX5_dry 50 = .ok (.invokevirtual 145, 3) := by decide +kernel
theorem dX5_dry_53 : decode cX5_dry 53 = .ok (.aload_n 0, 1) := by decide +kernel
theorem dX5_dry_54 : decode cX5_dry 54 = .ok (.getfield 29, 3) := by decide +kernel
theorem dX5_dry_57 : decode cX5_dry 57 = .ok (.iconst 0, 1) := by decide +kernel
theorem dX5_dry_58 : decode cX5_dry 58 = .ok (.iconst 4, 1) := by decide +kernel
theorem dX5_dry_59 : decode cX5_dry 59 = .ok (.iload_n 1, 1) := by decide +kernel
theorem dX5_dry_60 : decode cX5_dry 60 = .ok (.imul, 1) := by decide +kernel
theorem dX5_dry_61 : decode cX5_dry 61 = .ok (.iadd, 1) := by decide +kernel
theorem dX5_dry_62 : decode cX5_dry 62 = .ok (.iload_n 2, 1) := by decide +kernel
theorem dX5_dry_63 : decode cX5_dry 63 = .ok (.iadd, 1) := by decide +kernel
theorem dX5_dry_64 : decode cX5_dry 64 = .ok (.iconst 0, 1) := by decide +kernel
theorem dX5_dry_65 : decode cX5_dry 65 = .ok (.iastore, 1) := by decide +kernel
theorem dX5_dry_66 : decode cX5_dry 66 = .ok (.iconst 0, 1) := by decide +kernel
theorem dX5_dry_67 : decode cX5_dry 67 = .ok (.istore_n 3, 1) := by decide +kernel
theorem dX5_dry_68 : decode cX5_dry 68 = .ok (.iconst 0, 1) := by decide +kernel
theorem dX5_dry_69 : decode cX5_dry 69 = .ok (.istore 4, 2) := by decide +kernel
theorem dX5_dry_71 : decode cX5_dry 71 = .ok (.iload 4, 2) := by decide +kernel
theorem dX5_dry_73 : decode cX5_dry 73 = .ok (.iconst 4, 1) := by decide +kernel
theorem dX5_dry_74 : decode cX5_dry 74 = .ok (.if_icmp .ge 34, 3) := by decide +kernel
theorem dX5_dry_77 : decode cX5_dry 77 = .ok (.iload_n 3, 1) := by decide +kernel
theorem dX5_dry_78 : decode cX5_dry 78 = .ok (.aload_n 0, 1) := by decide +kernel
theorem dX5_dry_79 : decode cX5_dry 79 = .ok (.getfield 29, 3) := by decide +kernel
theorem dX5_dry_82 : decode cX5_dry 82 = .ok (.iconst 0, 1) := by decide +kernel
theorem dX5_dry_83 : decode cX5_dry 83 = .ok (.iconst 4, 1) := by decide +kernel
theorem dX5_dry_84 : decode cX5_dry 84 = .ok (.iload_n 1, 1) := by decide +kernel
theorem dX5_dry_85 : decode cX5_dry 85 = .ok (.imul, 1) := by decide +kernel
theorem dX5_dry_86 : decode cX5_dry 86 = .ok (.iadd, 1) := by decide +kernel
theorem dX5_dry_87 : decode cX5_dry 87 = .ok (.iload 4, 2) := by decide +kernel
theorem dX5_dry_89 : decode cX5_dry 89 = .ok (.iadd, 1) := by decide +kernel
theorem dX5_dry_90 : decode cX5_dry 90 = .ok (.iaload, 1) := by decide +kernel
theorem dX5_dry_91 : decode cX5_dry 91 = .ok (.iconst 2, 1) := by decide +kernel
theorem dX5_dry_92 : decode cX5_dry 92 = .ok (.if_icmp .ne 7, 3) := by decide +kernel
theorem dX5_dry_95 : decode cX5_dry 95 = .ok (.iconst 1, 1) := by decide +kernel
theorem dX5_dry_96 : decode cX5_dry 96 = .ok (.goto 4, 3) := by decide +kernel
theorem dX5_dry_99 : decode cX5_dry 99 = .ok (.iconst 0, 1) := by decide +kernel
theorem dX5_dry_100 : decode cX5_dry 100 = .ok (.iadd, 1) := by decide +kernel
theorem dX5_dry_101 : decode cX5_dry 101 = .ok (.istore_n 3, 1) := by decide +kernel
theorem dX5_dry_102 : decode cX5_dry 102 = .ok (.iinc 4 1, 3) := by decide +kernel
theorem dX5_dry_105 : decode cX5_dry 105 = .ok (.goto (-34), 3) := by decide +kernel
theorem dX5_dry_108 : decode cX5_dry 108 = .ok (.iload_n 3, 1) := by decide +kernel
theorem dX5_dry_109 : decode cX5_dry 109 = .ok (.ireturn, 1) := by decide +kernel
theorem dX5_undo_0 : decode cX5_undo 0 = .ok (.aload_n 0, 1) := by decide +kernel
theorem dX5_undo_1 : decode cX5_undo 1 = .ok (.iconst 0, 1) := by decide +kernel
theorem dX5_undo_2 : decode cX5_undo 2 = .ok (.putfield 63, 3) := by decide +kernel
theorem dX5_undo_5 : decode cX5_undo 5 = .ok (.aload_n 0, 1) := by decide +kernel
theorem dX5_undo_6 : decode cX5_undo 6 = .ok (.getfield 107, 3) := by decide +kernel
theorem dX5_undo_9 : decode cX5_undo 9 = .ok (.ifCond .ne 6, 3) := by decide +kernel
theorem dX5_undo_12 : decode cX5_undo 12 = .ok (.bipush (-3), 2) := by decide +kernel
theorem dX5_undo_14 : decode cX5_undo 14 = .ok (.ireturn, 1) := by decide +kernel
theorem dX5_undo_15 : decode cX5_undo 15 = .ok (.aload_n 0, 1) := by decide +kernel
theorem dX5_undo_16 : decode cX5_undo 16 = .ok (.dup, 1) := by decide +kernel
theorem dX5_undo_17 : decode cX5_undo 17 = .ok (.getfield 107, 3) := by decide +kernel
theorem dX5_undo_20 : decode cX5_undo 20 = .ok (.iconst 1, 1) := by decide +kernel
theorem dX5_undo_21 : decode cX5_undo 21 = .ok (.isub, 1) := by decide +kernel
theorem dX5_undo_22 : decode cX5_undo 22 = .ok (.putfield 107, 3) := by decide +kernel
theorem dX5_undo_25 : decode cX5_undo 25 = .ok (.iconst 0, 1) := by decide +kernel
theorem dX5_undo_26 : decode cX5_undo 26 = .ok (.istore_n 1, 1) := by decide +kernel
theorem dX5_undo_27 : decode cX5_undo 27 = .ok (.iload_n 1, 1) := by decide +kernel
theorem dX5_undo_28 : decode cX5_undo 28 = .ok (.bipush 22, 2) := by decide +kernel
theorem dX5_undo_30 : decode cX5_undo 30 = .ok (.if_icmp .ge 29, 3) := by decide +kernel
theorem dX5_undo_33 : decode cX5_undo 33 = .ok (.aload_n 0, 1) := by decide +kernel
theorem dX5_undo_34 : decode cX5_undo 34 = .ok (.getfield 29, 3) := by decide +kernel
theorem dX5_undo_37 : decode cX5_undo 37 = .ok (.iload_n 1, 1) := by decide +kernel
theorem dX5_undo_38 : decode cX5_undo 38 = .ok (.aload_n 0, 1) := by decide +kernel
theorem dX5_undo_39 : decode cX5_undo 39 = .ok (.getfield 38, 3) := by decide +kernel
theorem dX5_undo_42 : decode cX5_undo 42 = .ok (.bipush 22, 2) := by decide +kernel
theorem dX5_undo_44 : decode cX5_undo 44 = .ok (.aload_n 0, 1) := by decide +kernel
theorem dX5_undo_45 : decode cX5_undo 45 = .ok (.getfield 107, 3) := by decide +kernel
theorem dX5_undo_48 : decode cX5_undo 48 = .ok (.imul, 1) := by decide +kernel
theorem dX5_undo_49 : decode cX5_undo 49 = .ok (.iload_n 1, 1) := by decide +kernel
theorem dX5_undo_50 : decode cX5_undo 50 = .ok (.iadd, 1) := by decide +kernel
theorem dX5_undo_51 : decode cX5_undo 51 = .ok (.iaload, 1) := by decide +kernel
theorem dX5_undo_52 : decode cX5_undo 52 = .ok (.iastore, 1) := by decide +kernel
theorem dX5_undo_53 : decode cX5_undo 53 = .ok (.iinc 1 1, 3) := by decide +kernel
theorem dX5_undo_56 : decode cX5_undo 56 = .ok (.goto (-29), 3) := by decide +kernel
theorem dX5_undo_59 : decode cX5_undo 59 = .ok (.aload_n 0, 1) := by decide +kernel
theorem dX5_undo_60 : decode cX5_undo 60 = .ok (.getfield 107, 3) := by decide +kernel
theorem dX5_undo_63 : decode cX5_undo 63 = .ok (.ireturn, 1) := by decide +kernel
theorem dX5_copy_0 : decode cX5_copy 0 = .ok (.iconst 0, 1) := by decide +kernel
theorem dX5_copy_1 : decode cX5_copy 1 = .ok (.istore_n 2, 1) := by decide +kernel
theorem dX5_copy_2 : decode cX5_copy 2 = .ok (.iload_n 2, 1) := by decide +kernel
theorem dX5_copy_3 : decode cX5_copy 3 = .ok (.bipush 22, 2) := by decide +kernel
theorem dX5_copy_5 : decode cX5_copy 5 = .ok (.if_icmp .ge 15, 3) := by decide +kernel
theorem dX5_copy_8 : decode cX5_copy 8 = .ok (.aload_n 1, 1) := by decide +kernel
theorem dX5_copy_9 : decode cX5_copy 9 = .ok (.iload_n 2, 1) := by decide +kernel
theorem dX5_copy_10 : decode cX5_copy 10 = .ok (.aload_n 0, 1) := by decide +kernel
theorem dX5_copy_11 : decode cX5_copy 11 = .ok (.iload_n 2, 1) := by decide +kernel
theorem dX5_copy_12 : decode cX5_copy 12 = .ok (.iaload, 1) := by decide +kernel
theorem dX5_copy_13 : decode cX5_copy 13 = .ok (.iastore, 1) := by decide +kernel
theorem dX5_copy_14 : decode cX5_copy 14 = .ok (.iinc 2 1, 3) := by decide +kernel
theorem dX5_copy_17 : decode cX5_copy 17 = .ok (.goto (-15), 3) := by decide +kernel
theorem dX5_copy_20 : decode cX5_copy 20 = .ok (.return_, 1) := by decide +kernel
set_option maxRecDepth 20000 in
theorem ggX5_alone_X5_noLegger : GoodIn wsX5_alone wsX5_noLegger := goodIn_r _ [9, 10, 11, 12, 8, 13, 25, 26, 27, 28, 29, 30, 31, 32, 33, 34, 35, 36, 37, 38, 39, 40, 41, 42, 43, 44, 45, 46, 47, 48, 49, 50, 51, 52, 53, 54, 55, 56, 57, 58, 59, 60, 61] (by decide +kernel) (by decide +kernel)
set_option maxRecDepth 20000 in
theorem gX5_alone_X5_noLegger : GoodIn wsX5_alone (wsV RX5 124 RX5 yX5_noLegger wsX5_noLegger) := goodIn_app (goodIn_of _ (by decide +kernel)) ggX5_alone_X5_noLegger
set_option maxRecDepth 20000 in
theorem ggX5_alone_X5_in : GoodIn wsX5_alone wsX5_in := goodIn_r _ [13] (by decide +kernel) (by decide +kernel)
set_option maxRecDepth 20000 in
theorem gX5_alone_X5_in : GoodIn wsX5_alone (va_wsS RX5 69 yX5_in wsX5_in) := goodIn_app (goodIn_of _ (by decide +kernel)) ggX5_alone_X5_in
set_option maxRecDepth 20000 in
theorem ggX5_alone_X5_takes : GoodIn wsX5_alone wsX5_takes := goodIn_r _ [17, 18, 3, 19, 20, 8, 21, 25, 26, 27, 28, 29, 30, 31, 32, 33, 34, 35, 36, 37, 38, 39, 40, 41, 42, 43, 44, 45, 46, 47, 48, 49, 50, 51, 52, 53, 54, 55, 56, 57, 58, 59, 60, 61] (by decide +kernel) (by decide +kernel)
set_option maxRecDepth 20000 in
theorem gX5_alone_X5_takes : GoodIn wsX5_alone (wsV RX5 114 RX5 yX5_takes wsX5_takes) := goodIn_app (goodIn_of _ (by decide +kernel)) ggX5_alone_X5_takes
set_option maxRecDepth 20000 in
theorem ggX5_alone_X5_next : GoodIn wsX5_alone wsX5_next := goodIn_r _ [24] (by decide +kernel) (by decide +kernel)
set_option maxRecDepth 20000 in
theorem gX5_alone_X5_next : GoodIn wsX5_alone (va_wsS RX5 118 yX5_next wsX5_next) := goodIn_app (goodIn_of _ (by decide +kernel)) ggX5_alone_X5_next
theorem dX5_alone_0 : decode cX5_alone 0 = .ok (.aload_n 0, 1) := by decide +kernel
theorem dX5_alone_1 : decode cX5_alone 1 = .ok (.iconst 0, 1) := by decide +kernel
theorem dX5_alone_2 : decode cX5_alone 2 = .ok (.putfield 63, 3) := by decide +kernel
theorem dX5_alone_5 : decode cX5_alone 5 = .ok (.aload_n 0, 1) := by decide +kernel
theorem dX5_alone_6 : decode cX5_alone 6 = .ok (.iload_n 1, 1) := by decide +kernel
theorem dX5_alone_7 : decode cX5_alone 7 = .ok (.invokevirtual 124, 3) := by decide +kernel
theorem dX5_alone_10 : decode cX5_alone 10 = .ok (.ifCond .eq 5, 3) := by decide +kernel
theorem dX5_alone_13 : decode cX5_alone 13 = .ok (.iconst (-1), 1) := by decide +kernel
theorem dX5_alone_14 : decode cX5_alone 14 = .ok (.ireturn, 1) := by decide +kernel
theorem dX5_alone_15 : decode cX5_alone 15 = .ok (.iload_n 2, 1) := by decide +kernel
theorem dX5_alone_16 : decode cX5_alone 16 = .ok (.i2l, 1) := by decide +kernel
theorem dX5_alone_17 : decode cX5_alone 17 = .ok (.lconst 0, 1) := by decide +kernel
theorem dX5_alone_18 : decode cX5_alone 18 = .ok (.ldc2_w 128, 3) := by decide +kernel
theorem dX5_alone_21 : decode cX5_alone 21 = .ok (.invokestatic 69, 3) := by decide +kernel
theorem dX5_alone_24 : decode cX5_alone 24 = .ok (.ifCond .ne 6, 3) := by decide +kernel
theorem dX5_alone_27 : decode cX5_alone 27 = .ok (.bipush (-2), 2) := by decide +kernel
theorem dX5_alone_29 : decode cX5_alone 29 = .ok (.ireturn, 1) := by decide +kernel
theorem dX5_alone_30 : decode cX5_alone 30 = .ok (.iload_n 2, 1) := by decide +kernel
theorem dX5_alone_31 : decode cX5_alone 31 = .ok (.istore_n 3, 1) := by decide +kernel
theorem dX5_alone_32 : decode cX5_alone 32 = .ok (.iconst 0, 1) := by decide +kernel
theorem dX5_alone_33 : decode cX5_alone 33 = .ok (.istore 4, 2) := by decide +kernel
theorem dX5_alone_35 : decode cX5_alone 35 = .ok (.iconst 0, 1) := by decide +kernel
theorem dX5_alone_36 : decode cX5_alone 36 = .ok (.istore 5, 2) := by decide +kernel
theorem dX5_alone_38 : decode cX5_alone 38 = .ok (.iload 5, 2) := by decide +kernel
theorem dX5_alone_40 : decode cX5_alone 40 = .ok (.aload_n 0, 1) := by decide +kernel
theorem dX5_alone_41 : decode cX5_alone 41 = .ok (.getfield 13, 3) := by decide +kernel
theorem dX5_alone_44 : decode cX5_alone 44 = .ok (.if_icmp .ge 43, 3) := by decide +kernel
theorem dX5_alone_47 : decode cX5_alone 47 = .ok (.iload 4, 2) := by decide +kernel
theorem dX5_alone_49 : decode cX5_alone 49 = .ok (.aload_n 0, 1) := by decide +kernel
theorem dX5_alone_50 : decode cX5_alone 50 = .ok (.aload_n 0, 1) := by decide +kernel
theorem dX5_alone_51 : decode cX5_alone 51 = .ok (.getfield 29, 3) := by decide +kernel
theorem dX5_alone_54 : decode cX5_alone 54 = .ok (.iload_n 1, 1) := by decide +kernel
theorem dX5_alone_55 : decode cX5_alone 55 = .ok (.iload 5, 2) := by decide +kernel
theorem dX5_alone_57 : decode cX5_alone 57 = .ok (.iload_n 3, 1) := by decide +kernel
theorem dX5_alone_58 : decode cX5_alone 58 = .ok (.invokevirtual 114, 3) := by decide +kernel
theorem dX5_alone_61 : decode cX5_alone 61 = .ok (.iadd, 1) := by decide +kernel
theorem dX5_alone_62 : decode cX5_alone 62 = .ok (.istore 4, 2) := by decide +kernel
theorem dX5_alone_64 : decode cX5_alone 64 = .ok (.iload_n 3, 1) := by decide +kernel
theorem dX5_alone_65 : decode cX5_alone 65 = .ok (.aload_n 0, 1) := by decide +kernel
theorem dX5_alone_66 : decode cX5_alone 66 = .ok (.getfield 29, 3) := by decide +kernel
theorem dX5_alone_69 : decode cX5_alone 69 = .ok (.iconst 0, 1) := by decide +kernel
theorem dX5_alone_70 : decode cX5_alone 70 = .ok (.iconst 4, 1) := by decide +kernel
theorem dX5_alone_71 : decode cX5_alone 71 = .ok (.iload_n 1, 1) := by decide +kernel
theorem dX5_alone_72 : decode cX5_alone 72 = .ok (.imul, 1) := by decide +kernel
theorem dX5_alone_73 : decode cX5_alone 73 = .ok (.iadd, 1) := by decide +kernel
theorem dX5_alone_74 : decode cX5_alone 74 = .ok (.iload_n 3, 1) := by decide +kernel
theorem dX5_alone_75 : decode cX5_alone 75 = .ok (.iadd, 1) := by decide +kernel
theorem dX5_alone_76 : decode cX5_alone 76 = .ok (.iaload, 1) := by decide +kernel
theorem dX5_alone_77 : decode cX5_alone 77 = .ok (.invokestatic 118, 3) := by decide +kernel
theorem dX5_alone_80 : decode cX5_alone 80 = .ok (.istore_n 3, 1) := by decide +kernel
theorem dX5_alone_81 : decode cX5_alone 81 = .ok (.iinc 5 1, 3) := by decide +kernel
theorem dX5_alone_84 : decode cX5_alone 84 = .ok (.goto (-46), 3) := by decide +kernel
theorem dX5_alone_87 : decode cX5_alone 87 = .ok (.iload 4, 2) := by decide +kernel
theorem dX5_alone_89 : decode cX5_alone 89 = .ok (.ireturn, 1) := by decide +kernel
set_option maxRecDepth 20000 in
theorem ggX5_time_X5_noPair : GoodIn wsX5_time wsX5_noPair := goodIn_r _ [9, 10, 11, 12, 8, 13, 14, 15, 16, 17, 18, 19, 20, 21, 22, 39, 40, 41, 42, 43, 44, 45, 46, 47, 48, 49, 50, 51, 52, 53, 54, 55, 56, 57, 58, 59, 60, 61, 62, 63, 64, 65, 66, 67, 68, 69, 70, 71, 72, 73, 74, 75] (by decide +kernel) (by decide +kernel)
set_option maxRecDepth 20000 in
theorem gX5_time_X5_noPair : GoodIn wsX5_time (wsV RX5 137 RX5 yX5_noPair wsX5_noPair) := goodIn_app (goodIn_of _ (by decide +kernel)) ggX5_time_X5_noPair
set_option maxRecDepth 20000 in
theorem ggX5_time_X5_in : GoodIn wsX5_time wsX5_in := goodIn_r _ [17] (by decide +kernel) (by decide +kernel)
set_option maxRecDepth 20000 in
theorem gX5_time_X5_in : GoodIn wsX5_time (va_wsS RX5 69 yX5_in wsX5_in) := goodIn_app (goodIn_of _ (by decide +kernel)) ggX5_time_X5_in
set_option maxRecDepth 20000 in
theorem ggX5_time_X5_timeOf : GoodIn wsX5_time wsX5_timeOf := goodIn_r _ [26, 27, 28, 29, 30, 8, 31, 32, 33, 34, 35, 36, 37, 38, 39, 40, 41, 42, 43, 44, 45, 46, 47, 48, 49, 50, 51, 52, 53, 54, 55, 56, 57, 58, 59, 60, 61, 62, 63, 64, 65, 66, 67, 68, 69, 70, 71, 72, 73, 74, 75] (by decide +kernel) (by decide +kernel)
set_option maxRecDepth 20000 in
theorem gX5_time_X5_timeOf : GoodIn wsX5_time (wsV RX5 133 RX5 yX5_timeOf wsX5_timeOf) := goodIn_app (goodIn_of _ (by decide +kernel)) ggX5_time_X5_timeOf
theorem dX5_time_0 : decode cX5_time 0 = .ok (.aload_n 0, 1) := by decide +kernel
theorem dX5_time_1 : decode cX5_time 1 = .ok (.iconst 0, 1) := by decide +kernel
theorem dX5_time_2 : decode cX5_time 2 = .ok (.putfield 63, 3) := by decide +kernel
theorem dX5_time_5 : decode cX5_time 5 = .ok (.aload_n 0, 1) := by decide +kernel
theorem dX5_time_6 : decode cX5_time 6 = .ok (.iload_n 1, 1) := by decide +kernel
theorem dX5_time_7 : decode cX5_time 7 = .ok (.iload_n 2, 1) := by decide +kernel
theorem dX5_time_8 : decode cX5_time 8 = .ok (.iload_n 3, 1) := by decide +kernel
theorem dX5_time_9 : decode cX5_time 9 = .ok (.invokevirtual 137, 3) := by decide +kernel
theorem dX5_time_12 : decode cX5_time 12 = .ok (.istore 6, 2) := by decide +kernel
theorem dX5_time_14 : decode cX5_time 14 = .ok (.iload 6, 2) := by decide +kernel
theorem dX5_time_16 : decode cX5_time 16 = .ok (.ifCond .eq 6, 3) := by decide +kernel
theorem dX5_time_19 : decode cX5_time 19 = .ok (.iload 6, 2) := by decide +kernel
theorem dX5_time_21 : decode cX5_time 21 = .ok (.ireturn, 1) := by decide +kernel
theorem dX5_time_22 : decode cX5_time 22 = .ok (.iload 4, 2) := by decide +kernel
theorem dX5_time_24 : decode cX5_time 24 = .ok (.i2l, 1) := by decide +kernel
theorem dX5_time_25 : decode cX5_time 25 = .ok (.lconst 0, 1) := by decide +kernel
theorem dX5_time_26 : decode cX5_time 26 = .ok (.ldc2_w 128, 3) := by decide +kernel
theorem dX5_time_29 : decode cX5_time 29 = .ok (.invokestatic 69, 3) := by decide +kernel
theorem dX5_time_32 : decode cX5_time 32 = .ok (.ifCond .eq 40, 3) := by decide +kernel
theorem dX5_time_35 : decode cX5_time 35 = .ok (.iload 5, 2) := by decide +kernel
theorem dX5_time_37 : decode cX5_time 37 = .ok (.i2l, 1) := by decide +kernel
theorem dX5_time_38 : decode cX5_time 38 = .ok (.lconst 0, 1) := by decide +kernel
theorem dX5_time_39 : decode cX5_time 39 = .ok (.ldc2_w 128, 3) := by decide +kernel
theorem dX5_time_42 : decode cX5_time 42 = .ok (.invokestatic 69, 3) := by decide +kernel
theorem dX5_time_45 : decode cX5_time 45 = .ok (.ifCond .eq 27, 3) := by decide +kernel
theorem dX5_time_48 : decode cX5_time 48 = .ok (.aload_n 0, 1) := by decide +kernel
theorem dX5_time_49 : decode cX5_time 49 = .ok (.aload_n 0, 1) := by decide +kernel
theorem dX5_time_50 : decode cX5_time 50 = .ok (.getfield 29, 3) := by decide +kernel
theorem dX5_time_53 : decode cX5_time 53 = .ok (.iload_n 2, 1) := by decide +kernel
theorem dX5_time_54 : decode cX5_time 54 = .ok (.iload_n 3, 1) := by decide +kernel
theorem dX5_time_55 : decode cX5_time 55 = .ok (.iload 4, 2) := by decide +kernel
theorem dX5_time_57 : decode cX5_time 57 = .ok (.iload 5, 2) := by decide +kernel
theorem dX5_time_59 : decode cX5_time 59 = .ok (.invokevirtual 133, 3) := by decide +kernel
theorem dX5_time_62 : decode cX5_time 62 = .ok (.aload_n 0, 1) := by decide +kernel
theorem dX5_time_63 : decode cX5_time 63 = .ok (.getfield 20, 3) := by decide +kernel
theorem dX5_time_66 : decode cX5_time 66 = .ok (.iload_n 1, 1) := by decide +kernel
theorem dX5_time_67 : decode cX5_time 67 = .ok (.iaload, 1) := by decide +kernel
theorem dX5_time_68 : decode cX5_time 68 = .ok (.iadd, 1) := by decide +kernel
theorem dX5_time_69 : decode cX5_time 69 = .ok (.goto 5, 3) := by decide +kernel
theorem dX5_time_72 : decode cX5_time 72 = .ok (.bipush (-2), 2) := by decide +kernel
theorem dX5_time_74 : decode cX5_time 74 = .ok (.ireturn, 1) := by decide +kernel
set_option maxRecDepth 20000 in
theorem ggX5_findBest_X5_timeOf : GoodIn wsX5_findBest wsX5_timeOf := goodIn_r _ [10, 11, 12, 13, 14, 9, 15, 16, 17, 18, 19, 20, 21, 22, 26, 27, 28, 29, 30, 31, 32, 33, 34, 35, 36, 37, 38, 39, 40, 41, 42, 43, 44, 45, 46, 47, 48, 49, 50, 51, 52, 53, 54, 55, 56, 57, 58, 59, 60, 61, 62] (by decide +kernel) (by decide +kernel)
set_option maxRecDepth 20000 in
theorem gX5_findBest_X5_timeOf : GoodIn wsX5_findBest (wsV RX5 133 RX5 yX5_timeOf wsX5_timeOf) := goodIn_app (goodIn_of _ (by decide +kernel)) ggX5_findBest_X5_timeOf
set_option maxRecDepth 20000 in
theorem ggX5_findBest_X5_has : GoodIn wsX5_findBest wsX5_has := goodIn_r _ [25] (by decide +kernel) (by decide +kernel)
set_option maxRecDepth 20000 in
theorem gX5_findBest_X5_has : GoodIn wsX5_findBest (va_wsS RX5 141 yX5_has wsX5_has) := goodIn_app (goodIn_of _ (by decide +kernel)) ggX5_findBest_X5_has
theorem dX5_findBest_0 : decode cX5_findBest 0 = .ok (.aload_n 0, 1) := by decide +kernel
theorem dX5_findBest_1 : decode cX5_findBest 1 = .ok (.bipush (-9), 2) := by decide +kernel
theorem dX5_findBest_3 : decode cX5_findBest 3 = .ok (.putfield 152, 3) := by decide +kernel
theorem dX5_findBest_6 : decode cX5_findBest 6 = .ok (.aload_n 0, 1) := by decide +kernel
theorem dX5_findBest_7 : decode cX5_findBest 7 = .ok (.bipush (-9), 2) := by decide +kernel
theorem dX5_findBest_9 : decode cX5_findBest 9 = .ok (.putfield 155, 3) := by decide +kernel
theorem dX5_findBest_12 : decode cX5_findBest 12 = .ok (.iconst 0, 1) := by decide +kernel
theorem dX5_findBest_13 : decode cX5_findBest 13 = .ok (.istore_n 3, 1) := by decide +kernel
theorem dX5_findBest_14 : decode cX5_findBest 14 = .ok (.iload_n 3, 1) := by decide +kernel
theorem dX5_findBest_15 : decode cX5_findBest 15 = .ok (.aload_n 0, 1) := by decide +kernel
theorem dX5_findBest_16 : decode cX5_findBest 16 = .ok (.getfield 66, 3) := by decide +kernel
theorem dX5_findBest_19 : decode cX5_findBest 19 = .ok (.if_icmp .ge 103, 3) := by decide +kernel
theorem dX5_findBest_22 : decode cX5_findBest 22 = .ok (.iload_n 3, 1) := by decide +kernel
theorem dX5_findBest_23 : decode cX5_findBest 23 = .ok (.iconst 1, 1) := by decide +kernel
theorem dX5_findBest_24 : decode cX5_findBest 24 = .ok (.iadd, 1) := by decide +kernel
theorem dX5_findBest_25 : decode cX5_findBest 25 = .ok (.istore 4, 2) := by decide +kernel
theorem dX5_findBest_27 : decode cX5_findBest 27 = .ok (.iload 4, 2) := by decide +kernel
theorem dX5_findBest_29 : decode cX5_findBest 29 = .ok (.aload_n 0, 1) := by decide +kernel
theorem dX5_findBest_30 : decode cX5_findBest 30 = .ok (.getfield 66, 3) := by decide +kernel
theorem dX5_findBest_33 : decode cX5_findBest 33 = .ok (.if_icmp .ge 83, 3) := by decide +kernel
theorem dX5_findBest_36 : decode cX5_findBest 36 = .ok (.aload_n 0, 1) := by decide +kernel
theorem dX5_findBest_37 : decode cX5_findBest 37 = .ok (.aload_n 0, 1) := by decide +kernel
theorem dX5_findBest_38 : decode cX5_findBest 38 = .ok (.getfield 29, 3) := by decide +kernel
theorem dX5_findBest_41 : decode cX5_findBest 41 = .ok (.iload_n 3, 1) := by decide +kernel
theorem dX5_findBest_42 : decode cX5_findBest 42 = .ok (.iload 4, 2) := by decide +kernel
theorem dX5_findBest_44 : decode cX5_findBest 44 = .ok (.iconst 0, 1) := by decide +kernel
theorem dX5_findBest_45 : decode cX5_findBest 45 = .ok (.iconst 0, 1) := by decide +kernel
theorem dX5_findBest_46 : decode cX5_findBest 46 = .ok (.invokevirtual 133, 3) := by decide +kernel
theorem dX5_findBest_49 : decode cX5_findBest 49 = .ok (.aload_n 0, 1) := by decide +kernel
theorem dX5_findBest_50 : decode cX5_findBest 50 = .ok (.getfield 20, 3) := by decide +kernel
theorem dX5_findBest_53 : decode cX5_findBest 53 = .ok (.iload_n 1, 1) := by decide +kernel
theorem dX5_findBest_54 : decode cX5_findBest 54 = .ok (.iaload, 1) := by decide +kernel
theorem dX5_findBest_55 : decode cX5_findBest 55 = .ok (.iadd, 1) := by decide +kernel
theorem dX5_findBest_56 : decode cX5_findBest 56 = .ok (.istore 5, 2) := by decide +kernel
theorem dX5_findBest_58 : decode cX5_findBest 58 = .ok (.iload_n 2, 1) := by decide +kernel
theorem dX5_findBest_59 : decode cX5_findBest 59 = .ok (.iload_n 3, 1) := by decide +kernel
theorem dX5_findBest_60 : decode cX5_findBest 60 = .ok (.invokestatic 141, 3) := by decide +kernel
theorem dX5_findBest_63 : decode cX5_findBest 63 = .ok (.ifCond .eq 47, 3) := by decide +kernel
theorem dX5_findBest_66 : decode cX5_findBest 66 = .ok (.iload_n 2, 1) := by decide +kernel
theorem dX5_findBest_67 : decode cX5_findBest 67 = .ok (.iload 4, 2) := by decide +kernel
theorem dX5_findBest_69 : decode cX5_findBest 69 = .ok (.invokestatic 141, 3) := by decide +kernel
theorem dX5_findBest_72 : decode cX5_findBest 72 = .ok (.ifCond .eq 38, 3) := by decide +kernel
theorem dX5_findBest_75 : decode cX5_findBest 75 = .ok (.aload_n 0, 1) := by decide +kernel
theorem dX5_findBest_76 : decode cX5_findBest 76 = .ok (.getfield 152, 3) := by decide +kernel
theorem dX5_findBest_79 : decode cX5_findBest 79 = .ok (.bipush (-9), 2) := by decide +kernel
theorem dX5_findBest_81 : decode cX5_findBest 81 = .ok (.if_icmp .eq 12, 3) := by decide +kernel
theorem dX5_findBest_84 : decode cX5_findBest 84 = .ok (.iload 5, 2) := by decide +kernel
theorem dX5_findBest_86 : decode cX5_findBest 86 = .ok (.aload_n 0, 1) := by decide +kernel
theorem dX5_findBest_87 : decode cX5_findBest 87 = .ok (.getfield 155, 3) := by decide +kernel
theorem dX5_findBest_90 : decode cX5_findBest 90 = .ok (.if_icmp .ge 20, 3) := by decide +kernel
theorem dX5_findBest_93 : decode cX5_findBest 93 = .ok (.aload_n 0, 1) := by decide +kernel
theorem dX5_findBest_94 : decode cX5_findBest 94 = .ok (.bipush 10, 2) := by decide +kernel
theorem dX5_findBest_96 : decode cX5_findBest 96 = .ok (.iload_n 3, 1) := by decide +kernel
theorem dX5_findBest_97 : decode cX5_findBest 97 = .ok (.imul, 1) := by decide +kernel
theorem dX5_findBest_98 : decode cX5_findBest 98 = .ok (.iload 4, 2) := by decide +kernel
theorem dX5_findBest_100 : decode cX5_findBest 100 = .ok (.iadd, 1) := by decide +kernel
theorem dX5_findBest_101 : decode cX5_findBest 101 = .ok (.putfield 152, 3) := by decide +kernel
theorem dX5_findBest_104 : decode cX5_findBest 104 = .ok (.aload_n 0, 1) := by decide +kernel
theorem dX5_findBest_105 : decode cX5_findBest 105 = .ok (.iload 5, 2) := by decide +kernel
theorem dX5_findBest_107 : decode cX5_findBest 107 = .ok (.putfield 155, 3) := by decide +kernel
theorem dX5_findBest_110 : decode cX5_findBest 110 = .ok (.iinc 4 1, 3) := by decide +kernel
theorem dX5_findBest_113 : decode cX5_findBest 113 = .ok (.goto (-86), 3) := by decide +kernel
theorem dX5_findBest_116 : decode cX5_findBest 116 = .ok (.iinc 3 1, 3) := by decide +kernel
theorem dX5_findBest_119 : decode cX5_findBest 119 = .ok (.goto (-105), 3) := by decide +kernel
theorem dX5_findBest_122 : decode cX5_findBest 122 = .ok (.return_, 1) := by decide +kernel
set_option maxRecDepth 20000 in
theorem ggX5_best_X5_noBoat : GoodIn wsX5_best wsX5_noBoat := goodIn_r _ [8, 9, 10, 11, 7, 12, 39, 40, 41, 42, 43, 44, 45, 46, 47, 48, 49, 50, 51, 52, 53, 54, 55, 56, 57, 58, 59, 60, 61, 62, 63, 64, 65, 66, 67, 68, 69, 70, 71, 72, 73, 74, 75] (by decide +kernel) (by decide +kernel)
set_option maxRecDepth 20000 in
theorem gX5_best_X5_noBoat : GoodIn wsX5_best (wsV RX5 130 RX5 yX5_noBoat wsX5_noBoat) := goodIn_app (goodIn_of _ (by decide +kernel)) ggX5_best_X5_noBoat
set_option maxRecDepth 20000 in
theorem ggX5_best_X5_in : GoodIn wsX5_best wsX5_in := goodIn_r _ [12] (by decide +kernel) (by decide +kernel)
set_option maxRecDepth 20000 in
theorem gX5_best_X5_in : GoodIn wsX5_best (va_wsS RX5 69 yX5_in wsX5_in) := goodIn_app (goodIn_of _ (by decide +kernel)) ggX5_best_X5_in
set_option maxRecDepth 20000 in
theorem ggX5_best_X5_findBest : GoodIn wsX5_best wsX5_findBest := goodIn_r _ [16, 2, 3, 17, 18, 19, 20, 21, 22, 7, 23, 24, 25, 26, 27, 28, 29, 30, 31, 32, 33, 34, 35, 36, 37, 38, 39, 40, 41, 42, 43, 44, 45, 46, 47, 48, 49, 50, 51, 52, 53, 54, 55, 56, 57, 58, 59, 60, 61, 62, 63, 64, 65, 66, 67, 68, 69, 70, 71, 72, 73, 74, 75] (by decide +kernel) (by decide +kernel)
set_option maxRecDepth 20000 in
theorem gX5_best_X5_findBest : GoodIn wsX5_best (wsV RX5 158 RX5 yX5_findBest wsX5_findBest) := goodIn_app (goodIn_of _ (by decide +kernel)) ggX5_best_X5_findBest
theorem dX5_best_0 : decode cX5_best 0 = .ok (.aload_n 0, 1) := by decide +kernel
theorem dX5_best_1 : decode cX5_best 1 = .ok (.iconst 0, 1) := by decide +kernel
theorem dX5_best_2 : decode cX5_best 2 = .ok (.putfield 63, 3) := by decide +kernel
theorem dX5_best_5 : decode cX5_best 5 = .ok (.aload_n 0, 1) := by decide +kernel
theorem dX5_best_6 : decode cX5_best 6 = .ok (.iload_n 1, 1) := by decide +kernel
theorem dX5_best_7 : decode cX5_best 7 = .ok (.invokevirtual 130, 3) := by decide +kernel
theorem dX5_best_10 : decode cX5_best 10 = .ok (.ifCond .eq 5, 3) := by decide +kernel
theorem dX5_best_13 : decode cX5_best 13 = .ok (.iconst (-1), 1) := by decide +kernel
theorem dX5_best_14 : decode cX5_best 14 = .ok (.ireturn, 1) := by decide +kernel
theorem dX5_best_15 : decode cX5_best 15 = .ok (.iload_n 2, 1) := by decide +kernel
theorem dX5_best_16 : decode cX5_best 16 = .ok (.i2l, 1) := by decide +kernel
theorem dX5_best_17 : decode cX5_best 17 = .ok (.lconst 0, 1) := by decide +kernel
theorem dX5_best_18 : decode cX5_best 18 = .ok (.lconst 1, 1) := by decide +kernel
theorem dX5_best_19 : decode cX5_best 19 = .ok (.invokestatic 69, 3) := by decide +kernel
theorem dX5_best_22 : decode cX5_best 22 = .ok (.ifCond .ne 6, 3) := by decide +kernel
theorem dX5_best_25 : decode cX5_best 25 = .ok (.bipush (-2), 2) := by decide +kernel
theorem dX5_best_27 : decode cX5_best 27 = .ok (.ireturn, 1) := by decide +kernel
theorem dX5_best_28 : decode cX5_best 28 = .ok (.aload_n 0, 1) := by decide +kernel
theorem dX5_best_29 : decode cX5_best 29 = .ok (.iload_n 1, 1) := by decide +kernel
theorem dX5_best_30 : decode cX5_best 30 = .ok (.bipush 15, 2) := by decide +kernel
theorem dX5_best_32 : decode cX5_best 32 = .ok (.invokevirtual 158, 3) := by decide +kernel
theorem dX5_best_35 : decode cX5_best 35 = .ok (.iload_n 2, 1) := by decide +kernel
theorem dX5_best_36 : decode cX5_best 36 = .ok (.ifCond .ne 10, 3) := by decide +kernel
theorem dX5_best_39 : decode cX5_best 39 = .ok (.aload_n 0, 1) := by decide +kernel
theorem dX5_best_40 : decode cX5_best 40 = .ok (.getfield 152, 3) := by decide +kernel
theorem dX5_best_43 : decode cX5_best 43 = .ok (.goto 7, 3) := by decide +kernel
theorem dX5_best_46 : decode cX5_best 46 = .ok (.aload_n 0, 1) := by decide +kernel
theorem dX5_best_47 : decode cX5_best 47 = .ok (.getfield 155, 3) := by decide +kernel
theorem dX5_best_50 : decode cX5_best 50 = .ok (.ireturn, 1) := by decide +kernel
set_option maxRecDepth 20000 in
theorem ggX5_findBegin_X5_timeOf : GoodIn wsX5_findBegin wsX5_timeOf := goodIn_r _ [9, 10, 11, 12, 13, 8, 14, 15, 16, 17, 18, 19, 20, 21, 22, 23, 24, 25, 26, 27, 28, 29, 30, 31, 32, 33, 34, 35, 36, 37, 38, 39, 40, 41, 42, 43, 44, 45, 46, 47, 48, 49, 50, 51, 52, 53, 54, 55, 56, 57, 58] (by decide +kernel) (by decide +kernel)
set_option maxRecDepth 20000 in
theorem gX5_findBegin_X5_timeOf : GoodIn wsX5_findBegin (wsV RX5 133 RX5 yX5_timeOf wsX5_timeOf) := goodIn_app (goodIn_of _ (by decide +kernel)) ggX5_findBegin_X5_timeOf
theorem dX5_findBegin_0 : decode cX5_findBegin 0 = .ok (.aload_n 0, 1) := by decide +kernel
theorem dX5_findBegin_1 : decode cX5_findBegin 1 = .ok (.bipush (-9), 2) := by decide +kernel
theorem dX5_findBegin_3 : decode cX5_findBegin 3 = .ok (.putfield 162, 3) := by decide +kernel
theorem dX5_findBegin_6 : decode cX5_findBegin 6 = .ok (.aload_n 0, 1) := by decide +kernel
theorem dX5_findBegin_7 : decode cX5_findBegin 7 = .ok (.bipush (-9), 2) := by decide +kernel
theorem dX5_findBegin_9 : decode cX5_findBegin 9 = .ok (.putfield 165, 3) := by decide +kernel
theorem dX5_findBegin_12 : decode cX5_findBegin 12 = .ok (.iconst 0, 1) := by decide +kernel
theorem dX5_findBegin_13 : decode cX5_findBegin 13 = .ok (.istore 4, 2) := by decide +kernel
theorem dX5_findBegin_15 : decode cX5_findBegin 15 = .ok (.iload 4, 2) := by decide +kernel
theorem dX5_findBegin_17 : decode cX5_findBegin 17 = .ok (.bipush 16, 2) := by decide +kernel
theorem dX5_findBegin_19 : decode cX5_findBegin 19 = .ok (.if_icmp .ge 76, 3) := by decide +kernel
theorem dX5_findBegin_22 : decode cX5_findBegin 22 = .ok (.aload_n 0, 1) := by decide +kernel
theorem dX5_findBegin_23 : decode cX5_findBegin 23 = .ok (.aload_n 0, 1) := by decide +kernel
theorem dX5_findBegin_24 : decode cX5_findBegin 24 = .ok (.getfield 29, 3) := by decide +kernel
theorem dX5_findBegin_27 : decode cX5_findBegin 27 = .ok (.iload_n 2, 1) := by decide +kernel
theorem dX5_findBegin_28 : decode cX5_findBegin 28 = .ok (.iload_n 3, 1) := by decide +kernel
theorem dX5_findBegin_29 : decode cX5_findBegin 29 = .ok (.iload 4, 2) := by decide +kernel
theorem dX5_findBegin_31 : decode cX5_findBegin 31 = .ok (.iconst 4, 1) := by decide +kernel
theorem dX5_findBegin_32 : decode cX5_findBegin 32 = .ok (.idiv, 1) := by decide +kernel
theorem dX5_findBegin_33 : decode cX5_findBegin 33 = .ok (.iload 4, 2) := by decide +kernel
theorem dX5_findBegin_35 : decode cX5_findBegin 35 = .ok (.iconst 4, 1) := by decide +kernel
theorem dX5_findBegin_36 : decode cX5_findBegin 36 = .ok (.irem, 1) := by decide +kernel
theorem dX5_findBegin_37 : decode cX5_findBegin 37 = .ok (.invokevirtual 133, 3) := by decide +kernel
theorem dX5_findBegin_40 : decode cX5_findBegin 40 = .ok (.aload_n 0, 1) := by decide +kernel
theorem dX5_findBegin_41 : decode cX5_findBegin 41 = .ok (.getfield 20, 3) := by decide +kernel
theorem dX5_findBegin_44 : decode cX5_findBegin 44 = .ok (.iload_n 1, 1) := by decide +kernel
theorem dX5_findBegin_45 : decode cX5_findBegin 45 = .ok (.iaload, 1) := by decide +kernel
theorem dX5_findBegin_46 : decode cX5_findBegin 46 = .ok (.iadd, 1) := by decide +kernel
theorem dX5_findBegin_47 : decode cX5_findBegin 47 = .ok (.istore 5, 2) := by decide +kernel
theorem dX5_findBegin_49 : decode cX5_findBegin 49 = .ok (.aload_n 0, 1) := by decide +kernel
theorem dX5_findBegin_50 : decode cX5_findBegin 50 = .ok (.getfield 162, 3) := by decide +kernel
theorem dX5_findBegin_53 : decode cX5_findBegin 53 = .ok (.bipush (-9), 2) := by decide +kernel
theorem dX5_findBegin_55 : decode cX5_findBegin 55 = .ok (.if_icmp .eq 12, 3) := by decide +kernel
theorem dX5_findBegin_58 : decode cX5_findBegin 58 = .ok (.iload 5, 2) := by decide +kernel
theorem dX5_findBegin_60 : decode cX5_findBegin 60 = .ok (.aload_n 0, 1) := by decide +kernel
theorem dX5_findBegin_61 : decode cX5_findBegin 61 = .ok (.getfield 165, 3) := by decide +kernel
theorem dX5_findBegin_64 : decode cX5_findBegin 64 = .ok (.if_icmp .ge 25, 3) := by decide +kernel
theorem dX5_findBegin_67 : decode cX5_findBegin 67 = .ok (.aload_n 0, 1) := by decide +kernel
theorem dX5_findBegin_68 : decode cX5_findBegin 68 = .ok (.bipush 10, 2) := by decide +kernel
theorem dX5_findBegin_70 : decode cX5_findBegin 70 = .ok (.iload 4, 2) := by decide +kernel
theorem dX5_findBegin_72 : decode cX5_findBegin 72 = .ok (.iconst 4, 1) := by decide +kernel
theorem dX5_findBegin_73 : decode cX5_findBegin 73 = .ok (.idiv, 1) := by decide +kernel
theorem dX5_findBegin_74 : decode cX5_findBegin 74 = .ok (.imul, 1) := by decide +kernel
theorem dX5_findBegin_75 : decode cX5_findBegin 75 = .ok (.iload 4, 2) := by decide +kernel
theorem dX5_findBegin_77 : decode cX5_findBegin 77 = .ok (.iconst 4, 1) := by decide +kernel
theorem dX5_findBegin_78 : decode cX5_findBegin 78 = .ok (.irem, 1) := by decide +kernel
theorem dX5_findBegin_79 : decode cX5_findBegin 79 = .ok (.iadd, 1) := by decide +kernel
theorem dX5_findBegin_80 : decode cX5_findBegin 80 = .ok (.putfield 162, 3) := by decide +kernel
theorem dX5_findBegin_83 : decode cX5_findBegin 83 = .ok (.aload_n 0, 1) := by decide +kernel
theorem dX5_findBegin_84 : decode cX5_findBegin 84 = .ok (.iload 5, 2) := by decide +kernel
theorem dX5_findBegin_86 : decode cX5_findBegin 86 = .ok (.putfield 165, 3) := by decide +kernel
theorem dX5_findBegin_89 : decode cX5_findBegin 89 = .ok (.iinc 4 1, 3) := by decide +kernel
theorem dX5_findBegin_92 : decode cX5_findBegin 92 = .ok (.goto (-77), 3) := by decide +kernel
theorem dX5_findBegin_95 : decode cX5_findBegin 95 = .ok (.return_, 1) := by decide +kernel
set_option maxRecDepth 20000 in
theorem ggX5_begin_X5_noPair : GoodIn wsX5_begin wsX5_noPair := goodIn_r _ [8, 9, 10, 11, 7, 12, 13, 14, 15, 16, 17, 18, 19, 20, 21, 44, 45, 46, 47, 48, 49, 50, 51, 52, 53, 54, 55, 56, 57, 58, 59, 60, 61, 62, 63, 64, 65, 66, 67, 68, 69, 70, 71, 72, 73, 74, 75, 76, 77, 78, 79, 80] (by decide +kernel) (by decide +kernel)
set_option maxRecDepth 20000 in
theorem gX5_begin_X5_noPair : GoodIn wsX5_begin (wsV RX5 137 RX5 yX5_noPair wsX5_noPair) := goodIn_app (goodIn_of _ (by decide +kernel)) ggX5_begin_X5_noPair
set_option maxRecDepth 20000 in
theorem ggX5_begin_X5_in : GoodIn wsX5_begin wsX5_in := goodIn_r _ [16] (by decide +kernel) (by decide +kernel)
set_option maxRecDepth 20000 in
theorem gX5_begin_X5_in : GoodIn wsX5_begin (va_wsS RX5 69 yX5_in wsX5_in) := goodIn_app (goodIn_of _ (by decide +kernel)) ggX5_begin_X5_in
set_option maxRecDepth 20000 in
theorem ggX5_begin_X5_findBegin : GoodIn wsX5_begin wsX5_findBegin := goodIn_r _ [25, 2, 3, 26, 27, 28, 29, 30, 7, 31, 32, 33, 34, 35, 36, 37, 38, 39, 40, 41, 42, 43, 44, 45, 46, 47, 48, 49, 50, 51, 52, 53, 54, 55, 56, 57, 58, 59, 60, 61, 62, 63, 64, 65, 66, 67, 68, 69, 70, 71, 72, 73, 74, 75, 76, 77, 78, 79, 80] (by decide +kernel) (by decide +kernel)
set_option maxRecDepth 20000 in
theorem gX5_begin_X5_findBegin : GoodIn wsX5_begin (wsV RX5 168 RX5 yX5_findBegin wsX5_findBegin) := goodIn_app (goodIn_of _ (by decide +kernel)) ggX5_begin_X5_findBegin
theorem dX5_begin_0 : decode cX5_begin 0 = .ok (.aload_n 0, 1) := by decide +kernel
theorem dX5_begin_1 : decode cX5_begin 1 = .ok (.iconst 0, 1) := by decide +kernel
theorem dX5_begin_2 : decode cX5_begin 2 = .ok (.putfield 63, 3) := by decide +kernel
theorem dX5_begin_5 : decode cX5_begin 5 = .ok (.aload_n 0, 1) := by decide +kernel
theorem dX5_begin_6 : decode cX5_begin 6 = .ok (.iload_n 1, 1) := by decide +kernel
theorem dX5_begin_7 : decode cX5_begin 7 = .ok (.iload_n 2, 1) := by decide +kernel
theorem dX5_begin_8 : decode cX5_begin 8 = .ok (.iload_n 3, 1) := by decide +kernel
theorem dX5_begin_9 : decode cX5_begin 9 = .ok (.invokevirtual 137, 3) := by decide +kernel
theorem dX5_begin_12 : decode cX5_begin 12 = .ok (.istore 5, 2) := by decide +kernel
theorem dX5_begin_14 : decode cX5_begin 14 = .ok (.iload 5, 2) := by decide +kernel
theorem dX5_begin_16 : decode cX5_begin 16 = .ok (.ifCond .eq 6, 3) := by decide +kernel
theorem dX5_begin_19 : decode cX5_begin 19 = .ok (.iload 5, 2) := by decide +kernel
theorem dX5_begin_21 : decode cX5_begin 21 = .ok (.ireturn, 1) := by decide +kernel
theorem dX5_begin_22 : decode cX5_begin 22 = .ok (.iload 4, 2) := by decide +kernel
theorem dX5_begin_24 : decode cX5_begin 24 = .ok (.i2l, 1) := by decide +kernel
theorem dX5_begin_25 : decode cX5_begin 25 = .ok (.lconst 0, 1) := by decide +kernel
theorem dX5_begin_26 : decode cX5_begin 26 = .ok (.lconst 1, 1) := by decide +kernel
theorem dX5_begin_27 : decode cX5_begin 27 = .ok (.invokestatic 69, 3) := by decide +kernel
theorem dX5_begin_30 : decode cX5_begin 30 = .ok (.ifCond .ne 6, 3) := by decide +kernel
theorem dX5_begin_33 : decode cX5_begin 33 = .ok (.bipush (-2), 2) := by decide +kernel
theorem dX5_begin_35 : decode cX5_begin 35 = .ok (.ireturn, 1) := by decide +kernel
theorem dX5_begin_36 : decode cX5_begin 36 = .ok (.aload_n 0, 1) := by decide +kernel
theorem dX5_begin_37 : decode cX5_begin 37 = .ok (.iload_n 1, 1) := by decide +kernel
theorem dX5_begin_38 : decode cX5_begin 38 = .ok (.iload_n 2, 1) := by decide +kernel
theorem dX5_begin_39 : decode cX5_begin 39 = .ok (.iload_n 3, 1) := by decide +kernel
theorem dX5_begin_40 : decode cX5_begin 40 = .ok (.invokevirtual 168, 3) := by decide +kernel
theorem dX5_begin_43 : decode cX5_begin 43 = .ok (.iload 4, 2) := by decide +kernel
theorem dX5_begin_45 : decode cX5_begin 45 = .ok (.ifCond .ne 10, 3) := by decide +kernel
theorem dX5_begin_48 : decode cX5_begin 48 = .ok (.aload_n 0, 1) := by decide +kernel
theorem dX5_begin_49 : decode cX5_begin 49 = .ok (.getfield 162, 3) := by decide +kernel
theorem dX5_begin_52 : decode cX5_begin 52 = .ok (.goto 7, 3) := by decide +kernel
theorem dX5_begin_55 : decode cX5_begin 55 = .ok (.aload_n 0, 1) := by decide +kernel
theorem dX5_begin_56 : decode cX5_begin 56 = .ok (.getfield 165, 3) := by decide +kernel
theorem dX5_begin_59 : decode cX5_begin 59 = .ok (.ireturn, 1) := by decide +kernel
theorem dX5_power_0 : decode cX5_power 0 = .ok (.iconst 1, 1) := by decide +kernel
theorem dX5_power_1 : decode cX5_power 1 = .ok (.istore_n 2, 1) := by decide +kernel
theorem dX5_power_2 : decode cX5_power 2 = .ok (.iconst 0, 1) := by decide +kernel
theorem dX5_power_3 : decode cX5_power 3 = .ok (.istore_n 3, 1) := by decide +kernel
theorem dX5_power_4 : decode cX5_power 4 = .ok (.iload_n 3, 1) := by decide +kernel
theorem dX5_power_5 : decode cX5_power 5 = .ok (.iload_n 1, 1) := by decide +kernel
theorem dX5_power_6 : decode cX5_power 6 = .ok (.if_icmp .ge 13, 3) := by decide +kernel
theorem dX5_power_9 : decode cX5_power 9 = .ok (.iload_n 2, 1) := by decide +kernel
theorem dX5_power_10 : decode cX5_power 10 = .ok (.iload_n 0, 1) := by decide +kernel
theorem dX5_power_11 : decode cX5_power 11 = .ok (.imul, 1) := by decide +kernel
theorem dX5_power_12 : decode cX5_power 12 = .ok (.istore_n 2, 1) := by decide +kernel
theorem dX5_power_13 : decode cX5_power 13 = .ok (.iinc 3 1, 3) := by decide +kernel
theorem dX5_power_16 : decode cX5_power 16 = .ok (.goto (-12), 3) := by decide +kernel
theorem dX5_power_19 : decode cX5_power 19 = .ok (.iload_n 2, 1) := by decide +kernel
theorem dX5_power_20 : decode cX5_power 20 = .ok (.ireturn, 1) := by decide +kernel
theorem dX5_layPairs_0 : decode cX5_layPairs 0 = .ok (.aload_n 0, 1) := by decide +kernel
theorem dX5_layPairs_1 : decode cX5_layPairs 1 = .ok (.iconst 0, 1) := by decide +kernel
theorem dX5_layPairs_2 : decode cX5_layPairs 2 = .ok (.putfield 172, 3) := by decide +kernel
theorem dX5_layPairs_5 : decode cX5_layPairs 5 = .ok (.iconst 0, 1) := by decide +kernel
theorem dX5_layPairs_6 : decode cX5_layPairs 6 = .ok (.istore_n 1, 1) := by decide +kernel
theorem dX5_layPairs_7 : decode cX5_layPairs 7 = .ok (.iload_n 1, 1) := by decide +kernel
theorem dX5_layPairs_8 : decode cX5_layPairs 8 = .ok (.aload_n 0, 1) := by decide +kernel
theorem dX5_layPairs_9 : decode cX5_layPairs 9 = .ok (.getfield 66, 3) := by decide +kernel
theorem dX5_layPairs_12 : decode cX5_layPairs 12 = .ok (.if_icmp .ge 57, 3) := by decide +kernel
theorem dX5_layPairs_15 : decode cX5_layPairs 15 = .ok (.iload_n 1, 1) := by decide +kernel
theorem dX5_layPairs_16 : decode cX5_layPairs 16 = .ok (.iconst 1, 1) := by decide +kernel
theorem dX5_layPairs_17 : decode cX5_layPairs 17 = .ok (.iadd, 1) := by decide +kernel
theorem dX5_layPairs_18 : decode cX5_layPairs 18 = .ok (.istore_n 2, 1) := by decide +kernel
theorem dX5_layPairs_19 : decode cX5_layPairs 19 = .ok (.iload_n 2, 1) := by decide +kernel
theorem dX5_layPairs_20 : decode cX5_layPairs 20 = .ok (.aload_n 0, 1) := by decide +kernel
theorem dX5_layPairs_21 : decode cX5_layPairs 21 = .ok (.getfield 66, 3) := by decide +kernel
theorem dX5_layPairs_24 : decode cX5_layPairs 24 = .ok (.if_icmp .ge 39, 3) := by decide +kernel
theorem dX5_layPairs_27 : decode cX5_layPairs 27 = .ok (.aload_n 0, 1) := by decide +kernel
theorem dX5_layPairs_28 : decode cX5_layPairs 28 = .ok (.getfield 57, 3) := by decide +kernel
theorem dX5_layPairs_31 : decode cX5_layPairs 31 = .ok (.aload_n 0, 1) := by decide +kernel
theorem dX5_layPairs_32 : decode cX5_layPairs 32 = .ok (.getfield 172, 3) := by decide +kernel
theorem dX5_layPairs_35 : decode cX5_layPairs 35 = .ok (.iload_n 1, 1) := by decide +kernel
theorem dX5_layPairs_36 : decode cX5_layPairs 36 = .ok (.iastore, 1) := by decide +kernel
theorem dX5_layPairs_37 : decode cX5_layPairs 37 = .ok (.aload_n 0, 1) := by decide +kernel
theorem dX5_layPairs_38 : decode cX5_layPairs 38 = .ok (.getfield 60, 3) := by decide +kernel
theorem dX5_layPairs_41 : decode cX5_layPairs 41 = .ok (.aload_n 0, 1) := by decide +kernel
theorem dX5_layPairs_42 : decode cX5_layPairs 42 = .ok (.getfield 172, 3) := by decide +kernel
theorem dX5_layPairs_45 : decode cX5_layPairs 45 = .ok (.iload_n 2, 1) := by decide +kernel
theorem dX5_layPairs_46 : decode cX5_layPairs 46 = .ok (.iastore, 1) := by decide +kernel
theorem dX5_layPairs_47 : decode cX5_layPairs 47 = .ok (.aload_n 0, 1) := by decide +kernel
theorem dX5_layPairs_48 : decode cX5_layPairs 48 = .ok (.dup, 1) := by decide +kernel
theorem dX5_layPairs_49 : decode cX5_layPairs 49 = .ok (.getfield 172, 3) := by decide +kernel
theorem dX5_layPairs_52 : decode cX5_layPairs 52 = .ok (.iconst 1, 1) := by decide +kernel
theorem dX5_layPairs_53 : decode cX5_layPairs 53 = .ok (.iadd, 1) := by decide +kernel
theorem dX5_layPairs_54 : decode cX5_layPairs 54 = .ok (.putfield 172, 3) := by decide +kernel
theorem dX5_layPairs_57 : decode cX5_layPairs 57 = .ok (.iinc 2 1, 3) := by decide +kernel
theorem dX5_layPairs_60 : decode cX5_layPairs 60 = .ok (.goto (-41), 3) := by decide +kernel
theorem dX5_layPairs_63 : decode cX5_layPairs 63 = .ok (.iinc 1 1, 3) := by decide +kernel
theorem dX5_layPairs_66 : decode cX5_layPairs 66 = .ok (.goto (-59), 3) := by decide +kernel
theorem dX5_layPairs_69 : decode cX5_layPairs 69 = .ok (.return_, 1) := by decide +kernel
set_option maxRecDepth 20000 in
theorem ggX5_findSoonest_X5_layPairs : GoodIn wsX5_findSoonest wsX5_layPairs := goodIn_r _ [13, 3, 14, 7, 8, 48, 49, 50, 51, 52, 53, 54, 55, 56, 57, 58, 59, 60, 61, 62, 63, 64, 65, 66, 67, 68, 69, 70, 71, 72, 73, 74, 75, 76, 77, 78, 79, 80, 81, 82, 83, 84] (by decide +kernel) (by decide +kernel)
set_option maxRecDepth 20000 in
theorem gX5_findSoonest_X5_layPairs : GoodIn wsX5_findSoonest (wsV RX5 175 RX5 yX5_layPairs wsX5_layPairs) := goodIn_app (goodIn_of _ (by decide +kernel)) ggX5_findSoonest_X5_layPairs
set_option maxRecDepth 20000 in
theorem ggX5_findSoonest_X5_many : GoodIn wsX5_findSoonest wsX5_many := goodIn_r _ [17] (by decide +kernel) (by decide +kernel)
set_option maxRecDepth 20000 in
theorem gX5_findSoonest_X5_many : GoodIn wsX5_findSoonest (va_wsS RX5 178 yX5_many wsX5_many) := goodIn_app (goodIn_of _ (by decide +kernel)) ggX5_findSoonest_X5_many
set_option maxRecDepth 20000 in
theorem ggX5_findSoonest_X5_power : GoodIn wsX5_findSoonest wsX5_power := goodIn_r _ [20] (by decide +kernel) (by decide +kernel)
set_option maxRecDepth 20000 in
theorem gX5_findSoonest_X5_power : GoodIn wsX5_findSoonest (va_wsS RX5 187 yX5_power wsX5_power) := goodIn_app (goodIn_of _ (by decide +kernel)) ggX5_findSoonest_X5_power
set_option maxRecDepth 20000 in
theorem ggX5_findSoonest_X5_copy : GoodIn wsX5_findSoonest wsX5_copy := goodIn_r _ [23] (by decide +kernel) (by decide +kernel)
set_option maxRecDepth 20000 in
theorem gX5_findSoonest_X5_copy : GoodIn wsX5_findSoonest (va_wsS RX5 190 yX5_copy wsX5_copy) := goodIn_app (goodIn_of _ (by decide +kernel)) ggX5_findSoonest_X5_copy
set_option maxRecDepth 20000 in
theorem ggX5_findSoonest_X5_has : GoodIn wsX5_findSoonest wsX5_has := goodIn_r _ [26] (by decide +kernel) (by decide +kernel)
set_option maxRecDepth 20000 in
theorem gX5_findSoonest_X5_has : GoodIn wsX5_findSoonest (va_wsS RX5 141 yX5_has wsX5_has) := goodIn_app (goodIn_of _ (by decide +kernel)) ggX5_findSoonest_X5_has
set_option maxRecDepth 20000 in
theorem ggX5_findSoonest_X5_goLeg : GoodIn wsX5_findSoonest wsX5_goLeg := goodIn_r _ [30, 31, 32, 33, 34, 12, 35, 36, 37, 38, 39, 40, 41, 42, 43, 44, 45, 46, 47, 48, 49, 50, 51, 52, 53, 54, 55, 56, 57, 58, 59, 60, 61, 62, 63, 64, 65, 66, 67, 68, 69, 70, 71, 72, 73, 74, 75, 76, 77, 78, 79, 80, 81, 82, 83, 84] (by decide +kernel) (by decide +kernel)
set_option maxRecDepth 20000 in
theorem gX5_findSoonest_X5_goLeg : GoodIn wsX5_findSoonest (wsV RX5 148 RX5 yX5_goLeg wsX5_goLeg) := goodIn_app (goodIn_of _ (by decide +kernel)) ggX5_findSoonest_X5_goLeg
theorem dX5_findSoonest_0 : decode cX5_findSoonest 0 = .ok (.aload_n 0, 1) := by decide +kernel
theorem dX5_findSoonest_1 : decode cX5_findSoonest 1 = .ok (.invokevirtual 175, 3) := by decide +kernel
theorem dX5_findSoonest_4 : decode cX5_findSoonest 4 = .ok (.iconst 1, 1) := by decide +kernel
theorem dX5_findSoonest_5 : decode cX5_findSoonest 5 = .ok (.aload_n 0, 1) := by decide +kernel
theorem dX5_findSoonest_6 : decode cX5_findSoonest 6 = .ok (.getfield 73, 3) := by decide +kernel
theorem dX5_findSoonest_9 : decode cX5_findSoonest 9 = .ok (.ishl, 1) := by decide +kernel
theorem dX5_findSoonest_10 : decode cX5_findSoonest 10 = .ok (.iconst 1, 1) := by decide +kernel
theorem dX5_findSoonest_11 : decode cX5_findSoonest 11 = .ok (.isub, 1) := by decide +kernel
theorem dX5_findSoonest_12 : decode cX5_findSoonest 12 = .ok (.aload_n 0, 1) := by decide +kernel
theorem dX5_findSoonest_13 : decode cX5_findSoonest 13 = .ok (.getfield 35, 3) := by decide +kernel
theorem dX5_findSoonest_16 : decode cX5_findSoonest 16 = .ok (.bipush 20, 2) := by decide +kernel
theorem dX5_findSoonest_18 : decode cX5_findSoonest 18 = .ok (.iaload, 1) := by decide +kernel
theorem dX5_findSoonest_19 : decode cX5_findSoonest 19 = .ok (.iconst (-1), 1) := by decide +kernel
theorem dX5_findSoonest_20 : decode cX5_findSoonest 20 = .ok (.ixor, 1) := by decide +kernel
theorem dX5_findSoonest_21 : decode cX5_findSoonest 21 = .ok (.iand, 1) := by decide +kernel
theorem dX5_findSoonest_22 : decode cX5_findSoonest 22 = .ok (.istore_n 1, 1) := by decide +kernel
theorem dX5_findSoonest_23 : decode cX5_findSoonest 23 = .ok (.iload_n 1, 1) := by decide +kernel
theorem dX5_findSoonest_24 : decode cX5_findSoonest 24 = .ok (.invokestatic 178, 3) := by decide +kernel
theorem dX5_findSoonest_27 : decode cX5_findSoonest 27 = .ok (.istore_n 2, 1) := by decide +kernel
theorem dX5_findSoonest_28 : decode cX5_findSoonest 28 = .ok (.aload_n 0, 1) := by decide +kernel
theorem dX5_findSoonest_29 : decode cX5_findSoonest 29 = .ok (.getfield 73, 3) := by decide +kernel
theorem dX5_findSoonest_32 : decode cX5_findSoonest 32 = .ok (.aload_n 0, 1) := by decide +kernel
theorem dX5_findSoonest_33 : decode cX5_findSoonest 33 = .ok (.getfield 172, 3) := by decide +kernel
theorem dX5_findSoonest_36 : decode cX5_findSoonest 36 = .ok (.imul, 1) := by decide +kernel
theorem dX5_findSoonest_37 : decode cX5_findSoonest 37 = .ok (.istore_n 3, 1) := by decide +kernel
theorem dX5_findSoonest_38 : decode cX5_findSoonest 38 = .ok (.aload_n 0, 1) := by decide +kernel
theorem dX5_findSoonest_39 : decode cX5_findSoonest 39 = .ok (.iload_n 2, 1) := by decide +kernel
theorem dX5_findSoonest_40 : decode cX5_findSoonest 40 = .ok (.ifCond .ne 7, 3) := by decide +kernel
theorem dX5_findSoonest_43 : decode cX5_findSoonest 43 = .ok (.iconst 0, 1) := by decide +kernel
theorem dX5_findSoonest_44 : decode cX5_findSoonest 44 = .ok (.goto 5, 3) := by decide +kernel
theorem dX5_findSoonest_47 : decode cX5_findSoonest 47 = .ok (.bipush (-9), 2) := by decide +kernel
theorem dX5_findSoonest_49 : decode cX5_findSoonest 49 = .ok (.putfield 181, 3) := by decide +kernel
theorem dX5_findSoonest_52 : decode cX5_findSoonest 52 = .ok (.aload_n 0, 1) := by decide +kernel
theorem dX5_findSoonest_53 : decode cX5_findSoonest 53 = .ok (.iload_n 2, 1) := by decide +kernel
theorem dX5_findSoonest_54 : decode cX5_findSoonest 54 = .ok (.ifCond .ne 7, 3) := by decide +kernel
theorem dX5_findSoonest_57 : decode cX5_findSoonest 57 = .ok (.iconst 0, 1) := by decide +kernel
theorem dX5_findSoonest_58 : decode cX5_findSoonest 58 = .ok (.goto 5, 3) := by decide +kernel
theorem dX5_findSoonest_61 : decode cX5_findSoonest 61 = .ok (.bipush (-9), 2) := by decide +kernel
theorem dX5_findSoonest_63 : decode cX5_findSoonest 63 = .ok (.putfield 184, 3) := by decide +kernel
theorem dX5_findSoonest_66 : decode cX5_findSoonest 66 = .ok (.iconst 0, 1) := by decide +kernel
theorem dX5_findSoonest_67 : decode cX5_findSoonest 67 = .ok (.istore 4, 2) := by decide +kernel
theorem dX5_findSoonest_69 : decode cX5_findSoonest 69 = .ok (.iload 4, 2) := by decide +kernel
theorem dX5_findSoonest_71 : decode cX5_findSoonest 71 = .ok (.iload_n 3, 1) := by decide +kernel
theorem dX5_findSoonest_72 : decode cX5_findSoonest 72 = .ok (.iload_n 2, 1) := by decide +kernel
theorem dX5_findSoonest_73 : decode cX5_findSoonest 73 = .ok (.invokestatic 187, 3) := by decide +kernel
theorem dX5_findSoonest_76 : decode cX5_findSoonest 76 = .ok (.if_icmp .ge 218, 3) := by decide +kernel
theorem dX5_findSoonest_79 : decode cX5_findSoonest 79 = .ok (.iload_n 2, 1) := by decide +kernel
theorem dX5_findSoonest_80 : decode cX5_findSoonest 80 = .ok (.ifCond .le 214, 3) := by decide +kernel
theorem dX5_findSoonest_83 : decode cX5_findSoonest 83 = .ok (.aload_n 0, 1) := by decide +kernel
theorem dX5_findSoonest_84 : decode cX5_findSoonest 84 = .ok (.getfield 35, 3) := by decide +kernel
theorem dX5_findSoonest_87 : decode cX5_findSoonest 87 = .ok (.aload_n 0, 1) := by decide +kernel
theorem dX5_findSoonest_88 : decode cX5_findSoonest 88 = .ok (.getfield 32, 3) := by decide +kernel
theorem dX5_findSoonest_91 : decode cX5_findSoonest 91 = .ok (.invokestatic 190, 3) := by decide +kernel
theorem dX5_findSoonest_94 : decode cX5_findSoonest 94 = .ok (.iconst 0, 1) := by decide +kernel
theorem dX5_findSoonest_95 : decode cX5_findSoonest 95 = .ok (.istore 5, 2) := by decide +kernel
theorem dX5_findSoonest_97 : decode cX5_findSoonest 97 = .ok (.iconst 1, 1) := by decide +kernel
theorem dX5_findSoonest_98 : decode cX5_findSoonest 98 = .ok (.istore 6, 2) := by decide +kernel
theorem dX5_findSoonest_100 : decode cX5_findSoonest 100 = .ok (.iload_n 2, 1) := by decide +kernel
theorem dX5_findSoonest_101 : decode cX5_findSoonest 101 = .ok (.iconst 1, 1) := by decide +kernel
theorem dX5_findSoonest_102 : decode cX5_findSoonest 102 = .ok (.isub, 1) := by decide +kernel
theorem dX5_findSoonest_103 : decode cX5_findSoonest 103 = .ok (.istore 7, 2) := by decide +kernel
theorem dX5_findSoonest_105 : decode cX5_findSoonest 105 = .ok (.iload 7, 2) := by decide +kernel
theorem dX5_findSoonest_107 : decode cX5_findSoonest 107 = .ok (.ifCond .lt 129, 3) := by decide +kernel
theorem dX5_findSoonest_110 : decode cX5_findSoonest 110 = .ok (.iload 6, 2) := by decide +kernel
theorem dX5_findSoonest_112 : decode cX5_findSoonest 112 = .ok (.ifCond .eq 124, 3) := by decide +kernel
theorem dX5_findSoonest_115 : decode cX5_findSoonest 115 = .ok (.iload 4, 2) := by decide +kernel
theorem dX5_findSoonest_117 : decode cX5_findSoonest 117 = .ok (.iload_n 3, 1) := by decide +kernel
theorem dX5_findSoonest_118 : decode cX5_findSoonest 118 = .ok (.iload 7, 2) := by decide +kernel
theorem dX5_findSoonest_120 : decode cX5_findSoonest 120 = .ok (.invokestatic 187, 3) := by decide +kernel
theorem dX5_findSoonest_123 : decode cX5_findSoonest 123 = .ok (.idiv, 1) := by decide +kernel
theorem dX5_findSoonest_124 : decode cX5_findSoonest 124 = .ok (.iload_n 3, 1) := by decide +kernel
theorem dX5_findSoonest_125 : decode cX5_findSoonest 125 = .ok (.irem, 1) := by decide +kernel
theorem dX5_findSoonest_126 : decode cX5_findSoonest 126 = .ok (.istore 8, 2) := by decide +kernel
theorem dX5_findSoonest_128 : decode cX5_findSoonest 128 = .ok (.iload 8, 2) := by decide +kernel
theorem dX5_findSoonest_130 : decode cX5_findSoonest 130 = .ok (.aload_n 0, 1) := by decide +kernel
theorem dX5_findSoonest_131 : decode cX5_findSoonest 131 = .ok (.getfield 172, 3) := by decide +kernel
theorem dX5_findSoonest_134 : decode cX5_findSoonest 134 = .ok (.idiv, 1) := by decide +kernel
theorem dX5_findSoonest_135 : decode cX5_findSoonest 135 = .ok (.istore 9, 2) := by decide +kernel
theorem dX5_findSoonest_137 : decode cX5_findSoonest 137 = .ok (.iload 8, 2) := by decide +kernel
theorem dX5_findSoonest_139 : decode cX5_findSoonest 139 = .ok (.aload_n 0, 1) := by decide +kernel
theorem dX5_findSoonest_140 : decode cX5_findSoonest 140 = .ok (.getfield 172, 3) := by decide +kernel
theorem dX5_findSoonest_143 : decode cX5_findSoonest 143 = .ok (.irem, 1) := by decide +kernel
theorem dX5_findSoonest_144 : decode cX5_findSoonest 144 = .ok (.istore 10, 2) := by decide +kernel
theorem dX5_findSoonest_146 : decode cX5_findSoonest 146 = .ok (.aload_n 0, 1) := by decide +kernel
theorem dX5_findSoonest_147 : decode cX5_findSoonest 147 = .ok (.getfield 32, 3) := by decide +kernel
theorem dX5_findSoonest_150 : decode cX5_findSoonest 150 = .ok (.bipush 20, 2) := by decide +kernel
theorem dX5_findSoonest_152 : decode cX5_findSoonest 152 = .ok (.iaload, 1) := by decide +kernel
theorem dX5_findSoonest_153 : decode cX5_findSoonest 153 = .ok (.iload 9, 2) := by decide +kernel
theorem dX5_findSoonest_155 : decode cX5_findSoonest 155 = .ok (.invokestatic 141, 3) := by decide +kernel
theorem dX5_findSoonest_158 : decode cX5_findSoonest 158 = .ok (.ifCond .ne 7, 3) := by decide +kernel
theorem dX5_findSoonest_161 : decode cX5_findSoonest 161 = .ok (.iconst 1, 1) := by decide +kernel
theorem dX5_findSoonest_162 : decode cX5_findSoonest 162 = .ok (.goto 4, 3) := by decide +kernel
theorem dX5_findSoonest_165 : decode cX5_findSoonest 165 = .ok (.iconst 0, 1) := by decide +kernel
theorem dX5_findSoonest_166 : decode cX5_findSoonest 166 = .ok (.istore 6, 2) := by decide +kernel
theorem dX5_findSoonest_168 : decode cX5_findSoonest 168 = .ok (.sipush 1000, 3) := by decide +kernel
theorem dX5_findSoonest_171 : decode cX5_findSoonest 171 = .ok (.iload 5, 2) := by decide +kernel
theorem dX5_findSoonest_173 : decode cX5_findSoonest 173 = .ok (.imul, 1) := by decide +kernel
theorem dX5_findSoonest_174 : decode cX5_findSoonest 174 = .ok (.bipush 100, 2) := by decide +kernel
theorem dX5_findSoonest_176 : decode cX5_findSoonest 176 = .ok (.iload 9, 2) := by decide +kernel
theorem dX5_findSoonest_178 : decode cX5_findSoonest 178 = .ok (.imul, 1) := by decide +kernel
theorem dX5_findSoonest_179 : decode cX5_findSoonest 179 = .ok (.iadd, 1) := by decide +kernel
theorem dX5_findSoonest_180 : decode cX5_findSoonest 180 = .ok (.bipush 10, 2) := by decide +kernel
theorem dX5_findSoonest_182 : decode cX5_findSoonest 182 = .ok (.aload_n 0, 1) := by decide +kernel
theorem dX5_findSoonest_183 : decode cX5_findSoonest 183 = .ok (.getfield 57, 3) := by decide +kernel
theorem dX5_findSoonest_186 : decode cX5_findSoonest 186 = .ok (.iload 10, 2) := by decide +kernel
theorem dX5_findSoonest_188 : decode cX5_findSoonest 188 = .ok (.iaload, 1) := by decide +kernel
theorem dX5_findSoonest_189 : decode cX5_findSoonest 189 = .ok (.imul, 1) := by decide +kernel
theorem dX5_findSoonest_190 : decode cX5_findSoonest 190 = .ok (.iadd, 1) := by decide +kernel
theorem dX5_findSoonest_191 : decode cX5_findSoonest 191 = .ok (.aload_n 0, 1) := by decide +kernel
theorem dX5_findSoonest_192 : decode cX5_findSoonest 192 = .ok (.getfield 60, 3) := by decide +kernel
theorem dX5_findSoonest_195 : decode cX5_findSoonest 195 = .ok (.iload 10, 2) := by decide +kernel
theorem dX5_findSoonest_197 : decode cX5_findSoonest 197 = .ok (.iaload, 1) := by decide +kernel
theorem dX5_findSoonest_198 : decode cX5_findSoonest 198 = .ok (.iadd, 1) := by decide +kernel
theorem dX5_findSoonest_199 : decode cX5_findSoonest 199 = .ok (.istore 5, 2) := by decide +kernel
theorem dX5_findSoonest_201 : decode cX5_findSoonest 201 = .ok (.iload 6, 2) := by decide +kernel
theorem dX5_findSoonest_203 : decode cX5_findSoonest 203 = .ok (.ifCond .eq 27, 3) := by decide +kernel
theorem dX5_findSoonest_206 : decode cX5_findSoonest 206 = .ok (.aload_n 0, 1) := by decide +kernel
theorem dX5_findSoonest_207 : decode cX5_findSoonest 207 = .ok (.aload_n 0, 1) := by decide +kernel
theorem dX5_findSoonest_208 : decode cX5_findSoonest 208 = .ok (.getfield 32, 3) := by decide +kernel
theorem dX5_findSoonest_211 : decode cX5_findSoonest 211 = .ok (.iload 9, 2) := by decide +kernel
theorem dX5_findSoonest_213 : decode cX5_findSoonest 213 = .ok (.aload_n 0, 1) := by decide +kernel
theorem dX5_findSoonest_214 : decode cX5_findSoonest 214 = .ok (.getfield 57, 3) := by decide +kernel
theorem dX5_findSoonest_217 : decode cX5_findSoonest 217 = .ok (.iload 10, 2) := by decide +kernel
theorem dX5_findSoonest_219 : decode cX5_findSoonest 219 = .ok (.iaload, 1) := by decide +kernel
theorem dX5_findSoonest_220 : decode cX5_findSoonest 220 = .ok (.aload_n 0, 1) := by decide +kernel
theorem dX5_findSoonest_221 : decode cX5_findSoonest 221 = .ok (.getfield 60, 3) := by decide +kernel
theorem dX5_findSoonest_224 : decode cX5_findSoonest 224 = .ok (.iload 10, 2) := by decide +kernel
theorem dX5_findSoonest_226 : decode cX5_findSoonest 226 = .ok (.iaload, 1) := by decide +kernel
theorem dX5_findSoonest_227 : decode cX5_findSoonest 227 = .ok (.invokevirtual 148, 3) := by decide +kernel
theorem dX5_findSoonest_230 : decode cX5_findSoonest 230 = .ok (.iinc 7 (-1), 3) := by decide +kernel
theorem dX5_findSoonest_233 : decode cX5_findSoonest 233 = .ok (.goto (-128), 3) := by decide +kernel
theorem dX5_findSoonest_236 : decode cX5_findSoonest 236 = .ok (.aload_n 0, 1) := by decide +kernel
theorem dX5_findSoonest_237 : decode cX5_findSoonest 237 = .ok (.getfield 32, 3) := by decide +kernel
theorem dX5_findSoonest_240 : decode cX5_findSoonest 240 = .ok (.bipush 21, 2) := by decide +kernel
theorem dX5_findSoonest_242 : decode cX5_findSoonest 242 = .ok (.iaload, 1) := by decide +kernel
theorem dX5_findSoonest_243 : decode cX5_findSoonest 243 = .ok (.aload_n 0, 1) := by decide +kernel
theorem dX5_findSoonest_244 : decode cX5_findSoonest 244 = .ok (.getfield 35, 3) := by decide +kernel
theorem dX5_findSoonest_247 : decode cX5_findSoonest 247 = .ok (.bipush 21, 2) := by decide +kernel
theorem dX5_findSoonest_249 : decode cX5_findSoonest 249 = .ok (.iaload, 1) := by decide +kernel
theorem dX5_findSoonest_250 : decode cX5_findSoonest 250 = .ok (.isub, 1) := by decide +kernel
theorem dX5_findSoonest_251 : decode cX5_findSoonest 251 = .ok (.istore 7, 2) := by decide +kernel
theorem dX5_findSoonest_253 : decode cX5_findSoonest 253 = .ok (.iload 6, 2) := by decide +kernel
theorem dX5_findSoonest_255 : decode cX5_findSoonest 255 = .ok (.ifCond .eq 33, 3) := by decide +kernel
theorem dX5_findSoonest_258 : decode cX5_findSoonest 258 = .ok (.aload_n 0, 1) := by decide +kernel
theorem dX5_findSoonest_259 : decode cX5_findSoonest 259 = .ok (.getfield 181, 3) := by decide +kernel
theorem dX5_findSoonest_262 : decode cX5_findSoonest 262 = .ok (.bipush (-9), 2) := by decide +kernel
theorem dX5_findSoonest_264 : decode cX5_findSoonest 264 = .ok (.if_icmp .eq 12, 3) := by decide +kernel
theorem dX5_findSoonest_267 : decode cX5_findSoonest 267 = .ok (.iload 7, 2) := by decide +kernel
theorem dX5_findSoonest_269 : decode cX5_findSoonest 269 = .ok (.aload_n 0, 1) := by decide +kernel
theorem dX5_findSoonest_270 : decode cX5_findSoonest 270 = .ok (.getfield 181, 3) := by decide +kernel
theorem dX5_findSoonest_273 : decode cX5_findSoonest 273 = .ok (.if_icmp .ge 15, 3) := by decide +kernel
theorem dX5_findSoonest_276 : decode cX5_findSoonest 276 = .ok (.aload_n 0, 1) := by decide +kernel
theorem dX5_findSoonest_277 : decode cX5_findSoonest 277 = .ok (.iload 7, 2) := by decide +kernel
theorem dX5_findSoonest_279 : decode cX5_findSoonest 279 = .ok (.putfield 181, 3) := by decide +kernel
theorem dX5_findSoonest_282 : decode cX5_findSoonest 282 = .ok (.aload_n 0, 1) := by decide +kernel
theorem dX5_findSoonest_283 : decode cX5_findSoonest 283 = .ok (.iload 5, 2) := by decide +kernel
theorem dX5_findSoonest_285 : decode cX5_findSoonest 285 = .ok (.putfield 184, 3) := by decide +kernel
theorem dX5_findSoonest_288 : decode cX5_findSoonest 288 = .ok (.iinc 4 1, 3) := by decide +kernel
theorem dX5_findSoonest_291 : decode cX5_findSoonest 291 = .ok (.goto (-222), 3) := by decide +kernel
theorem dX5_findSoonest_294 : decode cX5_findSoonest 294 = .ok (.return_, 1) := by decide +kernel
set_option maxRecDepth 20000 in
theorem ggX5_soonest_X5_copy : GoodIn wsX5_soonest wsX5_copy := goodIn_r _ [9] (by decide +kernel) (by decide +kernel)
set_option maxRecDepth 20000 in
theorem gX5_soonest_X5_copy : GoodIn wsX5_soonest (va_wsS RX5 190 yX5_copy wsX5_copy) := goodIn_app (goodIn_of _ (by decide +kernel)) ggX5_soonest_X5_copy
set_option maxRecDepth 20000 in
theorem ggX5_soonest_X5_findSoonest : GoodIn wsX5_soonest wsX5_findSoonest := goodIn_r _ [13, 14, 3, 15, 5, 4, 16, 17, 18, 19, 20, 21, 8, 22, 23, 24, 25, 26, 27, 28, 29, 6, 7, 9, 30, 31, 32, 33, 34, 35, 36, 37, 38, 39, 40, 41, 42, 43, 44, 45, 46, 47, 48, 49, 50, 51, 52, 53, 54, 55, 56, 57, 58, 59, 60, 61, 62, 63, 64, 65, 66, 67, 68, 69, 70, 71, 72, 73, 74, 75, 76, 77, 78, 79, 80, 81, 82, 83, 84, 85, 86, 87, 88, 89, 90] (by decide +kernel) (by decide +kernel)
set_option maxRecDepth 20000 in
theorem gX5_soonest_X5_findSoonest : GoodIn wsX5_soonest (wsV RX5 194 RX5 yX5_findSoonest wsX5_findSoonest) := goodIn_app (goodIn_of _ (by decide +kernel)) ggX5_soonest_X5_findSoonest
theorem dX5_soonest_0 : decode cX5_soonest 0 = .ok (.aload_n 0, 1) := by decide +kernel
theorem dX5_soonest_1 : decode cX5_soonest 1 = .ok (.iconst 0, 1) := by decide +kernel
theorem dX5_soonest_2 : decode cX5_soonest 2 = .ok (.putfield 63, 3) := by decide +kernel
theorem dX5_soonest_5 : decode cX5_soonest 5 = .ok (.aload_n 0, 1) := by decide +kernel
theorem dX5_soonest_6 : decode cX5_soonest 6 = .ok (.getfield 29, 3) := by decide +kernel
theorem dX5_soonest_9 : decode cX5_soonest 9 = .ok (.aload_n 0, 1) := by decide +kernel
theorem dX5_soonest_10 : decode cX5_soonest 10 = .ok (.getfield 35, 3) := by decide +kernel
theorem dX5_soonest_13 : decode cX5_soonest 13 = .ok (.invokestatic 190, 3) := by decide +kernel
theorem dX5_soonest_16 : decode cX5_soonest 16 = .ok (.aload_n 0, 1) := by decide +kernel
theorem dX5_soonest_17 : decode cX5_soonest 17 = .ok (.invokevirtual 194, 3) := by decide +kernel
theorem dX5_soonest_20 : decode cX5_soonest 20 = .ok (.iload_n 1, 1) := by decide +kernel
theorem dX5_soonest_21 : decode cX5_soonest 21 = .ok (.ifCond .eq 10, 3) := by decide +kernel
theorem dX5_soonest_24 : decode cX5_soonest 24 = .ok (.aload_n 0, 1) := by decide +kernel
theorem dX5_soonest_25 : decode cX5_soonest 25 = .ok (.getfield 184, 3) := by decide +kernel
theorem dX5_soonest_28 : decode cX5_soonest 28 = .ok (.goto 7, 3) := by decide +kernel
theorem dX5_soonest_31 : decode cX5_soonest 31 = .ok (.aload_n 0, 1) := by decide +kernel
theorem dX5_soonest_32 : decode cX5_soonest 32 = .ok (.getfield 181, 3) := by decide +kernel
theorem dX5_soonest_35 : decode cX5_soonest 35 = .ok (.ireturn, 1) := by decide +kernel
set_option maxRecDepth 20000 in
theorem ggX5_judge_X5_in : GoodIn wsX5_judge wsX5_in := goodIn_r _ [7] (by decide +kernel) (by decide +kernel)
set_option maxRecDepth 20000 in
theorem gX5_judge_X5_in : GoodIn wsX5_judge (va_wsS RX5 69 yX5_in wsX5_in) := goodIn_app (goodIn_of _ (by decide +kernel)) ggX5_judge_X5_in
set_option maxRecDepth 20000 in
theorem ggX5_judge_X5_power : GoodIn wsX5_judge wsX5_power := goodIn_r _ [10] (by decide +kernel) (by decide +kernel)
set_option maxRecDepth 20000 in
theorem gX5_judge_X5_power : GoodIn wsX5_judge (va_wsS RX5 187 yX5_power wsX5_power) := goodIn_app (goodIn_of _ (by decide +kernel)) ggX5_judge_X5_power
set_option maxRecDepth 20000 in
theorem ggX5_judge_X5_noPair : GoodIn wsX5_judge wsX5_noPair := goodIn_r _ [14, 15, 16, 17, 6, 18, 19, 4, 5, 7, 20, 21, 22, 23, 24, 28, 29, 30, 31, 32, 33, 34, 35, 36, 37, 38, 39, 40, 41, 42, 43, 44, 45, 46, 47, 48, 49, 50, 51, 52, 53, 54, 55, 56, 57, 58, 59, 60, 61, 62, 63, 64] (by decide +kernel) (by decide +kernel)
set_option maxRecDepth 20000 in
theorem gX5_judge_X5_noPair : GoodIn wsX5_judge (wsV RX5 137 RX5 yX5_noPair wsX5_noPair) := goodIn_app (goodIn_of _ (by decide +kernel)) ggX5_judge_X5_noPair
set_option maxRecDepth 20000 in
theorem ggX5_judge_X5_has : GoodIn wsX5_judge wsX5_has := goodIn_r _ [27] (by decide +kernel) (by decide +kernel)
set_option maxRecDepth 20000 in
theorem gX5_judge_X5_has : GoodIn wsX5_judge (va_wsS RX5 141 yX5_has wsX5_has) := goodIn_app (goodIn_of _ (by decide +kernel)) ggX5_judge_X5_has
theorem dX5_judge_0 : decode cX5_judge 0 = .ok (.aload_n 0, 1) := by decide +kernel
theorem dX5_judge_1 : decode cX5_judge 1 = .ok (.iconst 0, 1) := by decide +kernel
theorem dX5_judge_2 : decode cX5_judge 2 = .ok (.putfield 63, 3) := by decide +kernel
theorem dX5_judge_5 : decode cX5_judge 5 = .ok (.iload_n 1, 1) := by decide +kernel
theorem dX5_judge_6 : decode cX5_judge 6 = .ok (.i2l, 1) := by decide +kernel
theorem dX5_judge_7 : decode cX5_judge 7 = .ok (.lconst 1, 1) := by decide +kernel
theorem dX5_judge_8 : decode cX5_judge 8 = .ok (.ldc2_w 128, 3) := by decide +kernel
theorem dX5_judge_11 : decode cX5_judge 11 = .ok (.invokestatic 69, 3) := by decide +kernel
theorem dX5_judge_14 : decode cX5_judge 14 = .ok (.ifCond .eq 22, 3) := by decide +kernel
theorem dX5_judge_17 : decode cX5_judge 17 = .ok (.iload_n 2, 1) := by decide +kernel
theorem dX5_judge_18 : decode cX5_judge 18 = .ok (.i2l, 1) := by decide +kernel
theorem dX5_judge_19 : decode cX5_judge 19 = .ok (.lconst 0, 1) := by decide +kernel
theorem dX5_judge_20 : decode cX5_judge 20 = .ok (.sipush 1000, 3) := by decide +kernel
theorem dX5_judge_23 : decode cX5_judge 23 = .ok (.iload_n 1, 1) := by decide +kernel
theorem dX5_judge_24 : decode cX5_judge 24 = .ok (.invokestatic 187, 3) := by decide +kernel
theorem dX5_judge_27 : decode cX5_judge 27 = .ok (.iconst 1, 1) := by decide +kernel
theorem dX5_judge_28 : decode cX5_judge 28 = .ok (.isub, 1) := by decide +kernel
theorem dX5_judge_29 : decode cX5_judge 29 = .ok (.i2l, 1) := by decide +kernel
theorem dX5_judge_30 : decode cX5_judge 30 = .ok (.invokestatic 69, 3) := by decide +kernel
theorem dX5_judge_33 : decode cX5_judge 33 = .ok (.ifCond .ne 6, 3) := by decide +kernel
theorem dX5_judge_36 : decode cX5_judge 36 = .ok (.bipush (-2), 2) := by decide +kernel
theorem dX5_judge_38 : decode cX5_judge 38 = .ok (.ireturn, 1) := by decide +kernel
theorem dX5_judge_39 : decode cX5_judge 39 = .ok (.aload_n 0, 1) := by decide +kernel
theorem dX5_judge_40 : decode cX5_judge 40 = .ok (.getfield 29, 3) := by decide +kernel
theorem dX5_judge_43 : decode cX5_judge 43 = .ok (.bipush 20, 2) := by decide +kernel
theorem dX5_judge_45 : decode cX5_judge 45 = .ok (.iaload, 1) := by decide +kernel
theorem dX5_judge_46 : decode cX5_judge 46 = .ok (.istore_n 3, 1) := by decide +kernel
theorem dX5_judge_47 : decode cX5_judge 47 = .ok (.iconst 0, 1) := by decide +kernel
theorem dX5_judge_48 : decode cX5_judge 48 = .ok (.istore 4, 2) := by decide +kernel
theorem dX5_judge_50 : decode cX5_judge 50 = .ok (.iload 4, 2) := by decide +kernel
theorem dX5_judge_52 : decode cX5_judge 52 = .ok (.iload_n 1, 1) := by decide +kernel
theorem dX5_judge_53 : decode cX5_judge 53 = .ok (.if_icmp .ge 77, 3) := by decide +kernel
theorem dX5_judge_56 : decode cX5_judge 56 = .ok (.iload_n 2, 1) := by decide +kernel
theorem dX5_judge_57 : decode cX5_judge 57 = .ok (.sipush 1000, 3) := by decide +kernel
theorem dX5_judge_60 : decode cX5_judge 60 = .ok (.iload_n 1, 1) := by decide +kernel
theorem dX5_judge_61 : decode cX5_judge 61 = .ok (.iconst 1, 1) := by decide +kernel
theorem dX5_judge_62 : decode cX5_judge 62 = .ok (.isub, 1) := by decide +kernel
theorem dX5_judge_63 : decode cX5_judge 63 = .ok (.iload 4, 2) := by decide +kernel
theorem dX5_judge_65 : decode cX5_judge 65 = .ok (.isub, 1) := by decide +kernel
theorem dX5_judge_66 : decode cX5_judge 66 = .ok (.invokestatic 187, 3) := by decide +kernel
theorem dX5_judge_69 : decode cX5_judge 69 = .ok (.idiv, 1) := by decide +kernel
theorem dX5_judge_70 : decode cX5_judge 70 = .ok (.sipush 1000, 3) := by decide +kernel
theorem dX5_judge_73 : decode cX5_judge 73 = .ok (.irem, 1) := by decide +kernel
theorem dX5_judge_74 : decode cX5_judge 74 = .ok (.istore 5, 2) := by decide +kernel
theorem dX5_judge_76 : decode cX5_judge 76 = .ok (.iload 5, 2) := by decide +kernel
theorem dX5_judge_78 : decode cX5_judge 78 = .ok (.bipush 100, 2) := by decide +kernel
theorem dX5_judge_80 : decode cX5_judge 80 = .ok (.idiv, 1) := by decide +kernel
theorem dX5_judge_81 : decode cX5_judge 81 = .ok (.istore 6, 2) := by decide +kernel
theorem dX5_judge_83 : decode cX5_judge 83 = .ok (.aload_n 0, 1) := by decide +kernel
theorem dX5_judge_84 : decode cX5_judge 84 = .ok (.iload 6, 2) := by decide +kernel
theorem dX5_judge_86 : decode cX5_judge 86 = .ok (.iload 5, 2) := by decide +kernel
theorem dX5_judge_88 : decode cX5_judge 88 = .ok (.bipush 10, 2) := by decide +kernel
theorem dX5_judge_90 : decode cX5_judge 90 = .ok (.idiv, 1) := by decide +kernel
theorem dX5_judge_91 : decode cX5_judge 91 = .ok (.bipush 10, 2) := by decide +kernel
theorem dX5_judge_93 : decode cX5_judge 93 = .ok (.irem, 1) := by decide +kernel
theorem dX5_judge_94 : decode cX5_judge 94 = .ok (.iload 5, 2) := by decide +kernel
theorem dX5_judge_96 : decode cX5_judge 96 = .ok (.bipush 10, 2) := by decide +kernel
theorem dX5_judge_98 : decode cX5_judge 98 = .ok (.irem, 1) := by decide +kernel
theorem dX5_judge_99 : decode cX5_judge 99 = .ok (.invokevirtual 137, 3) := by decide +kernel
theorem dX5_judge_102 : decode cX5_judge 102 = .ok (.ifCond .ne 12, 3) := by decide +kernel
theorem dX5_judge_105 : decode cX5_judge 105 = .ok (.iload_n 3, 1) := by decide +kernel
theorem dX5_judge_106 : decode cX5_judge 106 = .ok (.iload 6, 2) := by decide +kernel
theorem dX5_judge_108 : decode cX5_judge 108 = .ok (.invokestatic 141, 3) := by decide +kernel
theorem dX5_judge_111 : decode cX5_judge 111 = .ok (.ifCond .eq 6, 3) := by decide +kernel
theorem dX5_judge_114 : decode cX5_judge 114 = .ok (.iload 4, 2) := by decide +kernel
theorem dX5_judge_116 : decode cX5_judge 116 = .ok (.ireturn, 1) := by decide +kernel
theorem dX5_judge_117 : decode cX5_judge 117 = .ok (.iload_n 3, 1) := by decide +kernel
theorem dX5_judge_118 : decode cX5_judge 118 = .ok (.iconst 1, 1) := by decide +kernel
theorem dX5_judge_119 : decode cX5_judge 119 = .ok (.iload 6, 2) := by decide +kernel
theorem dX5_judge_121 : decode cX5_judge 121 = .ok (.ishl, 1) := by decide +kernel
theorem dX5_judge_122 : decode cX5_judge 122 = .ok (.ior, 1) := by decide +kernel
theorem dX5_judge_123 : decode cX5_judge 123 = .ok (.istore_n 3, 1) := by decide +kernel
theorem dX5_judge_124 : decode cX5_judge 124 = .ok (.iinc 4 1, 3) := by decide +kernel
theorem dX5_judge_127 : decode cX5_judge 127 = .ok (.goto (-77), 3) := by decide +kernel
theorem dX5_judge_130 : decode cX5_judge 130 = .ok (.bipush (-9), 2) := by decide +kernel
theorem dX5_judge_132 : decode cX5_judge 132 = .ok (.ireturn, 1) := by decide +kernel
theorem dX5_ways_0 : decode cX5_ways 0 = .ok (.iconst 1, 1) := by decide +kernel
theorem dX5_ways_1 : decode cX5_ways 1 = .ok (.istore_n 1, 1) := by decide +kernel
theorem dX5_ways_2 : decode cX5_ways 2 = .ok (.iconst 2, 1) := by decide +kernel
theorem dX5_ways_3 : decode cX5_ways 3 = .ok (.istore_n 2, 1) := by decide +kernel
theorem dX5_ways_4 : decode cX5_ways 4 = .ok (.iload_n 2, 1) := by decide +kernel
theorem dX5_ways_5 : decode cX5_ways 5 = .ok (.iload_n 0, 1) := by decide +kernel
theorem dX5_ways_6 : decode cX5_ways 6 = .ok (.if_icmp .gt 13, 3) := by decide +kernel
theorem dX5_ways_9 : decode cX5_ways 9 = .ok (.iload_n 1, 1) := by decide +kernel
theorem dX5_ways_10 : decode cX5_ways 10 = .ok (.iload_n 2, 1) := by decide +kernel
theorem dX5_ways_11 : decode cX5_ways 11 = .ok (.imul, 1) := by decide +kernel
theorem dX5_ways_12 : decode cX5_ways 12 = .ok (.istore_n 1, 1) := by decide +kernel
theorem dX5_ways_13 : decode cX5_ways 13 = .ok (.iinc 2 1, 3) := by decide +kernel
theorem dX5_ways_16 : decode cX5_ways 16 = .ok (.goto (-12), 3) := by decide +kernel
theorem dX5_ways_19 : decode cX5_ways 19 = .ok (.iload_n 1, 1) := by decide +kernel
theorem dX5_ways_20 : decode cX5_ways 20 = .ok (.ireturn, 1) := by decide +kernel
theorem dX5_divisor_0 : decode cX5_divisor 0 = .ok (.iload_n 0, 1) := by decide +kernel
theorem dX5_divisor_1 : decode cX5_divisor 1 = .ok (.ifCond .ge 8, 3) := by decide +kernel
theorem dX5_divisor_4 : decode cX5_divisor 4 = .ok (.iload_n 0, 1) := by decide +kernel
theorem dX5_divisor_5 : decode cX5_divisor 5 = .ok (.ineg, 1) := by decide +kernel
theorem dX5_divisor_6 : decode cX5_divisor 6 = .ok (.goto 4, 3) := by decide +kernel
theorem dX5_divisor_9 : decode cX5_divisor 9 = .ok (.iload_n 0, 1) := by decide +kernel
theorem dX5_divisor_10 : decode cX5_divisor 10 = .ok (.istore_n 2, 1) := by decide +kernel
theorem dX5_divisor_11 : decode cX5_divisor 11 = .ok (.iload_n 1, 1) := by decide +kernel
theorem dX5_divisor_12 : decode cX5_divisor 12 = .ok (.istore_n 3, 1) := by decide +kernel
theorem dX5_divisor_13 : decode cX5_divisor 13 = .ok (.iload_n 3, 1) := by decide +kernel
theorem dX5_divisor_14 : decode cX5_divisor 14 = .ok (.ifCond .eq 16, 3) := by decide +kernel
theorem dX5_divisor_17 : decode cX5_divisor 17 = .ok (.iload_n 2, 1) := by decide +kernel
theorem dX5_divisor_18 : decode cX5_divisor 18 = .ok (.iload_n 3, 1) := by decide +kernel
theorem dX5_divisor_19 : decode cX5_divisor 19 = .ok (.irem, 1) := by decide +kernel
theorem dX5_divisor_20 : decode cX5_divisor 20 = .ok (.istore 4, 2) := by decide +kernel
theorem dX5_divisor_22 : decode cX5_divisor 22 = .ok (.iload_n 3, 1) := by decide +kernel
end
section
theorem dX5_divisor_23 : decode cX5_divisor 23 = .ok (.istore_n 2, 1) := by decide +kernel
theorem dX5_divisor_24 : decode cX5_divisor 24 = .ok (.iload 4, 2) := by decide +kernel
theorem dX5_divisor_26 : decode cX5_divisor 26 = .ok (.istore_n 3, 1) := by decide +kernel
theorem dX5_divisor_27 : decode cX5_divisor 27 = .ok (.goto (-14), 3) := by decide +kernel
theorem dX5_divisor_30 : decode cX5_divisor 30 = .ok (.iload_n 2, 1) := by decide +kernel
theorem dX5_divisor_31 : decode cX5_divisor 31 = .ok (.ireturn, 1) := by decide +kernel
set_option maxRecDepth 20000 in
theorem ggX5_fraction_X5_divisor : GoodIn wsX5_fraction wsX5_divisor := goodIn_r _ [4] (by decide +kernel) (by decide +kernel)
set_option maxRecDepth 20000 in
theorem gX5_fraction_X5_divisor : GoodIn wsX5_fraction (va_wsS RX5 197 yX5_divisor wsX5_divisor) := goodIn_app (goodIn_of _ (by decide +kernel)) ggX5_fraction_X5_divisor
theorem dX5_fraction_0 : decode cX5_fraction 0 = .ok (.iload_n 0, 1) := by decide +kernel
theorem dX5_fraction_1 : decode cX5_fraction 1 = .ok (.iload_n 1, 1) := by decide +kernel
theorem dX5_fraction_2 : decode cX5_fraction 2 = .ok (.invokestatic 197, 3) := by decide +kernel
theorem dX5_fraction_5 : decode cX5_fraction 5 = .ok (.istore_n 3, 1) := by decide +kernel
theorem dX5_fraction_6 : decode cX5_fraction 6 = .ok (.iload_n 2, 1) := by decide +kernel
theorem dX5_fraction_7 : decode cX5_fraction 7 = .ok (.ifCond .eq 9, 3) := by decide +kernel
theorem dX5_fraction_10 : decode cX5_fraction 10 = .ok (.iload_n 0, 1) := by decide +kernel
theorem dX5_fraction_11 : decode cX5_fraction 11 = .ok (.iload_n 3, 1) := by decide +kernel
theorem dX5_fraction_12 : decode cX5_fraction 12 = .ok (.idiv, 1) := by decide +kernel
theorem dX5_fraction_13 : decode cX5_fraction 13 = .ok (.goto 6, 3) := by decide +kernel
theorem dX5_fraction_16 : decode cX5_fraction 16 = .ok (.iload_n 1, 1) := by decide +kernel
theorem dX5_fraction_17 : decode cX5_fraction 17 = .ok (.iload_n 3, 1) := by decide +kernel
theorem dX5_fraction_18 : decode cX5_fraction 18 = .ok (.idiv, 1) := by decide +kernel
theorem dX5_fraction_19 : decode cX5_fraction 19 = .ok (.ireturn, 1) := by decide +kernel
set_option maxRecDepth 20000 in
theorem ggX5_share_X5_noLegger : GoodIn wsX5_share wsX5_noLegger := goodIn_r _ [10, 2, 11, 12, 9, 13, 56, 57, 58, 59, 60, 61, 62, 63, 64, 65, 66, 67, 68, 69, 70, 71, 72, 73, 74, 75, 76, 77, 78, 79, 80, 81, 82, 83, 84, 85, 86, 87, 88, 89, 90, 91, 92] (by decide +kernel) (by decide +kernel)
set_option maxRecDepth 20000 in
theorem gX5_share_X5_noLegger : GoodIn wsX5_share (wsV RX5 124 RX5 yX5_noLegger wsX5_noLegger) := goodIn_app (goodIn_of _ (by decide +kernel)) ggX5_share_X5_noLegger
set_option maxRecDepth 20000 in
theorem ggX5_share_X5_noBoat : GoodIn wsX5_share wsX5_noBoat := goodIn_r _ [17, 18, 11, 12, 9, 13, 56, 57, 58, 59, 60, 61, 62, 63, 64, 65, 66, 67, 68, 69, 70, 71, 72, 73, 74, 75, 76, 77, 78, 79, 80, 81, 82, 83, 84, 85, 86, 87, 88, 89, 90, 91, 92] (by decide +kernel) (by decide +kernel)
set_option maxRecDepth 20000 in
theorem gX5_share_X5_noBoat : GoodIn wsX5_share (wsV RX5 130 RX5 yX5_noBoat wsX5_noBoat) := goodIn_app (goodIn_of _ (by decide +kernel)) ggX5_share_X5_noBoat
set_option maxRecDepth 20000 in
theorem ggX5_share_X5_findBest : GoodIn wsX5_share wsX5_findBest := goodIn_r _ [22, 4, 5, 2, 23, 24, 25, 26, 27, 9, 28, 29, 30, 31, 32, 33, 34, 35, 36, 37, 38, 39, 40, 41, 42, 43, 56, 57, 58, 59, 60, 61, 62, 63, 64, 65, 66, 67, 68, 69, 70, 71, 72, 73, 74, 75, 76, 77, 78, 79, 80, 81, 82, 83, 84, 85, 86, 87, 88, 89, 90, 91, 92] (by decide +kernel) (by decide +kernel)
set_option maxRecDepth 20000 in
theorem gX5_share_X5_findBest : GoodIn wsX5_share (wsV RX5 158 RX5 yX5_findBest wsX5_findBest) := goodIn_app (goodIn_of _ (by decide +kernel)) ggX5_share_X5_findBest
set_option maxRecDepth 20000 in
theorem ggX5_share_X5_has : GoodIn wsX5_share wsX5_has := goodIn_r _ [43] (by decide +kernel) (by decide +kernel)
set_option maxRecDepth 20000 in
theorem gX5_share_X5_has : GoodIn wsX5_share (va_wsS RX5 141 yX5_has wsX5_has) := goodIn_app (goodIn_of _ (by decide +kernel)) ggX5_share_X5_has
set_option maxRecDepth 20000 in
theorem ggX5_share_X5_many : GoodIn wsX5_share wsX5_many := goodIn_r _ [46] (by decide +kernel) (by decide +kernel)
set_option maxRecDepth 20000 in
theorem gX5_share_X5_many : GoodIn wsX5_share (va_wsS RX5 178 yX5_many wsX5_many) := goodIn_app (goodIn_of _ (by decide +kernel)) ggX5_share_X5_many
set_option maxRecDepth 20000 in
theorem ggX5_share_X5_ways : GoodIn wsX5_share wsX5_ways := goodIn_r _ [49] (by decide +kernel) (by decide +kernel)
set_option maxRecDepth 20000 in
theorem gX5_share_X5_ways : GoodIn wsX5_share (va_wsS RX5 200 yX5_ways wsX5_ways) := goodIn_app (goodIn_of _ (by decide +kernel)) ggX5_share_X5_ways
set_option maxRecDepth 20000 in
theorem ggX5_share_X5_fraction : GoodIn wsX5_share wsX5_fraction := goodIn_r _ [52, 53, 54, 9, 55] (by decide +kernel) (by decide +kernel)
set_option maxRecDepth 20000 in
theorem gX5_share_X5_fraction : GoodIn wsX5_share (va_wsS RX5 203 yX5_fraction wsX5_fraction) := goodIn_app (goodIn_of _ (by decide +kernel)) ggX5_share_X5_fraction
theorem dX5_share_0 : decode cX5_share 0 = .ok (.aload_n 0, 1) := by decide +kernel
theorem dX5_share_1 : decode cX5_share 1 = .ok (.iconst 0, 1) := by decide +kernel
theorem dX5_share_2 : decode cX5_share 2 = .ok (.putfield 63, 3) := by decide +kernel
theorem dX5_share_5 : decode cX5_share 5 = .ok (.aload_n 0, 1) := by decide +kernel
theorem dX5_share_6 : decode cX5_share 6 = .ok (.iload_n 1, 1) := by decide +kernel
theorem dX5_share_7 : decode cX5_share 7 = .ok (.invokevirtual 124, 3) := by decide +kernel
theorem dX5_share_10 : decode cX5_share 10 = .ok (.ifCond .ne 11, 3) := by decide +kernel
theorem dX5_share_13 : decode cX5_share 13 = .ok (.aload_n 0, 1) := by decide +kernel
theorem dX5_share_14 : decode cX5_share 14 = .ok (.iload_n 2, 1) := by decide +kernel
theorem dX5_share_15 : decode cX5_share 15 = .ok (.invokevirtual 130, 3) := by decide +kernel
theorem dX5_share_18 : decode cX5_share 18 = .ok (.ifCond .eq 5, 3) := by decide +kernel
theorem dX5_share_21 : decode cX5_share 21 = .ok (.iconst (-1), 1) := by decide +kernel
theorem dX5_share_22 : decode cX5_share 22 = .ok (.ireturn, 1) := by decide +kernel
theorem dX5_share_23 : decode cX5_share 23 = .ok (.iconst 0, 1) := by decide +kernel
theorem dX5_share_24 : decode cX5_share 24 = .ok (.istore 4, 2) := by decide +kernel
theorem dX5_share_26 : decode cX5_share 26 = .ok (.iload 4, 2) := by decide +kernel
theorem dX5_share_28 : decode cX5_share 28 = .ok (.iconst 1, 1) := by decide +kernel
theorem dX5_share_29 : decode cX5_share 29 = .ok (.aload_n 0, 1) := by decide +kernel
theorem dX5_share_30 : decode cX5_share 30 = .ok (.getfield 66, 3) := by decide +kernel
theorem dX5_share_33 : decode cX5_share 33 = .ok (.ishl, 1) := by decide +kernel
theorem dX5_share_34 : decode cX5_share 34 = .ok (.if_icmp .ge 44, 3) := by decide +kernel
theorem dX5_share_37 : decode cX5_share 37 = .ok (.aload_n 0, 1) := by decide +kernel
theorem dX5_share_38 : decode cX5_share 38 = .ok (.iload_n 2, 1) := by decide +kernel
theorem dX5_share_39 : decode cX5_share 39 = .ok (.iload 4, 2) := by decide +kernel
theorem dX5_share_41 : decode cX5_share 41 = .ok (.invokevirtual 158, 3) := by decide +kernel
theorem dX5_share_44 : decode cX5_share 44 = .ok (.aload_n 0, 1) := by decide +kernel
theorem dX5_share_45 : decode cX5_share 45 = .ok (.getfield 54, 3) := by decide +kernel
theorem dX5_share_48 : decode cX5_share 48 = .ok (.iload 4, 2) := by decide +kernel
theorem dX5_share_50 : decode cX5_share 50 = .ok (.aload_n 0, 1) := by decide +kernel
theorem dX5_share_51 : decode cX5_share 51 = .ok (.getfield 152, 3) := by decide +kernel
theorem dX5_share_54 : decode cX5_share 54 = .ok (.bipush (-9), 2) := by decide +kernel
theorem dX5_share_56 : decode cX5_share 56 = .ok (.if_icmp .ne 7, 3) := by decide +kernel
theorem dX5_share_59 : decode cX5_share 59 = .ok (.iconst 0, 1) := by decide +kernel
theorem dX5_share_60 : decode cX5_share 60 = .ok (.goto 11, 3) := by decide +kernel
theorem dX5_share_63 : decode cX5_share 63 = .ok (.sipush 200, 3) := by decide +kernel
theorem dX5_share_66 : decode cX5_share 66 = .ok (.aload_n 0, 1) := by decide +kernel
theorem dX5_share_67 : decode cX5_share 67 = .ok (.getfield 155, 3) := by decide +kernel
theorem dX5_share_70 : decode cX5_share 70 = .ok (.isub, 1) := by decide +kernel
theorem dX5_share_71 : decode cX5_share 71 = .ok (.iastore, 1) := by decide +kernel
theorem dX5_share_72 : decode cX5_share 72 = .ok (.iinc 4 1, 3) := by decide +kernel
theorem dX5_share_75 : decode cX5_share 75 = .ok (.goto (-49), 3) := by decide +kernel
theorem dX5_share_78 : decode cX5_share 78 = .ok (.iconst 0, 1) := by decide +kernel
theorem dX5_share_79 : decode cX5_share 79 = .ok (.istore 4, 2) := by decide +kernel
theorem dX5_share_81 : decode cX5_share 81 = .ok (.iconst 0, 1) := by decide +kernel
theorem dX5_share_82 : decode cX5_share 82 = .ok (.istore 5, 2) := by decide +kernel
theorem dX5_share_84 : decode cX5_share 84 = .ok (.iload 5, 2) := by decide +kernel
theorem dX5_share_86 : decode cX5_share 86 = .ok (.iconst 1, 1) := by decide +kernel
theorem dX5_share_87 : decode cX5_share 87 = .ok (.aload_n 0, 1) := by decide +kernel
theorem dX5_share_88 : decode cX5_share 88 = .ok (.getfield 66, 3) := by decide +kernel
theorem dX5_share_91 : decode cX5_share 91 = .ok (.ishl, 1) := by decide +kernel
theorem dX5_share_92 : decode cX5_share 92 = .ok (.if_icmp .ge 68, 3) := by decide +kernel
theorem dX5_share_95 : decode cX5_share 95 = .ok (.iload 5, 2) := by decide +kernel
theorem dX5_share_97 : decode cX5_share 97 = .ok (.iload_n 1, 1) := by decide +kernel
theorem dX5_share_98 : decode cX5_share 98 = .ok (.invokestatic 141, 3) := by decide +kernel
theorem dX5_share_101 : decode cX5_share 101 = .ok (.ifCond .ne 53, 3) := by decide +kernel
theorem dX5_share_104 : decode cX5_share 104 = .ok (.iload 5, 2) := by decide +kernel
theorem dX5_share_106 : decode cX5_share 106 = .ok (.invokestatic 178, 3) := by decide +kernel
theorem dX5_share_109 : decode cX5_share 109 = .ok (.istore 6, 2) := by decide +kernel
theorem dX5_share_111 : decode cX5_share 111 = .ok (.iload 4, 2) := by decide +kernel
theorem dX5_share_113 : decode cX5_share 113 = .ok (.iload 6, 2) := by decide +kernel
theorem dX5_share_115 : decode cX5_share 115 = .ok (.invokestatic 200, 3) := by decide +kernel
theorem dX5_share_118 : decode cX5_share 118 = .ok (.aload_n 0, 1) := by decide +kernel
theorem dX5_share_119 : decode cX5_share 119 = .ok (.getfield 66, 3) := by decide +kernel
theorem dX5_share_122 : decode cX5_share 122 = .ok (.iconst 1, 1) := by decide +kernel
theorem dX5_share_123 : decode cX5_share 123 = .ok (.isub, 1) := by decide +kernel
theorem dX5_share_124 : decode cX5_share 124 = .ok (.iload 6, 2) := by decide +kernel
theorem dX5_share_126 : decode cX5_share 126 = .ok (.isub, 1) := by decide +kernel
theorem dX5_share_127 : decode cX5_share 127 = .ok (.invokestatic 200, 3) := by decide +kernel
theorem dX5_share_130 : decode cX5_share 130 = .ok (.imul, 1) := by decide +kernel
theorem dX5_share_131 : decode cX5_share 131 = .ok (.aload_n 0, 1) := by decide +kernel
theorem dX5_share_132 : decode cX5_share 132 = .ok (.getfield 54, 3) := by decide +kernel
theorem dX5_share_135 : decode cX5_share 135 = .ok (.iload 5, 2) := by decide +kernel
theorem dX5_share_137 : decode cX5_share 137 = .ok (.iconst 1, 1) := by decide +kernel
theorem dX5_share_138 : decode cX5_share 138 = .ok (.iload_n 1, 1) := by decide +kernel
theorem dX5_share_139 : decode cX5_share 139 = .ok (.ishl, 1) := by decide +kernel
theorem dX5_share_140 : decode cX5_share 140 = .ok (.ior, 1) := by decide +kernel
theorem dX5_share_141 : decode cX5_share 141 = .ok (.iaload, 1) := by decide +kernel
theorem dX5_share_142 : decode cX5_share 142 = .ok (.aload_n 0, 1) := by decide +kernel
theorem dX5_share_143 : decode cX5_share 143 = .ok (.getfield 54, 3) := by decide +kernel
theorem dX5_share_146 : decode cX5_share 146 = .ok (.iload 5, 2) := by decide +kernel
theorem dX5_share_148 : decode cX5_share 148 = .ok (.iaload, 1) := by decide +kernel
theorem dX5_share_149 : decode cX5_share 149 = .ok (.isub, 1) := by decide +kernel
theorem dX5_share_150 : decode cX5_share 150 = .ok (.imul, 1) := by decide +kernel
theorem dX5_share_151 : decode cX5_share 151 = .ok (.iadd, 1) := by decide +kernel
theorem dX5_share_152 : decode cX5_share 152 = .ok (.istore 4, 2) := by decide +kernel
theorem dX5_share_154 : decode cX5_share 154 = .ok (.iinc 5 1, 3) := by decide +kernel
theorem dX5_share_157 : decode cX5_share 157 = .ok (.goto (-73), 3) := by decide +kernel
theorem dX5_share_160 : decode cX5_share 160 = .ok (.iload 4, 2) := by decide +kernel
theorem dX5_share_162 : decode cX5_share 162 = .ok (.aload_n 0, 1) := by decide +kernel
theorem dX5_share_163 : decode cX5_share 163 = .ok (.getfield 66, 3) := by decide +kernel
theorem dX5_share_166 : decode cX5_share 166 = .ok (.invokestatic 200, 3) := by decide +kernel
theorem dX5_share_169 : decode cX5_share 169 = .ok (.iload_n 3, 1) := by decide +kernel
theorem dX5_share_170 : decode cX5_share 170 = .ok (.invokestatic 203, 3) := by decide +kernel
theorem dX5_share_173 : decode cX5_share 173 = .ok (.ireturn, 1) := by decide +kernel
set_option maxRecDepth 20000 in
theorem ggX5_see_X5_in : GoodIn wsX5_see wsX5_in := goodIn_r _ [10] (by decide +kernel) (by decide +kernel)
set_option maxRecDepth 20000 in
theorem gX5_see_X5_in : GoodIn wsX5_see (va_wsS RX5 69 yX5_in wsX5_in) := goodIn_app (goodIn_of _ (by decide +kernel)) ggX5_see_X5_in
theorem dX5_see_0 : decode cX5_see 0 = .ok (.aload_n 0, 1) := by decide +kernel
theorem dX5_see_1 : decode cX5_see 1 = .ok (.iconst 0, 1) := by decide +kernel
theorem dX5_see_2 : decode cX5_see 2 = .ok (.putfield 63, 3) := by decide +kernel
theorem dX5_see_5 : decode cX5_see 5 = .ok (.iload_n 1, 1) := by decide +kernel
theorem dX5_see_6 : decode cX5_see 6 = .ok (.i2l, 1) := by decide +kernel
theorem dX5_see_7 : decode cX5_see 7 = .ok (.lconst 0, 1) := by decide +kernel
theorem dX5_see_8 : decode cX5_see 8 = .ok (.ldc2_w 207, 3) := by decide +kernel
theorem dX5_see_11 : decode cX5_see 11 = .ok (.invokestatic 69, 3) := by decide +kernel
theorem dX5_see_14 : decode cX5_see 14 = .ok (.ifCond .eq 15, 3) := by decide +kernel
theorem dX5_see_17 : decode cX5_see 17 = .ok (.iload_n 2, 1) := by decide +kernel
theorem dX5_see_18 : decode cX5_see 18 = .ok (.i2l, 1) := by decide +kernel
theorem dX5_see_19 : decode cX5_see 19 = .ok (.lconst 1, 1) := by decide +kernel
theorem dX5_see_20 : decode cX5_see 20 = .ok (.ldc2_w 128, 3) := by decide +kernel
theorem dX5_see_23 : decode cX5_see 23 = .ok (.invokestatic 69, 3) := by decide +kernel
theorem dX5_see_26 : decode cX5_see 26 = .ok (.ifCond .ne 6, 3) := by decide +kernel
theorem dX5_see_29 : decode cX5_see 29 = .ok (.bipush (-2), 2) := by decide +kernel
theorem dX5_see_31 : decode cX5_see 31 = .ok (.ireturn, 1) := by decide +kernel
theorem dX5_see_32 : decode cX5_see 32 = .ok (.aload_n 0, 1) := by decide +kernel
theorem dX5_see_33 : decode cX5_see 33 = .ok (.getfield 121, 3) := by decide +kernel
theorem dX5_see_36 : decode cX5_see 36 = .ok (.bipush 6, 2) := by decide +kernel
theorem dX5_see_38 : decode cX5_see 38 = .ok (.if_icmp .ne 6, 3) := by decide +kernel
theorem dX5_see_41 : decode cX5_see 41 = .ok (.bipush (-4), 2) := by decide +kernel
theorem dX5_see_43 : decode cX5_see 43 = .ok (.ireturn, 1) := by decide +kernel
theorem dX5_see_44 : decode cX5_see 44 = .ok (.aload_n 0, 1) := by decide +kernel
theorem dX5_see_45 : decode cX5_see 45 = .ok (.getfield 48, 3) := by decide +kernel
theorem dX5_see_48 : decode cX5_see 48 = .ok (.aload_n 0, 1) := by decide +kernel
theorem dX5_see_49 : decode cX5_see 49 = .ok (.getfield 121, 3) := by decide +kernel
theorem dX5_see_52 : decode cX5_see 52 = .ok (.iload_n 1, 1) := by decide +kernel
theorem dX5_see_53 : decode cX5_see 53 = .ok (.iastore, 1) := by decide +kernel
theorem dX5_see_54 : decode cX5_see 54 = .ok (.aload_n 0, 1) := by decide +kernel
theorem dX5_see_55 : decode cX5_see 55 = .ok (.getfield 51, 3) := by decide +kernel
theorem dX5_see_58 : decode cX5_see 58 = .ok (.aload_n 0, 1) := by decide +kernel
theorem dX5_see_59 : decode cX5_see 59 = .ok (.getfield 121, 3) := by decide +kernel
theorem dX5_see_62 : decode cX5_see 62 = .ok (.iload_n 2, 1) := by decide +kernel
theorem dX5_see_63 : decode cX5_see 63 = .ok (.iastore, 1) := by decide +kernel
theorem dX5_see_64 : decode cX5_see 64 = .ok (.aload_n 0, 1) := by decide +kernel
theorem dX5_see_65 : decode cX5_see 65 = .ok (.dup, 1) := by decide +kernel
theorem dX5_see_66 : decode cX5_see 66 = .ok (.getfield 121, 3) := by decide +kernel
theorem dX5_see_69 : decode cX5_see 69 = .ok (.iconst 1, 1) := by decide +kernel
theorem dX5_see_70 : decode cX5_see 70 = .ok (.iadd, 1) := by decide +kernel
theorem dX5_see_71 : decode cX5_see 71 = .ok (.putfield 121, 3) := by decide +kernel
theorem dX5_see_74 : decode cX5_see 74 = .ok (.aload_n 0, 1) := by decide +kernel
theorem dX5_see_75 : decode cX5_see 75 = .ok (.getfield 121, 3) := by decide +kernel
theorem dX5_see_78 : decode cX5_see 78 = .ok (.ireturn, 1) := by decide +kernel
theorem dX5_unsee_0 : decode cX5_unsee 0 = .ok (.aload_n 0, 1) := by decide +kernel
theorem dX5_unsee_1 : decode cX5_unsee 1 = .ok (.iconst 0, 1) := by decide +kernel
theorem dX5_unsee_2 : decode cX5_unsee 2 = .ok (.putfield 63, 3) := by decide +kernel
theorem dX5_unsee_5 : decode cX5_unsee 5 = .ok (.aload_n 0, 1) := by decide +kernel
theorem dX5_unsee_6 : decode cX5_unsee 6 = .ok (.getfield 121, 3) := by decide +kernel
theorem dX5_unsee_9 : decode cX5_unsee 9 = .ok (.istore_n 1, 1) := by decide +kernel
theorem dX5_unsee_10 : decode cX5_unsee 10 = .ok (.aload_n 0, 1) := by decide +kernel
theorem dX5_unsee_11 : decode cX5_unsee 11 = .ok (.iconst 0, 1) := by decide +kernel
theorem dX5_unsee_12 : decode cX5_unsee 12 = .ok (.putfield 121, 3) := by decide +kernel
theorem dX5_unsee_15 : decode cX5_unsee 15 = .ok (.iload_n 1, 1) := by decide +kernel
theorem dX5_unsee_16 : decode cX5_unsee 16 = .ok (.ireturn, 1) := by decide +kernel
set_option maxRecDepth 20000 in
theorem ggX5_isSeen_X5_power : GoodIn wsX5_isSeen wsX5_power := goodIn_r _ [7] (by decide +kernel) (by decide +kernel)
set_option maxRecDepth 20000 in
theorem gX5_isSeen_X5_power : GoodIn wsX5_isSeen (va_wsS RX5 187 yX5_power wsX5_power) := goodIn_app (goodIn_of _ (by decide +kernel)) ggX5_isSeen_X5_power
set_option maxRecDepth 20000 in
theorem ggX5_isSeen_X5_minutes : GoodIn wsX5_isSeen wsX5_minutes := goodIn_r _ [10] (by decide +kernel) (by decide +kernel)
set_option maxRecDepth 20000 in
theorem gX5_isSeen_X5_minutes : GoodIn wsX5_isSeen (va_wsS RX5 110 yX5_minutes wsX5_minutes) := goodIn_app (goodIn_of _ (by decide +kernel)) ggX5_isSeen_X5_minutes
set_option maxRecDepth 20000 in
theorem ggX5_isSeen_X5_next : GoodIn wsX5_isSeen wsX5_next := goodIn_r _ [13] (by decide +kernel) (by decide +kernel)
set_option maxRecDepth 20000 in
theorem gX5_isSeen_X5_next : GoodIn wsX5_isSeen (va_wsS RX5 118 yX5_next wsX5_next) := goodIn_app (goodIn_of _ (by decide +kernel)) ggX5_isSeen_X5_next
theorem dX5_isSeen_0 : decode cX5_isSeen 0 = .ok (.iconst 0, 1) := by decide +kernel
theorem dX5_isSeen_1 : decode cX5_isSeen 1 = .ok (.istore_n 2, 1) := by decide +kernel
theorem dX5_isSeen_2 : decode cX5_isSeen 2 = .ok (.iconst 1, 1) := by decide +kernel
theorem dX5_isSeen_3 : decode cX5_isSeen 3 = .ok (.istore_n 3, 1) := by decide +kernel
theorem dX5_isSeen_4 : decode cX5_isSeen 4 = .ok (.iconst 0, 1) := by decide +kernel
theorem dX5_isSeen_5 : decode cX5_isSeen 5 = .ok (.istore 4, 2) := by decide +kernel
theorem dX5_isSeen_7 : decode cX5_isSeen 7 = .ok (.iload 4, 2) := by decide +kernel
theorem dX5_isSeen_9 : decode cX5_isSeen 9 = .ok (.bipush 6, 2) := by decide +kernel
theorem dX5_isSeen_11 : decode cX5_isSeen 11 = .ok (.if_icmp .ge 86, 3) := by decide +kernel
theorem dX5_isSeen_14 : decode cX5_isSeen 14 = .ok (.iload_n 3, 1) := by decide +kernel
theorem dX5_isSeen_15 : decode cX5_isSeen 15 = .ok (.ifCond .eq 82, 3) := by decide +kernel
theorem dX5_isSeen_18 : decode cX5_isSeen 18 = .ok (.iload_n 1, 1) := by decide +kernel
theorem dX5_isSeen_19 : decode cX5_isSeen 19 = .ok (.iconst 4, 1) := by decide +kernel
theorem dX5_isSeen_20 : decode cX5_isSeen 20 = .ok (.iload_n 2, 1) := by decide +kernel
theorem dX5_isSeen_21 : decode cX5_isSeen 21 = .ok (.invokestatic 187, 3) := by decide +kernel
theorem dX5_isSeen_24 : decode cX5_isSeen 24 = .ok (.idiv, 1) := by decide +kernel
theorem dX5_isSeen_25 : decode cX5_isSeen 25 = .ok (.iconst 4, 1) := by decide +kernel
theorem dX5_isSeen_26 : decode cX5_isSeen 26 = .ok (.irem, 1) := by decide +kernel
theorem dX5_isSeen_27 : decode cX5_isSeen 27 = .ok (.istore 5, 2) := by decide +kernel
theorem dX5_isSeen_29 : decode cX5_isSeen 29 = .ok (.iconst 0, 1) := by decide +kernel
theorem dX5_isSeen_30 : decode cX5_isSeen 30 = .ok (.istore 6, 2) := by decide +kernel
theorem dX5_isSeen_32 : decode cX5_isSeen 32 = .ok (.iload 6, 2) := by decide +kernel
theorem dX5_isSeen_34 : decode cX5_isSeen 34 = .ok (.aload_n 0, 1) := by decide +kernel
theorem dX5_isSeen_35 : decode cX5_isSeen 35 = .ok (.getfield 121, 3) := by decide +kernel
theorem dX5_isSeen_38 : decode cX5_isSeen 38 = .ok (.if_icmp .ge 46, 3) := by decide +kernel
theorem dX5_isSeen_41 : decode cX5_isSeen 41 = .ok (.iload_n 3, 1) := by decide +kernel
theorem dX5_isSeen_42 : decode cX5_isSeen 42 = .ok (.ifCond .eq 34, 3) := by decide +kernel
theorem dX5_isSeen_45 : decode cX5_isSeen 45 = .ok (.aload_n 0, 1) := by decide +kernel
theorem dX5_isSeen_46 : decode cX5_isSeen 46 = .ok (.getfield 48, 3) := by decide +kernel
theorem dX5_isSeen_49 : decode cX5_isSeen 49 = .ok (.iload 6, 2) := by decide +kernel
theorem dX5_isSeen_51 : decode cX5_isSeen 51 = .ok (.iaload, 1) := by decide +kernel
theorem dX5_isSeen_52 : decode cX5_isSeen 52 = .ok (.iload 4, 2) := by decide +kernel
theorem dX5_isSeen_54 : decode cX5_isSeen 54 = .ok (.if_icmp .ne 18, 3) := by decide +kernel
theorem dX5_isSeen_57 : decode cX5_isSeen 57 = .ok (.aload_n 0, 1) := by decide +kernel
theorem dX5_isSeen_58 : decode cX5_isSeen 58 = .ok (.getfield 51, 3) := by decide +kernel
theorem dX5_isSeen_61 : decode cX5_isSeen 61 = .ok (.iload 6, 2) := by decide +kernel
theorem dX5_isSeen_63 : decode cX5_isSeen 63 = .ok (.iaload, 1) := by decide +kernel
theorem dX5_isSeen_64 : decode cX5_isSeen 64 = .ok (.iload 5, 2) := by decide +kernel
theorem dX5_isSeen_66 : decode cX5_isSeen 66 = .ok (.invokestatic 110, 3) := by decide +kernel
theorem dX5_isSeen_69 : decode cX5_isSeen 69 = .ok (.if_icmp .ne 7, 3) := by decide +kernel
theorem dX5_isSeen_72 : decode cX5_isSeen 72 = .ok (.iconst 1, 1) := by decide +kernel
theorem dX5_isSeen_73 : decode cX5_isSeen 73 = .ok (.goto 4, 3) := by decide +kernel
theorem dX5_isSeen_76 : decode cX5_isSeen 76 = .ok (.iconst 0, 1) := by decide +kernel
theorem dX5_isSeen_77 : decode cX5_isSeen 77 = .ok (.istore_n 3, 1) := by decide +kernel
theorem dX5_isSeen_78 : decode cX5_isSeen 78 = .ok (.iinc 6 1, 3) := by decide +kernel
theorem dX5_isSeen_81 : decode cX5_isSeen 81 = .ok (.goto (-49), 3) := by decide +kernel
theorem dX5_isSeen_84 : decode cX5_isSeen 84 = .ok (.iload_n 2, 1) := by decide +kernel
theorem dX5_isSeen_85 : decode cX5_isSeen 85 = .ok (.iload 5, 2) := by decide +kernel
theorem dX5_isSeen_87 : decode cX5_isSeen 87 = .ok (.invokestatic 118, 3) := by decide +kernel
theorem dX5_isSeen_90 : decode cX5_isSeen 90 = .ok (.istore_n 2, 1) := by decide +kernel
theorem dX5_isSeen_91 : decode cX5_isSeen 91 = .ok (.iinc 4 1, 3) := by decide +kernel
theorem dX5_isSeen_94 : decode cX5_isSeen 94 = .ok (.goto (-87), 3) := by decide +kernel
theorem dX5_isSeen_97 : decode cX5_isSeen 97 = .ok (.iload_n 3, 1) := by decide +kernel
theorem dX5_isSeen_98 : decode cX5_isSeen 98 = .ok (.ireturn, 1) := by decide +kernel
set_option maxRecDepth 20000 in
theorem ggX5_lives_X5_in : GoodIn wsX5_lives wsX5_in := goodIn_r _ [7] (by decide +kernel) (by decide +kernel)
set_option maxRecDepth 20000 in
theorem gX5_lives_X5_in : GoodIn wsX5_lives (va_wsS RX5 69 yX5_in wsX5_in) := goodIn_app (goodIn_of _ (by decide +kernel)) ggX5_lives_X5_in
set_option maxRecDepth 20000 in
theorem ggX5_lives_X5_isSeen : GoodIn wsX5_lives wsX5_isSeen := goodIn_r _ [11, 12, 13, 14, 15, 16, 6, 17, 18, 19, 20, 21, 22, 23, 24, 25, 26, 27, 28, 29, 30, 31, 32, 33, 34, 35, 36, 37, 38, 39, 40, 41, 42, 43, 44, 45, 46, 47, 48, 49, 50, 51, 52, 53, 54, 55, 56, 57, 58, 59, 60] (by decide +kernel) (by decide +kernel)
set_option maxRecDepth 20000 in
theorem gX5_lives_X5_isSeen : GoodIn wsX5_lives (wsV RX5 211 RX5 yX5_isSeen wsX5_isSeen) := goodIn_app (goodIn_of _ (by decide +kernel)) ggX5_lives_X5_isSeen
set_option maxRecDepth 20000 in
theorem ggX5_lives_X5_power : GoodIn wsX5_lives wsX5_power := goodIn_r _ [17] (by decide +kernel) (by decide +kernel)
set_option maxRecDepth 20000 in
theorem gX5_lives_X5_power : GoodIn wsX5_lives (va_wsS RX5 187 yX5_power wsX5_power) := goodIn_app (goodIn_of _ (by decide +kernel)) ggX5_lives_X5_power
theorem dX5_lives_0 : decode cX5_lives 0 = .ok (.aload_n 0, 1) := by decide +kernel
theorem dX5_lives_1 : decode cX5_lives 1 = .ok (.iconst 0, 1) := by decide +kernel
theorem dX5_lives_2 : decode cX5_lives 2 = .ok (.putfield 63, 3) := by decide +kernel
theorem dX5_lives_5 : decode cX5_lives 5 = .ok (.iload_n 1, 1) := by decide +kernel
theorem dX5_lives_6 : decode cX5_lives 6 = .ok (.i2l, 1) := by decide +kernel
theorem dX5_lives_7 : decode cX5_lives 7 = .ok (.ldc2_w 209, 3) := by decide +kernel
theorem dX5_lives_10 : decode cX5_lives 10 = .ok (.ldc2_w 128, 3) := by decide +kernel
theorem dX5_lives_13 : decode cX5_lives 13 = .ok (.invokestatic 69, 3) := by decide +kernel
theorem dX5_lives_16 : decode cX5_lives 16 = .ok (.ifCond .ne 6, 3) := by decide +kernel
theorem dX5_lives_19 : decode cX5_lives 19 = .ok (.bipush (-2), 2) := by decide +kernel
theorem dX5_lives_21 : decode cX5_lives 21 = .ok (.ireturn, 1) := by decide +kernel
theorem dX5_lives_22 : decode cX5_lives 22 = .ok (.iconst 0, 1) := by decide +kernel
theorem dX5_lives_23 : decode cX5_lives 23 = .ok (.istore_n 2, 1) := by decide +kernel
theorem dX5_lives_24 : decode cX5_lives 24 = .ok (.iconst 0, 1) := by decide +kernel
theorem dX5_lives_25 : decode cX5_lives 25 = .ok (.istore_n 3, 1) := by decide +kernel
theorem dX5_lives_26 : decode cX5_lives 26 = .ok (.iconst 0, 1) := by decide +kernel
theorem dX5_lives_27 : decode cX5_lives 27 = .ok (.istore 4, 2) := by decide +kernel
theorem dX5_lives_29 : decode cX5_lives 29 = .ok (.iload 4, 2) := by decide +kernel
theorem dX5_lives_31 : decode cX5_lives 31 = .ok (.sipush 256, 3) := by decide +kernel
theorem dX5_lives_34 : decode cX5_lives 34 = .ok (.if_icmp .ge 44, 3) := by decide +kernel
theorem dX5_lives_37 : decode cX5_lives 37 = .ok (.aload_n 0, 1) := by decide +kernel
theorem dX5_lives_38 : decode cX5_lives 38 = .ok (.iload 4, 2) := by decide +kernel
theorem dX5_lives_40 : decode cX5_lives 40 = .ok (.invokevirtual 211, 3) := by decide +kernel
theorem dX5_lives_43 : decode cX5_lives 43 = .ok (.ifCond .eq 29, 3) := by decide +kernel
theorem dX5_lives_46 : decode cX5_lives 46 = .ok (.iinc 2 1, 3) := by decide +kernel
theorem dX5_lives_49 : decode cX5_lives 49 = .ok (.iload_n 3, 1) := by decide +kernel
theorem dX5_lives_50 : decode cX5_lives 50 = .ok (.iload_n 1, 1) := by decide +kernel
theorem dX5_lives_51 : decode cX5_lives 51 = .ok (.ifCond .ge 7, 3) := by decide +kernel
theorem dX5_lives_54 : decode cX5_lives 54 = .ok (.iconst 0, 1) := by decide +kernel
theorem dX5_lives_55 : decode cX5_lives 55 = .ok (.goto 15, 3) := by decide +kernel
theorem dX5_lives_58 : decode cX5_lives 58 = .ok (.iconst 1, 1) := by decide +kernel
theorem dX5_lives_59 : decode cX5_lives 59 = .ok (.iload 4, 2) := by decide +kernel
theorem dX5_lives_61 : decode cX5_lives 61 = .ok (.iconst 4, 1) := by decide +kernel
theorem dX5_lives_62 : decode cX5_lives 62 = .ok (.iload_n 1, 1) := by decide +kernel
theorem dX5_lives_63 : decode cX5_lives 63 = .ok (.invokestatic 187, 3) := by decide +kernel
theorem dX5_lives_66 : decode cX5_lives 66 = .ok (.idiv, 1) := by decide +kernel
theorem dX5_lives_67 : decode cX5_lives 67 = .ok (.iconst 4, 1) := by decide +kernel
theorem dX5_lives_68 : decode cX5_lives 68 = .ok (.irem, 1) := by decide +kernel
theorem dX5_lives_69 : decode cX5_lives 69 = .ok (.ishl, 1) := by decide +kernel
theorem dX5_lives_70 : decode cX5_lives 70 = .ok (.ior, 1) := by decide +kernel
theorem dX5_lives_71 : decode cX5_lives 71 = .ok (.istore_n 3, 1) := by decide +kernel
theorem dX5_lives_72 : decode cX5_lives 72 = .ok (.iinc 4 1, 3) := by decide +kernel
theorem dX5_lives_75 : decode cX5_lives 75 = .ok (.goto (-46), 3) := by decide +kernel
theorem dX5_lives_78 : decode cX5_lives 78 = .ok (.iload_n 1, 1) := by decide +kernel
theorem dX5_lives_79 : decode cX5_lives 79 = .ok (.ifCond .ge 7, 3) := by decide +kernel
theorem dX5_lives_82 : decode cX5_lives 82 = .ok (.iload_n 2, 1) := by decide +kernel
theorem dX5_lives_83 : decode cX5_lives 83 = .ok (.goto 4, 3) := by decide +kernel
theorem dX5_lives_86 : decode cX5_lives 86 = .ok (.iload_n 3, 1) := by decide +kernel
theorem dX5_lives_87 : decode cX5_lives 87 = .ok (.ireturn, 1) := by decide +kernel
theorem dX5_loss_0 : decode cX5_loss 0 = .ok (.iload_n 0, 1) := by decide +kernel
theorem dX5_loss_1 : decode cX5_loss 1 = .ok (.iload_n 1, 1) := by decide +kernel
theorem dX5_loss_2 : decode cX5_loss 2 = .ok (.if_icmp .ne 8, 3) := by decide +kernel
theorem dX5_loss_5 : decode cX5_loss 5 = .ok (.bipush 6, 2) := by decide +kernel
theorem dX5_loss_7 : decode cX5_loss 7 = .ok (.iload_n 2, 1) := by decide +kernel
theorem dX5_loss_8 : decode cX5_loss 8 = .ok (.iadd, 1) := by decide +kernel
theorem dX5_loss_9 : decode cX5_loss 9 = .ok (.ireturn, 1) := by decide +kernel
theorem dX5_loss_10 : decode cX5_loss 10 = .ok (.iload_n 0, 1) := by decide +kernel
theorem dX5_loss_11 : decode cX5_loss 11 = .ok (.iload_n 1, 1) := by decide +kernel
theorem dX5_loss_12 : decode cX5_loss 12 = .ok (.if_icmp .le 9, 3) := by decide +kernel
theorem dX5_loss_15 : decode cX5_loss 15 = .ok (.iload_n 2, 1) := by decide +kernel
theorem dX5_loss_16 : decode cX5_loss 16 = .ok (.iload_n 0, 1) := by decide +kernel
theorem dX5_loss_17 : decode cX5_loss 17 = .ok (.iadd, 1) := by decide +kernel
theorem dX5_loss_18 : decode cX5_loss 18 = .ok (.goto 4, 3) := by decide +kernel
theorem dX5_loss_21 : decode cX5_loss 21 = .ok (.iload_n 0, 1) := by decide +kernel
theorem dX5_loss_22 : decode cX5_loss 22 = .ok (.ireturn, 1) := by decide +kernel
set_option maxRecDepth 20000 in
theorem ggX5_findRests_X5_loss : GoodIn wsX5_findRests wsX5_loss := goodIn_r _ [6] (by decide +kernel) (by decide +kernel)
set_option maxRecDepth 20000 in
theorem gX5_findRests_X5_loss : GoodIn wsX5_findRests (va_wsS RX5 220 yX5_loss wsX5_loss) := goodIn_app (goodIn_of _ (by decide +kernel)) ggX5_findRests_X5_loss
theorem dX5_findRests_0 : decode cX5_findRests 0 = .ok (.aload_n 0, 1) := by decide +kernel
theorem dX5_findRests_1 : decode cX5_findRests 1 = .ok (.iconst 0, 1) := by decide +kernel
theorem dX5_findRests_2 : decode cX5_findRests 2 = .ok (.putfield 214, 3) := by decide +kernel
theorem dX5_findRests_5 : decode cX5_findRests 5 = .ok (.aload_n 0, 1) := by decide +kernel
theorem dX5_findRests_6 : decode cX5_findRests 6 = .ok (.bipush (-9), 2) := by decide +kernel
theorem dX5_findRests_8 : decode cX5_findRests 8 = .ok (.putfield 217, 3) := by decide +kernel
theorem dX5_findRests_11 : decode cX5_findRests 11 = .ok (.iconst 0, 1) := by decide +kernel
theorem dX5_findRests_12 : decode cX5_findRests 12 = .ok (.istore_n 3, 1) := by decide +kernel
theorem dX5_findRests_13 : decode cX5_findRests 13 = .ok (.iload_n 3, 1) := by decide +kernel
theorem dX5_findRests_14 : decode cX5_findRests 14 = .ok (.iconst 4, 1) := by decide +kernel
theorem dX5_findRests_15 : decode cX5_findRests 15 = .ok (.if_icmp .ge 138, 3) := by decide +kernel
theorem dX5_findRests_18 : decode cX5_findRests 18 = .ok (.iconst 0, 1) := by decide +kernel
theorem dX5_findRests_19 : decode cX5_findRests 19 = .ok (.istore 4, 2) := by decide +kernel
theorem dX5_findRests_21 : decode cX5_findRests 21 = .ok (.iload 4, 2) := by decide +kernel
theorem dX5_findRests_23 : decode cX5_findRests 23 = .ok (.iconst 4, 1) := by decide +kernel
theorem dX5_findRests_24 : decode cX5_findRests 24 = .ok (.if_icmp .ge 123, 3) := by decide +kernel
theorem dX5_findRests_27 : decode cX5_findRests 27 = .ok (.iconst 1, 1) := by decide +kernel
theorem dX5_findRests_28 : decode cX5_findRests 28 = .ok (.istore 5, 2) := by decide +kernel
theorem dX5_findRests_30 : decode cX5_findRests 30 = .ok (.iconst 0, 1) := by decide +kernel
theorem dX5_findRests_31 : decode cX5_findRests 31 = .ok (.istore 6, 2) := by decide +kernel
theorem dX5_findRests_33 : decode cX5_findRests 33 = .ok (.iload 6, 2) := by decide +kernel
theorem dX5_findRests_35 : decode cX5_findRests 35 = .ok (.iconst 4, 1) := by decide +kernel
theorem dX5_findRests_36 : decode cX5_findRests 36 = .ok (.if_icmp .ge 56, 3) := by decide +kernel
theorem dX5_findRests_39 : decode cX5_findRests 39 = .ok (.iload 5, 2) := by decide +kernel
theorem dX5_findRests_41 : decode cX5_findRests 41 = .ok (.ifCond .eq 42, 3) := by decide +kernel
theorem dX5_findRests_44 : decode cX5_findRests 44 = .ok (.iload 6, 2) := by decide +kernel
theorem dX5_findRests_46 : decode cX5_findRests 46 = .ok (.iload 4, 2) := by decide +kernel
theorem dX5_findRests_48 : decode cX5_findRests 48 = .ok (.iload_n 1, 1) := by decide +kernel
theorem dX5_findRests_49 : decode cX5_findRests 49 = .ok (.invokestatic 220, 3) := by decide +kernel
theorem dX5_findRests_52 : decode cX5_findRests 52 = .ok (.iload_n 3, 1) := by decide +kernel
theorem dX5_findRests_53 : decode cX5_findRests 53 = .ok (.iload 4, 2) := by decide +kernel
theorem dX5_findRests_55 : decode cX5_findRests 55 = .ok (.iload_n 1, 1) := by decide +kernel
theorem dX5_findRests_56 : decode cX5_findRests 56 = .ok (.invokestatic 220, 3) := by decide +kernel
theorem dX5_findRests_59 : decode cX5_findRests 59 = .ok (.if_icmp .lt 24, 3) := by decide +kernel
theorem dX5_findRests_62 : decode cX5_findRests 62 = .ok (.iload 6, 2) := by decide +kernel
theorem dX5_findRests_64 : decode cX5_findRests 64 = .ok (.iload_n 3, 1) := by decide +kernel
theorem dX5_findRests_65 : decode cX5_findRests 65 = .ok (.iload_n 2, 1) := by decide +kernel
theorem dX5_findRests_66 : decode cX5_findRests 66 = .ok (.invokestatic 220, 3) := by decide +kernel
theorem dX5_findRests_69 : decode cX5_findRests 69 = .ok (.iload 4, 2) := by decide +kernel
theorem dX5_findRests_71 : decode cX5_findRests 71 = .ok (.iload_n 3, 1) := by decide +kernel
theorem dX5_findRests_72 : decode cX5_findRests 72 = .ok (.iload_n 2, 1) := by decide +kernel
theorem dX5_findRests_73 : decode cX5_findRests 73 = .ok (.invokestatic 220, 3) := by decide +kernel
theorem dX5_findRests_76 : decode cX5_findRests 76 = .ok (.if_icmp .lt 7, 3) := by decide +kernel
theorem dX5_findRests_79 : decode cX5_findRests 79 = .ok (.iconst 1, 1) := by decide +kernel
theorem dX5_findRests_80 : decode cX5_findRests 80 = .ok (.goto 4, 3) := by decide +kernel
theorem dX5_findRests_83 : decode cX5_findRests 83 = .ok (.iconst 0, 1) := by decide +kernel
theorem dX5_findRests_84 : decode cX5_findRests 84 = .ok (.istore 5, 2) := by decide +kernel
theorem dX5_findRests_86 : decode cX5_findRests 86 = .ok (.iinc 6 1, 3) := by decide +kernel
theorem dX5_findRests_89 : decode cX5_findRests 89 = .ok (.goto (-56), 3) := by decide +kernel
theorem dX5_findRests_92 : decode cX5_findRests 92 = .ok (.aload_n 0, 1) := by decide +kernel
theorem dX5_findRests_93 : decode cX5_findRests 93 = .ok (.iload 5, 2) := by decide +kernel
theorem dX5_findRests_95 : decode cX5_findRests 95 = .ok (.ifCond .eq 20, 3) := by decide +kernel
theorem dX5_findRests_98 : decode cX5_findRests 98 = .ok (.aload_n 0, 1) := by decide +kernel
theorem dX5_findRests_99 : decode cX5_findRests 99 = .ok (.getfield 214, 3) := by decide +kernel
theorem dX5_findRests_102 : decode cX5_findRests 102 = .ok (.ifCond .ne 13, 3) := by decide +kernel
theorem dX5_findRests_105 : decode cX5_findRests 105 = .ok (.bipush 10, 2) := by decide +kernel
theorem dX5_findRests_107 : decode cX5_findRests 107 = .ok (.iload_n 3, 1) := by decide +kernel
theorem dX5_findRests_108 : decode cX5_findRests 108 = .ok (.imul, 1) := by decide +kernel
theorem dX5_findRests_109 : decode cX5_findRests 109 = .ok (.iload 4, 2) := by decide +kernel
theorem dX5_findRests_111 : decode cX5_findRests 111 = .ok (.iadd, 1) := by decide +kernel
theorem dX5_findRests_112 : decode cX5_findRests 112 = .ok (.goto 7, 3) := by decide +kernel
theorem dX5_findRests_115 : decode cX5_findRests 115 = .ok (.aload_n 0, 1) := by decide +kernel
theorem dX5_findRests_116 : decode cX5_findRests 116 = .ok (.getfield 217, 3) := by decide +kernel
theorem dX5_findRests_119 : decode cX5_findRests 119 = .ok (.putfield 217, 3) := by decide +kernel
theorem dX5_findRests_122 : decode cX5_findRests 122 = .ok (.aload_n 0, 1) := by decide +kernel
theorem dX5_findRests_123 : decode cX5_findRests 123 = .ok (.dup, 1) := by decide +kernel
theorem dX5_findRests_124 : decode cX5_findRests 124 = .ok (.getfield 214, 3) := by decide +kernel
theorem dX5_findRests_127 : decode cX5_findRests 127 = .ok (.iload 5, 2) := by decide +kernel
theorem dX5_findRests_129 : decode cX5_findRests 129 = .ok (.ifCond .eq 7, 3) := by decide +kernel
theorem dX5_findRests_132 : decode cX5_findRests 132 = .ok (.iconst 1, 1) := by decide +kernel
theorem dX5_findRests_133 : decode cX5_findRests 133 = .ok (.goto 4, 3) := by decide +kernel
theorem dX5_findRests_136 : decode cX5_findRests 136 = .ok (.iconst 0, 1) := by decide +kernel
theorem dX5_findRests_137 : decode cX5_findRests 137 = .ok (.iadd, 1) := by decide +kernel
theorem dX5_findRests_138 : decode cX5_findRests 138 = .ok (.putfield 214, 3) := by decide +kernel
theorem dX5_findRests_141 : decode cX5_findRests 141 = .ok (.iinc 4 1, 3) := by decide +kernel
theorem dX5_findRests_144 : decode cX5_findRests 144 = .ok (.goto (-123), 3) := by decide +kernel
theorem dX5_findRests_147 : decode cX5_findRests 147 = .ok (.iinc 3 1, 3) := by decide +kernel
theorem dX5_findRests_150 : decode cX5_findRests 150 = .ok (.goto (-137), 3) := by decide +kernel
theorem dX5_findRests_153 : decode cX5_findRests 153 = .ok (.return_, 1) := by decide +kernel
set_option maxRecDepth 20000 in
theorem ggX5_rests_X5_noBoat : GoodIn wsX5_rests wsX5_noBoat := goodIn_r _ [9, 10, 11, 12, 8, 13, 21, 22, 23, 24, 25, 26, 27, 28, 29, 30, 31, 32, 33, 34, 35, 36, 37, 38, 39, 40, 41, 42, 43, 44, 45, 46, 47, 48, 49, 50, 51, 52, 53, 54, 55, 56, 57] (by decide +kernel) (by decide +kernel)
set_option maxRecDepth 20000 in
theorem gX5_rests_X5_noBoat : GoodIn wsX5_rests (wsV RX5 130 RX5 yX5_noBoat wsX5_noBoat) := goodIn_app (goodIn_of _ (by decide +kernel)) ggX5_rests_X5_noBoat
set_option maxRecDepth 20000 in
theorem ggX5_rests_X5_in : GoodIn wsX5_rests wsX5_in := goodIn_r _ [13] (by decide +kernel) (by decide +kernel)
set_option maxRecDepth 20000 in
theorem gX5_rests_X5_in : GoodIn wsX5_rests (va_wsS RX5 69 yX5_in wsX5_in) := goodIn_app (goodIn_of _ (by decide +kernel)) ggX5_rests_X5_in
set_option maxRecDepth 20000 in
theorem ggX5_rests_X5_findRests : GoodIn wsX5_rests wsX5_findRests := goodIn_r _ [17, 3, 4, 18, 19, 8, 20, 21, 22, 23, 24, 25, 26, 27, 28, 29, 30, 31, 32, 33, 34, 35, 36, 37, 38, 39, 40, 41, 42, 43, 44, 45, 46, 47, 48, 49, 50, 51, 52, 53, 54, 55, 56, 57] (by decide +kernel) (by decide +kernel)
set_option maxRecDepth 20000 in
theorem gX5_rests_X5_findRests : GoodIn wsX5_rests (wsV RX5 223 RX5 yX5_findRests wsX5_findRests) := goodIn_app (goodIn_of _ (by decide +kernel)) ggX5_rests_X5_findRests
theorem dX5_rests_0 : decode cX5_rests 0 = .ok (.aload_n 0, 1) := by decide +kernel
theorem dX5_rests_1 : decode cX5_rests 1 = .ok (.iconst 0, 1) := by decide +kernel
theorem dX5_rests_2 : decode cX5_rests 2 = .ok (.putfield 63, 3) := by decide +kernel
theorem dX5_rests_5 : decode cX5_rests 5 = .ok (.aload_n 0, 1) := by decide +kernel
theorem dX5_rests_6 : decode cX5_rests 6 = .ok (.iload_n 1, 1) := by decide +kernel
theorem dX5_rests_7 : decode cX5_rests 7 = .ok (.invokevirtual 130, 3) := by decide +kernel
theorem dX5_rests_10 : decode cX5_rests 10 = .ok (.ifCond .ne 11, 3) := by decide +kernel
theorem dX5_rests_13 : decode cX5_rests 13 = .ok (.aload_n 0, 1) := by decide +kernel
theorem dX5_rests_14 : decode cX5_rests 14 = .ok (.iload_n 2, 1) := by decide +kernel
theorem dX5_rests_15 : decode cX5_rests 15 = .ok (.invokevirtual 130, 3) := by decide +kernel
theorem dX5_rests_18 : decode cX5_rests 18 = .ok (.ifCond .eq 5, 3) := by decide +kernel
theorem dX5_rests_21 : decode cX5_rests 21 = .ok (.iconst (-1), 1) := by decide +kernel
theorem dX5_rests_22 : decode cX5_rests 22 = .ok (.ireturn, 1) := by decide +kernel
theorem dX5_rests_23 : decode cX5_rests 23 = .ok (.iload_n 1, 1) := by decide +kernel
theorem dX5_rests_24 : decode cX5_rests 24 = .ok (.iload_n 2, 1) := by decide +kernel
theorem dX5_rests_25 : decode cX5_rests 25 = .ok (.if_icmp .eq 13, 3) := by decide +kernel
theorem dX5_rests_28 : decode cX5_rests 28 = .ok (.iload_n 3, 1) := by decide +kernel
theorem dX5_rests_29 : decode cX5_rests 29 = .ok (.i2l, 1) := by decide +kernel
theorem dX5_rests_30 : decode cX5_rests 30 = .ok (.lconst 0, 1) := by decide +kernel
theorem dX5_rests_31 : decode cX5_rests 31 = .ok (.lconst 1, 1) := by decide +kernel
theorem dX5_rests_32 : decode cX5_rests 32 = .ok (.invokestatic 69, 3) := by decide +kernel
theorem dX5_rests_35 : decode cX5_rests 35 = .ok (.ifCond .ne 6, 3) := by decide +kernel
theorem dX5_rests_38 : decode cX5_rests 38 = .ok (.bipush (-2), 2) := by decide +kernel
theorem dX5_rests_40 : decode cX5_rests 40 = .ok (.ireturn, 1) := by decide +kernel
theorem dX5_rests_41 : decode cX5_rests 41 = .ok (.aload_n 0, 1) := by decide +kernel
theorem dX5_rests_42 : decode cX5_rests 42 = .ok (.aload_n 0, 1) := by decide +kernel
theorem dX5_rests_43 : decode cX5_rests 43 = .ok (.getfield 20, 3) := by decide +kernel
theorem dX5_rests_46 : decode cX5_rests 46 = .ok (.iload_n 1, 1) := by decide +kernel
theorem dX5_rests_47 : decode cX5_rests 47 = .ok (.iaload, 1) := by decide +kernel
theorem dX5_rests_48 : decode cX5_rests 48 = .ok (.aload_n 0, 1) := by decide +kernel
theorem dX5_rests_49 : decode cX5_rests 49 = .ok (.getfield 20, 3) := by decide +kernel
theorem dX5_rests_52 : decode cX5_rests 52 = .ok (.iload_n 2, 1) := by decide +kernel
theorem dX5_rests_53 : decode cX5_rests 53 = .ok (.iaload, 1) := by decide +kernel
theorem dX5_rests_54 : decode cX5_rests 54 = .ok (.invokevirtual 223, 3) := by decide +kernel
theorem dX5_rests_57 : decode cX5_rests 57 = .ok (.iload_n 3, 1) := by decide +kernel
theorem dX5_rests_58 : decode cX5_rests 58 = .ok (.ifCond .ne 10, 3) := by decide +kernel
theorem dX5_rests_61 : decode cX5_rests 61 = .ok (.aload_n 0, 1) := by decide +kernel
theorem dX5_rests_62 : decode cX5_rests 62 = .ok (.getfield 214, 3) := by decide +kernel
theorem dX5_rests_65 : decode cX5_rests 65 = .ok (.goto 7, 3) := by decide +kernel
theorem dX5_rests_68 : decode cX5_rests 68 = .ok (.aload_n 0, 1) := by decide +kernel
theorem dX5_rests_69 : decode cX5_rests 69 = .ok (.getfield 217, 3) := by decide +kernel
theorem dX5_rests_72 : decode cX5_rests 72 = .ok (.ireturn, 1) := by decide +kernel
set_option maxRecDepth 20000 in
theorem ggX5_chance_X5_noLegger : GoodIn wsX5_chance wsX5_noLegger := goodIn_r _ [10, 11, 12, 13, 9, 14, 38, 39, 40, 41, 42, 43, 44, 45, 46, 47, 48, 49, 50, 51, 52, 53, 54, 55, 56, 57, 58, 59, 60, 61, 62, 63, 64, 65, 66, 67, 68, 69, 70, 71, 72, 73, 74] (by decide +kernel) (by decide +kernel)
set_option maxRecDepth 20000 in
theorem gX5_chance_X5_noLegger : GoodIn wsX5_chance (wsV RX5 124 RX5 yX5_noLegger wsX5_noLegger) := goodIn_app (goodIn_of _ (by decide +kernel)) ggX5_chance_X5_noLegger
set_option maxRecDepth 20000 in
theorem ggX5_chance_X5_in : GoodIn wsX5_chance wsX5_in := goodIn_r _ [14] (by decide +kernel) (by decide +kernel)
set_option maxRecDepth 20000 in
theorem gX5_chance_X5_in : GoodIn wsX5_chance (va_wsS RX5 69 yX5_in wsX5_in) := goodIn_app (goodIn_of _ (by decide +kernel)) ggX5_chance_X5_in
set_option maxRecDepth 20000 in
theorem ggX5_chance_X5_has : GoodIn wsX5_chance wsX5_has := goodIn_r _ [17] (by decide +kernel) (by decide +kernel)
set_option maxRecDepth 20000 in
theorem gX5_chance_X5_has : GoodIn wsX5_chance (va_wsS RX5 141 yX5_has wsX5_has) := goodIn_app (goodIn_of _ (by decide +kernel)) ggX5_chance_X5_has
set_option maxRecDepth 20000 in
theorem ggX5_chance_X5_takes : GoodIn wsX5_chance wsX5_takes := goodIn_r _ [21, 22, 4, 23, 24, 9, 25, 38, 39, 40, 41, 42, 43, 44, 45, 46, 47, 48, 49, 50, 51, 52, 53, 54, 55, 56, 57, 58, 59, 60, 61, 62, 63, 64, 65, 66, 67, 68, 69, 70, 71, 72, 73, 74] (by decide +kernel) (by decide +kernel)
set_option maxRecDepth 20000 in
theorem gX5_chance_X5_takes : GoodIn wsX5_chance (wsV RX5 114 RX5 yX5_takes wsX5_takes) := goodIn_app (goodIn_of _ (by decide +kernel)) ggX5_chance_X5_takes
set_option maxRecDepth 20000 in
theorem ggX5_chance_X5_next : GoodIn wsX5_chance wsX5_next := goodIn_r _ [28] (by decide +kernel) (by decide +kernel)
set_option maxRecDepth 20000 in
theorem gX5_chance_X5_next : GoodIn wsX5_chance (va_wsS RX5 118 yX5_next wsX5_next) := goodIn_app (goodIn_of _ (by decide +kernel)) ggX5_chance_X5_next
set_option maxRecDepth 20000 in
theorem ggX5_chance_X5_power : GoodIn wsX5_chance wsX5_power := goodIn_r _ [31] (by decide +kernel) (by decide +kernel)
set_option maxRecDepth 20000 in
theorem gX5_chance_X5_power : GoodIn wsX5_chance (va_wsS RX5 187 yX5_power wsX5_power) := goodIn_app (goodIn_of _ (by decide +kernel)) ggX5_chance_X5_power
set_option maxRecDepth 20000 in
theorem ggX5_chance_X5_fraction : GoodIn wsX5_chance wsX5_fraction := goodIn_r _ [34, 35, 36, 9, 37] (by decide +kernel) (by decide +kernel)
set_option maxRecDepth 20000 in
theorem gX5_chance_X5_fraction : GoodIn wsX5_chance (va_wsS RX5 203 yX5_fraction wsX5_fraction) := goodIn_app (goodIn_of _ (by decide +kernel)) ggX5_chance_X5_fraction
theorem dX5_chance_0 : decode cX5_chance 0 = .ok (.aload_n 0, 1) := by decide +kernel
theorem dX5_chance_1 : decode cX5_chance 1 = .ok (.iconst 0, 1) := by decide +kernel
theorem dX5_chance_2 : decode cX5_chance 2 = .ok (.putfield 63, 3) := by decide +kernel
theorem dX5_chance_5 : decode cX5_chance 5 = .ok (.aload_n 0, 1) := by decide +kernel
theorem dX5_chance_6 : decode cX5_chance 6 = .ok (.iload_n 1, 1) := by decide +kernel
theorem dX5_chance_7 : decode cX5_chance 7 = .ok (.invokevirtual 124, 3) := by decide +kernel
theorem dX5_chance_10 : decode cX5_chance 10 = .ok (.ifCond .eq 5, 3) := by decide +kernel
theorem dX5_chance_13 : decode cX5_chance 13 = .ok (.iconst (-1), 1) := by decide +kernel
theorem dX5_chance_14 : decode cX5_chance 14 = .ok (.ireturn, 1) := by decide +kernel
theorem dX5_chance_15 : decode cX5_chance 15 = .ok (.iload_n 2, 1) := by decide +kernel
theorem dX5_chance_16 : decode cX5_chance 16 = .ok (.i2l, 1) := by decide +kernel
theorem dX5_chance_17 : decode cX5_chance 17 = .ok (.lconst 0, 1) := by decide +kernel
theorem dX5_chance_18 : decode cX5_chance 18 = .ok (.ldc2_w 226, 3) := by decide +kernel
theorem dX5_chance_21 : decode cX5_chance 21 = .ok (.invokestatic 69, 3) := by decide +kernel
theorem dX5_chance_24 : decode cX5_chance 24 = .ok (.ifCond .eq 15, 3) := by decide +kernel
theorem dX5_chance_27 : decode cX5_chance 27 = .ok (.iload_n 3, 1) := by decide +kernel
theorem dX5_chance_28 : decode cX5_chance 28 = .ok (.i2l, 1) := by decide +kernel
theorem dX5_chance_29 : decode cX5_chance 29 = .ok (.lconst 0, 1) := by decide +kernel
theorem dX5_chance_30 : decode cX5_chance 30 = .ok (.ldc2_w 228, 3) := by decide +kernel
theorem dX5_chance_33 : decode cX5_chance 33 = .ok (.invokestatic 69, 3) := by decide +kernel
theorem dX5_chance_36 : decode cX5_chance 36 = .ok (.ifCond .ne 6, 3) := by decide +kernel
theorem dX5_chance_39 : decode cX5_chance 39 = .ok (.bipush (-2), 2) := by decide +kernel
theorem dX5_chance_41 : decode cX5_chance 41 = .ok (.ireturn, 1) := by decide +kernel
theorem dX5_chance_42 : decode cX5_chance 42 = .ok (.iconst 0, 1) := by decide +kernel
theorem dX5_chance_43 : decode cX5_chance 43 = .ok (.istore 5, 2) := by decide +kernel
theorem dX5_chance_45 : decode cX5_chance 45 = .ok (.iconst 0, 1) := by decide +kernel
theorem dX5_chance_46 : decode cX5_chance 46 = .ok (.istore 6, 2) := by decide +kernel
theorem dX5_chance_48 : decode cX5_chance 48 = .ok (.iload 6, 2) := by decide +kernel
theorem dX5_chance_50 : decode cX5_chance 50 = .ok (.iconst 1, 1) := by decide +kernel
theorem dX5_chance_51 : decode cX5_chance 51 = .ok (.aload_n 0, 1) := by decide +kernel
theorem dX5_chance_52 : decode cX5_chance 52 = .ok (.getfield 13, 3) := by decide +kernel
theorem dX5_chance_55 : decode cX5_chance 55 = .ok (.ishl, 1) := by decide +kernel
theorem dX5_chance_56 : decode cX5_chance 56 = .ok (.if_icmp .ge 151, 3) := by decide +kernel
theorem dX5_chance_59 : decode cX5_chance 59 = .ok (.iconst 0, 1) := by decide +kernel
theorem dX5_chance_60 : decode cX5_chance 60 = .ok (.istore 7, 2) := by decide +kernel
theorem dX5_chance_62 : decode cX5_chance 62 = .ok (.iconst 0, 1) := by decide +kernel
theorem dX5_chance_63 : decode cX5_chance 63 = .ok (.istore 8, 2) := by decide +kernel
theorem dX5_chance_65 : decode cX5_chance 65 = .ok (.iconst 1, 1) := by decide +kernel
theorem dX5_chance_66 : decode cX5_chance 66 = .ok (.istore 9, 2) := by decide +kernel
theorem dX5_chance_68 : decode cX5_chance 68 = .ok (.iconst 0, 1) := by decide +kernel
theorem dX5_chance_69 : decode cX5_chance 69 = .ok (.istore 10, 2) := by decide +kernel
theorem dX5_chance_71 : decode cX5_chance 71 = .ok (.iload 10, 2) := by decide +kernel
theorem dX5_chance_73 : decode cX5_chance 73 = .ok (.aload_n 0, 1) := by decide +kernel
theorem dX5_chance_74 : decode cX5_chance 74 = .ok (.getfield 13, 3) := by decide +kernel
theorem dX5_chance_77 : decode cX5_chance 77 = .ok (.if_icmp .ge 107, 3) := by decide +kernel
theorem dX5_chance_80 : decode cX5_chance 80 = .ok (.aload_n 0, 1) := by decide +kernel
theorem dX5_chance_81 : decode cX5_chance 81 = .ok (.getfield 29, 3) := by decide +kernel
theorem dX5_chance_84 : decode cX5_chance 84 = .ok (.iconst 0, 1) := by decide +kernel
theorem dX5_chance_85 : decode cX5_chance 85 = .ok (.iconst 4, 1) := by decide +kernel
theorem dX5_chance_86 : decode cX5_chance 86 = .ok (.iload_n 1, 1) := by decide +kernel
theorem dX5_chance_87 : decode cX5_chance 87 = .ok (.imul, 1) := by decide +kernel
theorem dX5_chance_88 : decode cX5_chance 88 = .ok (.iadd, 1) := by decide +kernel
theorem dX5_chance_89 : decode cX5_chance 89 = .ok (.iload 7, 2) := by decide +kernel
theorem dX5_chance_91 : decode cX5_chance 91 = .ok (.iadd, 1) := by decide +kernel
theorem dX5_chance_92 : decode cX5_chance 92 = .ok (.iaload, 1) := by decide +kernel
theorem dX5_chance_93 : decode cX5_chance 93 = .ok (.istore 11, 2) := by decide +kernel
theorem dX5_chance_95 : decode cX5_chance 95 = .ok (.iload 6, 2) := by decide +kernel
theorem dX5_chance_97 : decode cX5_chance 97 = .ok (.iload 10, 2) := by decide +kernel
theorem dX5_chance_99 : decode cX5_chance 99 = .ok (.invokestatic 141, 3) := by decide +kernel
theorem dX5_chance_102 : decode cX5_chance 102 = .ok (.istore 12, 2) := by decide +kernel
theorem dX5_chance_104 : decode cX5_chance 104 = .ok (.iload 8, 2) := by decide +kernel
theorem dX5_chance_106 : decode cX5_chance 106 = .ok (.aload_n 0, 1) := by decide +kernel
theorem dX5_chance_107 : decode cX5_chance 107 = .ok (.aload_n 0, 1) := by decide +kernel
theorem dX5_chance_108 : decode cX5_chance 108 = .ok (.getfield 29, 3) := by decide +kernel
theorem dX5_chance_111 : decode cX5_chance 111 = .ok (.iload_n 1, 1) := by decide +kernel
theorem dX5_chance_112 : decode cX5_chance 112 = .ok (.iload 10, 2) := by decide +kernel
theorem dX5_chance_114 : decode cX5_chance 114 = .ok (.iload 7, 2) := by decide +kernel
theorem dX5_chance_116 : decode cX5_chance 116 = .ok (.invokevirtual 114, 3) := by decide +kernel
theorem dX5_chance_119 : decode cX5_chance 119 = .ok (.iadd, 1) := by decide +kernel
theorem dX5_chance_120 : decode cX5_chance 120 = .ok (.istore 8, 2) := by decide +kernel
theorem dX5_chance_122 : decode cX5_chance 122 = .ok (.iload 9, 2) := by decide +kernel
theorem dX5_chance_124 : decode cX5_chance 124 = .ok (.iload 11, 2) := by decide +kernel
theorem dX5_chance_126 : decode cX5_chance 126 = .ok (.iconst 2, 1) := by decide +kernel
theorem dX5_chance_127 : decode cX5_chance 127 = .ok (.if_icmp .ne 17, 3) := by decide +kernel
theorem dX5_chance_130 : decode cX5_chance 130 = .ok (.iload 12, 2) := by decide +kernel
theorem dX5_chance_132 : decode cX5_chance 132 = .ok (.ifCond .eq 7, 3) := by decide +kernel
theorem dX5_chance_135 : decode cX5_chance 135 = .ok (.iconst 0, 1) := by decide +kernel
theorem dX5_chance_136 : decode cX5_chance 136 = .ok (.goto 21, 3) := by decide +kernel
theorem dX5_chance_139 : decode cX5_chance 139 = .ok (.bipush 10, 2) := by decide +kernel
theorem dX5_chance_141 : decode cX5_chance 141 = .ok (.goto 16, 3) := by decide +kernel
theorem dX5_chance_144 : decode cX5_chance 144 = .ok (.iload 12, 2) := by decide +kernel
theorem dX5_chance_146 : decode cX5_chance 146 = .ok (.ifCond .eq 7, 3) := by decide +kernel
theorem dX5_chance_149 : decode cX5_chance 149 = .ok (.iload_n 3, 1) := by decide +kernel
theorem dX5_chance_150 : decode cX5_chance 150 = .ok (.goto 7, 3) := by decide +kernel
theorem dX5_chance_153 : decode cX5_chance 153 = .ok (.bipush 10, 2) := by decide +kernel
theorem dX5_chance_155 : decode cX5_chance 155 = .ok (.iload_n 3, 1) := by decide +kernel
theorem dX5_chance_156 : decode cX5_chance 156 = .ok (.isub, 1) := by decide +kernel
theorem dX5_chance_157 : decode cX5_chance 157 = .ok (.imul, 1) := by decide +kernel
theorem dX5_chance_158 : decode cX5_chance 158 = .ok (.istore 9, 2) := by decide +kernel
theorem dX5_chance_160 : decode cX5_chance 160 = .ok (.iload 7, 2) := by decide +kernel
theorem dX5_chance_162 : decode cX5_chance 162 = .ok (.iload 12, 2) := by decide +kernel
theorem dX5_chance_164 : decode cX5_chance 164 = .ok (.ifCond .eq 7, 3) := by decide +kernel
theorem dX5_chance_167 : decode cX5_chance 167 = .ok (.iconst 2, 1) := by decide +kernel
theorem dX5_chance_168 : decode cX5_chance 168 = .ok (.goto 5, 3) := by decide +kernel
theorem dX5_chance_171 : decode cX5_chance 171 = .ok (.iload 11, 2) := by decide +kernel
theorem dX5_chance_173 : decode cX5_chance 173 = .ok (.invokestatic 118, 3) := by decide +kernel
theorem dX5_chance_176 : decode cX5_chance 176 = .ok (.istore 7, 2) := by decide +kernel
theorem dX5_chance_178 : decode cX5_chance 178 = .ok (.iinc 10 1, 3) := by decide +kernel
theorem dX5_chance_181 : decode cX5_chance 181 = .ok (.goto (-110), 3) := by decide +kernel
theorem dX5_chance_184 : decode cX5_chance 184 = .ok (.iload 5, 2) := by decide +kernel
theorem dX5_chance_186 : decode cX5_chance 186 = .ok (.iload 8, 2) := by decide +kernel
theorem dX5_chance_188 : decode cX5_chance 188 = .ok (.iload_n 2, 1) := by decide +kernel
theorem dX5_chance_189 : decode cX5_chance 189 = .ok (.if_icmp .gt 8, 3) := by decide +kernel
theorem dX5_chance_192 : decode cX5_chance 192 = .ok (.iload 9, 2) := by decide +kernel
theorem dX5_chance_194 : decode cX5_chance 194 = .ok (.goto 4, 3) := by decide +kernel
theorem dX5_chance_197 : decode cX5_chance 197 = .ok (.iconst 0, 1) := by decide +kernel
theorem dX5_chance_198 : decode cX5_chance 198 = .ok (.iadd, 1) := by decide +kernel
theorem dX5_chance_199 : decode cX5_chance 199 = .ok (.istore 5, 2) := by decide +kernel
theorem dX5_chance_201 : decode cX5_chance 201 = .ok (.iinc 6 1, 3) := by decide +kernel
theorem dX5_chance_204 : decode cX5_chance 204 = .ok (.goto (-156), 3) := by decide +kernel
theorem dX5_chance_207 : decode cX5_chance 207 = .ok (.iload 5, 2) := by decide +kernel
theorem dX5_chance_209 : decode cX5_chance 209 = .ok (.bipush 10, 2) := by decide +kernel
theorem dX5_chance_211 : decode cX5_chance 211 = .ok (.aload_n 0, 1) := by decide +kernel
theorem dX5_chance_212 : decode cX5_chance 212 = .ok (.getfield 13, 3) := by decide +kernel
theorem dX5_chance_215 : decode cX5_chance 215 = .ok (.invokestatic 187, 3) := by decide +kernel
theorem dX5_chance_218 : decode cX5_chance 218 = .ok (.iload 4, 2) := by decide +kernel
theorem dX5_chance_220 : decode cX5_chance 220 = .ok (.invokestatic 203, 3) := by decide +kernel
theorem dX5_chance_223 : decode cX5_chance 223 = .ok (.ireturn, 1) := by decide +kernel
theorem dX5_seed_0 : decode cX5_seed 0 = .ok (.aload_n 0, 1) := by decide +kernel
theorem dX5_seed_1 : decode cX5_seed 1 = .ok (.iconst 0, 1) := by decide +kernel
theorem dX5_seed_2 : decode cX5_seed 2 = .ok (.putfield 63, 3) := by decide +kernel
theorem dX5_seed_5 : decode cX5_seed 5 = .ok (.aload_n 0, 1) := by decide +kernel
theorem dX5_seed_6 : decode cX5_seed 6 = .ok (.getfield 230, 3) := by decide +kernel
theorem dX5_seed_9 : decode cX5_seed 9 = .ok (.lstore_n 3, 1) := by decide +kernel
theorem dX5_seed_10 : decode cX5_seed 10 = .ok (.aload_n 0, 1) := by decide +kernel
theorem dX5_seed_11 : decode cX5_seed 11 = .ok (.lload_n 1, 1) := by decide +kernel
theorem dX5_seed_12 : decode cX5_seed 12 = .ok (.putfield 230, 3) := by decide +kernel
theorem dX5_seed_15 : decode cX5_seed 15 = .ok (.lload_n 3, 1) := by decide +kernel
theorem dX5_seed_16 : decode cX5_seed 16 = .ok (.lreturn, 1) := by decide +kernel
set_option maxRecDepth 20000 in
theorem ggX5_days_X5_in : GoodIn wsX5_days wsX5_in := goodIn_r _ [12] (by decide +kernel) (by decide +kernel)
set_option maxRecDepth 20000 in
theorem gX5_days_X5_in : GoodIn wsX5_days (va_wsS RX5 69 yX5_in wsX5_in) := goodIn_app (goodIn_of _ (by decide +kernel)) ggX5_days_X5_in
set_option maxRecDepth 20000 in
theorem ggX5_days_X5_copy : GoodIn wsX5_days wsX5_copy := goodIn_r _ [15] (by decide +kernel) (by decide +kernel)
set_option maxRecDepth 20000 in
theorem gX5_days_X5_copy : GoodIn wsX5_days (va_wsS RX5 190 yX5_copy wsX5_copy) := goodIn_app (goodIn_of _ (by decide +kernel)) ggX5_days_X5_copy
set_option maxRecDepth 20000 in
theorem ggX5_days_X5_noLegger : GoodIn wsX5_days wsX5_noLegger := goodIn_r _ [19, 20, 9, 10, 11, 12, 70, 71, 72, 73, 74, 75, 76, 77, 78, 79, 80, 81, 82, 83, 84, 85, 86, 87, 88, 89, 90, 91, 92, 93, 94, 95, 96, 97, 98, 99, 100, 101, 102, 103, 104, 105, 106] (by decide +kernel) (by decide +kernel)
set_option maxRecDepth 20000 in
theorem gX5_days_X5_noLegger : GoodIn wsX5_days (wsV RX5 124 RX5 yX5_noLegger wsX5_noLegger) := goodIn_app (goodIn_of _ (by decide +kernel)) ggX5_days_X5_noLegger
set_option maxRecDepth 20000 in
theorem ggX5_days_X5_findSoonest : GoodIn wsX5_days wsX5_findSoonest := goodIn_r _ [24, 25, 4, 26, 27, 28, 29, 30, 31, 32, 33, 34, 11, 35, 20, 36, 37, 38, 39, 40, 41, 13, 14, 15, 42, 43, 44, 45, 46, 47, 48, 49, 50, 51, 52, 53, 54, 55, 56, 57, 58, 59, 60, 61, 62, 63, 64, 65, 70, 71, 72, 73, 74, 75, 76, 77, 78, 79, 80, 81, 82, 83, 84, 85, 86, 87, 88, 89, 90, 91, 92, 93, 94, 95, 96, 97, 98, 99, 100, 101, 102, 103, 104, 105, 106] (by decide +kernel) (by decide +kernel)
set_option maxRecDepth 20000 in
theorem gX5_days_X5_findSoonest : GoodIn wsX5_days (wsV RX5 194 RX5 yX5_findSoonest wsX5_findSoonest) := goodIn_app (goodIn_of _ (by decide +kernel)) ggX5_days_X5_findSoonest
set_option maxRecDepth 20000 in
theorem ggX5_days_X5_goSoonest : GoodIn wsX5_days wsX5_goSoonest := goodIn_r _ [69, 25, 28, 4, 39, 40, 11, 41, 45, 46, 47, 48, 49, 50, 51, 52, 53, 54, 55, 56, 57, 58, 59, 60, 61, 62, 63, 64, 65, 70, 71, 72, 73, 74, 75, 76, 77, 78, 79, 80, 81, 82, 83, 84, 85, 86, 87, 88, 89, 90, 91, 92, 93, 94, 95, 96, 97, 98, 99, 100, 101, 102, 103, 104, 105, 106] (by decide +kernel) (by decide +kernel)
set_option maxRecDepth 20000 in
theorem gX5_days_X5_goSoonest : GoodIn wsX5_days (wsV RX5 242 RX5 yX5_goSoonest wsX5_goSoonest) := goodIn_app (goodIn_of _ (by decide +kernel)) ggX5_days_X5_goSoonest
theorem dX5_days_0 : decode cX5_days 0 = .ok (.aload_n 0, 1) := by decide +kernel
theorem dX5_days_1 : decode cX5_days 1 = .ok (.iconst 0, 1) := by decide +kernel
theorem dX5_days_2 : decode cX5_days 2 = .ok (.putfield 63, 3) := by decide +kernel
theorem dX5_days_5 : decode cX5_days 5 = .ok (.iload_n 1, 1) := by decide +kernel
theorem dX5_days_6 : decode cX5_days 6 = .ok (.i2l, 1) := by decide +kernel
theorem dX5_days_7 : decode cX5_days 7 = .ok (.lconst 1, 1) := by decide +kernel
theorem dX5_days_8 : decode cX5_days 8 = .ok (.ldc2_w 234, 3) := by decide +kernel
theorem dX5_days_11 : decode cX5_days 11 = .ok (.invokestatic 69, 3) := by decide +kernel
theorem dX5_days_14 : decode cX5_days 14 = .ok (.ifCond .ne 6, 3) := by decide +kernel
theorem dX5_days_17 : decode cX5_days 17 = .ok (.bipush (-2), 2) := by decide +kernel
theorem dX5_days_19 : decode cX5_days 19 = .ok (.ireturn, 1) := by decide +kernel
theorem dX5_days_20 : decode cX5_days 20 = .ok (.aload_n 0, 1) := by decide +kernel
theorem dX5_days_21 : decode cX5_days 21 = .ok (.getfield 29, 3) := by decide +kernel
theorem dX5_days_24 : decode cX5_days 24 = .ok (.aload_n 0, 1) := by decide +kernel
theorem dX5_days_25 : decode cX5_days 25 = .ok (.getfield 35, 3) := by decide +kernel
theorem dX5_days_28 : decode cX5_days 28 = .ok (.invokestatic 190, 3) := by decide +kernel
theorem dX5_days_31 : decode cX5_days 31 = .ok (.iconst 0, 1) := by decide +kernel
theorem dX5_days_32 : decode cX5_days 32 = .ok (.istore_n 2, 1) := by decide +kernel
theorem dX5_days_33 : decode cX5_days 33 = .ok (.iload_n 2, 1) := by decide +kernel
theorem dX5_days_34 : decode cX5_days 34 = .ok (.iload_n 1, 1) := by decide +kernel
theorem dX5_days_35 : decode cX5_days 35 = .ok (.if_icmp .ge 110, 3) := by decide +kernel
theorem dX5_days_38 : decode cX5_days 38 = .ok (.aload_n 0, 1) := by decide +kernel
theorem dX5_days_39 : decode cX5_days 39 = .ok (.aload_n 0, 1) := by decide +kernel
theorem dX5_days_40 : decode cX5_days 40 = .ok (.getfield 230, 3) := by decide +kernel
theorem dX5_days_43 : decode cX5_days 43 = .ok (.ldc2_w 236, 3) := by decide +kernel
theorem dX5_days_46 : decode cX5_days 46 = .ok (.lmul, 1) := by decide +kernel
theorem dX5_days_47 : decode cX5_days 47 = .ok (.ldc2_w 238, 3) := by decide +kernel
theorem dX5_days_50 : decode cX5_days 50 = .ok (.ladd, 1) := by decide +kernel
theorem dX5_days_51 : decode cX5_days 51 = .ok (.putfield 230, 3) := by decide +kernel
theorem dX5_days_54 : decode cX5_days 54 = .ok (.aload_n 0, 1) := by decide +kernel
theorem dX5_days_55 : decode cX5_days 55 = .ok (.getfield 230, 3) := by decide +kernel
theorem dX5_days_58 : decode cX5_days 58 = .ok (.bipush 33, 2) := by decide +kernel
theorem dX5_days_60 : decode cX5_days 60 = .ok (.lushr, 1) := by decide +kernel
theorem dX5_days_61 : decode cX5_days 61 = .ok (.ldc2_w 240, 3) := by decide +kernel
theorem dX5_days_64 : decode cX5_days 64 = .ok (.lrem, 1) := by decide +kernel
theorem dX5_days_65 : decode cX5_days 65 = .ok (.l2i, 1) := by decide +kernel
theorem dX5_days_66 : decode cX5_days 66 = .ok (.istore_n 3, 1) := by decide +kernel
theorem dX5_days_67 : decode cX5_days 67 = .ok (.iload_n 3, 1) := by decide +kernel
theorem dX5_days_68 : decode cX5_days 68 = .ok (.iconst 4, 1) := by decide +kernel
theorem dX5_days_69 : decode cX5_days 69 = .ok (.idiv, 1) := by decide +kernel
theorem dX5_days_70 : decode cX5_days 70 = .ok (.iconst 4, 1) := by decide +kernel
theorem dX5_days_71 : decode cX5_days 71 = .ok (.if_icmp .ge 52, 3) := by decide +kernel
theorem dX5_days_74 : decode cX5_days 74 = .ok (.aload_n 0, 1) := by decide +kernel
theorem dX5_days_75 : decode cX5_days 75 = .ok (.getfield 35, 3) := by decide +kernel
theorem dX5_days_78 : decode cX5_days 78 = .ok (.iconst 0, 1) := by decide +kernel
theorem dX5_days_79 : decode cX5_days 79 = .ok (.iconst 4, 1) := by decide +kernel
theorem dX5_days_80 : decode cX5_days 80 = .ok (.iload_n 3, 1) := by decide +kernel
theorem dX5_days_81 : decode cX5_days 81 = .ok (.iconst 4, 1) := by decide +kernel
theorem dX5_days_82 : decode cX5_days 82 = .ok (.irem, 1) := by decide +kernel
theorem dX5_days_83 : decode cX5_days 83 = .ok (.imul, 1) := by decide +kernel
theorem dX5_days_84 : decode cX5_days 84 = .ok (.iadd, 1) := by decide +kernel
theorem dX5_days_85 : decode cX5_days 85 = .ok (.iload_n 3, 1) := by decide +kernel
theorem dX5_days_86 : decode cX5_days 86 = .ok (.iconst 4, 1) := by decide +kernel
theorem dX5_days_87 : decode cX5_days 87 = .ok (.idiv, 1) := by decide +kernel
theorem dX5_days_88 : decode cX5_days 88 = .ok (.iadd, 1) := by decide +kernel
theorem dX5_days_89 : decode cX5_days 89 = .ok (.aload_n 0, 1) := by decide +kernel
theorem dX5_days_90 : decode cX5_days 90 = .ok (.iload_n 3, 1) := by decide +kernel
theorem dX5_days_91 : decode cX5_days 91 = .ok (.iconst 4, 1) := by decide +kernel
theorem dX5_days_92 : decode cX5_days 92 = .ok (.irem, 1) := by decide +kernel
theorem dX5_days_93 : decode cX5_days 93 = .ok (.invokevirtual 124, 3) := by decide +kernel
theorem dX5_days_96 : decode cX5_days 96 = .ok (.ifCond .eq 22, 3) := by decide +kernel
theorem dX5_days_99 : decode cX5_days 99 = .ok (.aload_n 0, 1) := by decide +kernel
theorem dX5_days_100 : decode cX5_days 100 = .ok (.getfield 35, 3) := by decide +kernel
theorem dX5_days_103 : decode cX5_days 103 = .ok (.iconst 0, 1) := by decide +kernel
theorem dX5_days_104 : decode cX5_days 104 = .ok (.iconst 4, 1) := by decide +kernel
theorem dX5_days_105 : decode cX5_days 105 = .ok (.iload_n 3, 1) := by decide +kernel
theorem dX5_days_106 : decode cX5_days 106 = .ok (.iconst 4, 1) := by decide +kernel
theorem dX5_days_107 : decode cX5_days 107 = .ok (.irem, 1) := by decide +kernel
theorem dX5_days_108 : decode cX5_days 108 = .ok (.imul, 1) := by decide +kernel
theorem dX5_days_109 : decode cX5_days 109 = .ok (.iadd, 1) := by decide +kernel
theorem dX5_days_110 : decode cX5_days 110 = .ok (.iload_n 3, 1) := by decide +kernel
theorem dX5_days_111 : decode cX5_days 111 = .ok (.iconst 4, 1) := by decide +kernel
theorem dX5_days_112 : decode cX5_days 112 = .ok (.idiv, 1) := by decide +kernel
theorem dX5_days_113 : decode cX5_days 113 = .ok (.iadd, 1) := by decide +kernel
theorem dX5_days_114 : decode cX5_days 114 = .ok (.iaload, 1) := by decide +kernel
theorem dX5_days_115 : decode cX5_days 115 = .ok (.goto 4, 3) := by decide +kernel
theorem dX5_days_118 : decode cX5_days 118 = .ok (.iconst 2, 1) := by decide +kernel
theorem dX5_days_119 : decode cX5_days 119 = .ok (.iastore, 1) := by decide +kernel
theorem dX5_days_120 : decode cX5_days 120 = .ok (.goto 19, 3) := by decide +kernel
theorem dX5_days_123 : decode cX5_days 123 = .ok (.aload_n 0, 1) := by decide +kernel
theorem dX5_days_124 : decode cX5_days 124 = .ok (.getfield 35, 3) := by decide +kernel
theorem dX5_days_127 : decode cX5_days 127 = .ok (.bipush 20, 2) := by decide +kernel
theorem dX5_days_129 : decode cX5_days 129 = .ok (.iconst 0, 1) := by decide +kernel
theorem dX5_days_130 : decode cX5_days 130 = .ok (.iastore, 1) := by decide +kernel
theorem dX5_days_131 : decode cX5_days 131 = .ok (.aload_n 0, 1) := by decide +kernel
theorem dX5_days_132 : decode cX5_days 132 = .ok (.invokevirtual 194, 3) := by decide +kernel
theorem dX5_days_135 : decode cX5_days 135 = .ok (.aload_n 0, 1) := by decide +kernel
theorem dX5_days_136 : decode cX5_days 136 = .ok (.invokevirtual 242, 3) := by decide +kernel
theorem dX5_days_139 : decode cX5_days 139 = .ok (.iinc 2 1, 3) := by decide +kernel
theorem dX5_days_142 : decode cX5_days 142 = .ok (.goto (-109), 3) := by decide +kernel
theorem dX5_days_145 : decode cX5_days 145 = .ok (.aload_n 0, 1) := by decide +kernel
theorem dX5_days_146 : decode cX5_days 146 = .ok (.getfield 35, 3) := by decide +kernel
theorem dX5_days_149 : decode cX5_days 149 = .ok (.bipush 21, 2) := by decide +kernel
theorem dX5_days_151 : decode cX5_days 151 = .ok (.iaload, 1) := by decide +kernel
theorem dX5_days_152 : decode cX5_days 152 = .ok (.aload_n 0, 1) := by decide +kernel
theorem dX5_days_153 : decode cX5_days 153 = .ok (.getfield 29, 3) := by decide +kernel
theorem dX5_days_156 : decode cX5_days 156 = .ok (.bipush 21, 2) := by decide +kernel
theorem dX5_days_158 : decode cX5_days 158 = .ok (.iaload, 1) := by decide +kernel
theorem dX5_days_159 : decode cX5_days 159 = .ok (.isub, 1) := by decide +kernel
theorem dX5_days_160 : decode cX5_days 160 = .ok (.ireturn, 1) := by decide +kernel
set_option maxRecDepth 20000 in
theorem ggX5_goSoonest_X5_power : GoodIn wsX5_goSoonest wsX5_power := goodIn_r _ [7] (by decide +kernel) (by decide +kernel)
set_option maxRecDepth 20000 in
theorem gX5_goSoonest_X5_power : GoodIn wsX5_goSoonest (va_wsS RX5 187 yX5_power wsX5_power) := goodIn_app (goodIn_of _ (by decide +kernel)) ggX5_goSoonest_X5_power
set_option maxRecDepth 20000 in
theorem ggX5_goSoonest_X5_goLeg : GoodIn wsX5_goSoonest wsX5_goLeg := goodIn_r _ [11, 12, 13, 14, 15, 6, 16, 17, 18, 19, 20, 21, 22, 23, 24, 25, 26, 27, 28, 29, 30, 31, 32, 33, 34, 35, 36, 37, 38, 39, 40, 41, 42, 43, 44, 45, 46, 47, 48, 49, 50, 51, 52, 53, 54, 55, 56, 57, 58, 59, 60, 61, 62, 63, 64, 65] (by decide +kernel) (by decide +kernel)
set_option maxRecDepth 20000 in
theorem gX5_goSoonest_X5_goLeg : GoodIn wsX5_goSoonest (wsV RX5 148 RX5 yX5_goLeg wsX5_goLeg) := goodIn_app (goodIn_of _ (by decide +kernel)) ggX5_goSoonest_X5_goLeg
theorem dX5_goSoonest_0 : decode cX5_goSoonest 0 = .ok (.aload_n 0, 1) := by decide +kernel
theorem dX5_goSoonest_1 : decode cX5_goSoonest 1 = .ok (.getfield 73, 3) := by decide +kernel
theorem dX5_goSoonest_4 : decode cX5_goSoonest 4 = .ok (.iconst 1, 1) := by decide +kernel
theorem dX5_goSoonest_5 : decode cX5_goSoonest 5 = .ok (.isub, 1) := by decide +kernel
theorem dX5_goSoonest_6 : decode cX5_goSoonest 6 = .ok (.istore_n 1, 1) := by decide +kernel
theorem dX5_goSoonest_7 : decode cX5_goSoonest 7 = .ok (.iload_n 1, 1) := by decide +kernel
theorem dX5_goSoonest_8 : decode cX5_goSoonest 8 = .ok (.ifCond .lt 58, 3) := by decide +kernel
theorem dX5_goSoonest_11 : decode cX5_goSoonest 11 = .ok (.aload_n 0, 1) := by decide +kernel
theorem dX5_goSoonest_12 : decode cX5_goSoonest 12 = .ok (.getfield 184, 3) := by decide +kernel
theorem dX5_goSoonest_15 : decode cX5_goSoonest 15 = .ok (.bipush (-9), 2) := by decide +kernel
theorem dX5_goSoonest_17 : decode cX5_goSoonest 17 = .ok (.if_icmp .eq 49, 3) := by decide +kernel
theorem dX5_goSoonest_20 : decode cX5_goSoonest 20 = .ok (.aload_n 0, 1) := by decide +kernel
theorem dX5_goSoonest_21 : decode cX5_goSoonest 21 = .ok (.getfield 184, 3) := by decide +kernel
theorem dX5_goSoonest_24 : decode cX5_goSoonest 24 = .ok (.sipush 1000, 3) := by decide +kernel
theorem dX5_goSoonest_27 : decode cX5_goSoonest 27 = .ok (.iload_n 1, 1) := by decide +kernel
theorem dX5_goSoonest_28 : decode cX5_goSoonest 28 = .ok (.invokestatic 187, 3) := by decide +kernel
theorem dX5_goSoonest_31 : decode cX5_goSoonest 31 = .ok (.idiv, 1) := by decide +kernel
theorem dX5_goSoonest_32 : decode cX5_goSoonest 32 = .ok (.sipush 1000, 3) := by decide +kernel
theorem dX5_goSoonest_35 : decode cX5_goSoonest 35 = .ok (.irem, 1) := by decide +kernel
theorem dX5_goSoonest_36 : decode cX5_goSoonest 36 = .ok (.istore_n 2, 1) := by decide +kernel
theorem dX5_goSoonest_37 : decode cX5_goSoonest 37 = .ok (.aload_n 0, 1) := by decide +kernel
theorem dX5_goSoonest_38 : decode cX5_goSoonest 38 = .ok (.aload_n 0, 1) := by decide +kernel
theorem dX5_goSoonest_39 : decode cX5_goSoonest 39 = .ok (.getfield 35, 3) := by decide +kernel
theorem dX5_goSoonest_42 : decode cX5_goSoonest 42 = .ok (.iload_n 2, 1) := by decide +kernel
theorem dX5_goSoonest_43 : decode cX5_goSoonest 43 = .ok (.bipush 100, 2) := by decide +kernel
theorem dX5_goSoonest_45 : decode cX5_goSoonest 45 = .ok (.idiv, 1) := by decide +kernel
theorem dX5_goSoonest_46 : decode cX5_goSoonest 46 = .ok (.iload_n 2, 1) := by decide +kernel
theorem dX5_goSoonest_47 : decode cX5_goSoonest 47 = .ok (.bipush 10, 2) := by decide +kernel
theorem dX5_goSoonest_49 : decode cX5_goSoonest 49 = .ok (.idiv, 1) := by decide +kernel
theorem dX5_goSoonest_50 : decode cX5_goSoonest 50 = .ok (.bipush 10, 2) := by decide +kernel
theorem dX5_goSoonest_52 : decode cX5_goSoonest 52 = .ok (.irem, 1) := by decide +kernel
theorem dX5_goSoonest_53 : decode cX5_goSoonest 53 = .ok (.iload_n 2, 1) := by decide +kernel
theorem dX5_goSoonest_54 : decode cX5_goSoonest 54 = .ok (.bipush 10, 2) := by decide +kernel
theorem dX5_goSoonest_56 : decode cX5_goSoonest 56 = .ok (.irem, 1) := by decide +kernel
theorem dX5_goSoonest_57 : decode cX5_goSoonest 57 = .ok (.invokevirtual 148, 3) := by decide +kernel
theorem dX5_goSoonest_60 : decode cX5_goSoonest 60 = .ok (.iinc 1 (-1), 3) := by decide +kernel
theorem dX5_goSoonest_63 : decode cX5_goSoonest 63 = .ok (.goto (-56), 3) := by decide +kernel
theorem dX5_goSoonest_66 : decode cX5_goSoonest 66 = .ok (.return_, 1) := by decide +kernel
set_option maxRecDepth 20000 in
theorem ggX5_keep_X5_in : GoodIn wsX5_keep wsX5_in := goodIn_r _ [8] (by decide +kernel) (by decide +kernel)
set_option maxRecDepth 20000 in
theorem gX5_keep_X5_in : GoodIn wsX5_keep (va_wsS RX5 69 yX5_in wsX5_in) := goodIn_app (goodIn_of _ (by decide +kernel)) ggX5_keep_X5_in
theorem dX5_keep_0 : decode cX5_keep 0 = .ok (.aload_n 0, 1) := by decide +kernel
theorem dX5_keep_1 : decode cX5_keep 1 = .ok (.iconst 0, 1) := by decide +kernel
theorem dX5_keep_2 : decode cX5_keep 2 = .ok (.putfield 63, 3) := by decide +kernel
theorem dX5_keep_5 : decode cX5_keep 5 = .ok (.iload_n 1, 1) := by decide +kernel
theorem dX5_keep_6 : decode cX5_keep 6 = .ok (.i2l, 1) := by decide +kernel
theorem dX5_keep_7 : decode cX5_keep 7 = .ok (.lconst 0, 1) := by decide +kernel
theorem dX5_keep_8 : decode cX5_keep 8 = .ok (.lconst 1, 1) := by decide +kernel
theorem dX5_keep_9 : decode cX5_keep 9 = .ok (.invokestatic 69, 3) := by decide +kernel
theorem dX5_keep_12 : decode cX5_keep 12 = .ok (.ifCond .ne 5, 3) := by decide +kernel
theorem dX5_keep_15 : decode cX5_keep 15 = .ok (.iconst (-1), 1) := by decide +kernel
theorem dX5_keep_16 : decode cX5_keep 16 = .ok (.ireturn, 1) := by decide +kernel
theorem dX5_keep_17 : decode cX5_keep 17 = .ok (.aload_n 0, 1) := by decide +kernel
theorem dX5_keep_18 : decode cX5_keep 18 = .ok (.getfield 44, 3) := by decide +kernel
theorem dX5_keep_21 : decode cX5_keep 21 = .ok (.iload_n 1, 1) := by decide +kernel
theorem dX5_keep_22 : decode cX5_keep 22 = .ok (.iconst 1, 1) := by decide +kernel
theorem dX5_keep_23 : decode cX5_keep 23 = .ok (.bastore, 1) := by decide +kernel
theorem dX5_keep_24 : decode cX5_keep 24 = .ok (.iconst 0, 1) := by decide +kernel
theorem dX5_keep_25 : decode cX5_keep 25 = .ok (.istore_n 2, 1) := by decide +kernel
theorem dX5_keep_26 : decode cX5_keep 26 = .ok (.iload_n 2, 1) := by decide +kernel
theorem dX5_keep_27 : decode cX5_keep 27 = .ok (.bipush 22, 2) := by decide +kernel
theorem dX5_keep_29 : decode cX5_keep 29 = .ok (.if_icmp .ge 26, 3) := by decide +kernel
theorem dX5_keep_32 : decode cX5_keep 32 = .ok (.aload_n 0, 1) := by decide +kernel
theorem dX5_keep_33 : decode cX5_keep 33 = .ok (.getfield 41, 3) := by decide +kernel
theorem dX5_keep_36 : decode cX5_keep 36 = .ok (.bipush 22, 2) := by decide +kernel
theorem dX5_keep_38 : decode cX5_keep 38 = .ok (.iload_n 1, 1) := by decide +kernel
theorem dX5_keep_39 : decode cX5_keep 39 = .ok (.imul, 1) := by decide +kernel
theorem dX5_keep_40 : decode cX5_keep 40 = .ok (.iload_n 2, 1) := by decide +kernel
theorem dX5_keep_41 : decode cX5_keep 41 = .ok (.iadd, 1) := by decide +kernel
theorem dX5_keep_42 : decode cX5_keep 42 = .ok (.aload_n 0, 1) := by decide +kernel
theorem dX5_keep_43 : decode cX5_keep 43 = .ok (.getfield 29, 3) := by decide +kernel
theorem dX5_keep_46 : decode cX5_keep 46 = .ok (.iload_n 2, 1) := by decide +kernel
theorem dX5_keep_47 : decode cX5_keep 47 = .ok (.iaload, 1) := by decide +kernel
theorem dX5_keep_48 : decode cX5_keep 48 = .ok (.iastore, 1) := by decide +kernel
theorem dX5_keep_49 : decode cX5_keep 49 = .ok (.iinc 2 1, 3) := by decide +kernel
theorem dX5_keep_52 : decode cX5_keep 52 = .ok (.goto (-26), 3) := by decide +kernel
theorem dX5_keep_55 : decode cX5_keep 55 = .ok (.aload_n 0, 1) := by decide +kernel
theorem dX5_keep_56 : decode cX5_keep 56 = .ok (.getfield 29, 3) := by decide +kernel
theorem dX5_keep_59 : decode cX5_keep 59 = .ok (.bipush 21, 2) := by decide +kernel
theorem dX5_keep_61 : decode cX5_keep 61 = .ok (.iaload, 1) := by decide +kernel
theorem dX5_keep_62 : decode cX5_keep 62 = .ok (.ireturn, 1) := by decide +kernel
set_option maxRecDepth 20000 in
theorem ggX5_again_X5_in : GoodIn wsX5_again wsX5_in := goodIn_r _ [9] (by decide +kernel) (by decide +kernel)
set_option maxRecDepth 20000 in
theorem gX5_again_X5_in : GoodIn wsX5_again (va_wsS RX5 69 yX5_in wsX5_in) := goodIn_app (goodIn_of _ (by decide +kernel)) ggX5_again_X5_in
theorem dX5_again_0 : decode cX5_again 0 = .ok (.aload_n 0, 1) := by decide +kernel
theorem dX5_again_1 : decode cX5_again 1 = .ok (.iconst 0, 1) := by decide +kernel
theorem dX5_again_2 : decode cX5_again 2 = .ok (.putfield 63, 3) := by decide +kernel
theorem dX5_again_5 : decode cX5_again 5 = .ok (.iload_n 1, 1) := by decide +kernel
theorem dX5_again_6 : decode cX5_again 6 = .ok (.i2l, 1) := by decide +kernel
theorem dX5_again_7 : decode cX5_again 7 = .ok (.lconst 0, 1) := by decide +kernel
theorem dX5_again_8 : decode cX5_again 8 = .ok (.lconst 1, 1) := by decide +kernel
theorem dX5_again_9 : decode cX5_again 9 = .ok (.invokestatic 69, 3) := by decide +kernel
theorem dX5_again_12 : decode cX5_again 12 = .ok (.ifCond .ne 5, 3) := by decide +kernel
theorem dX5_again_15 : decode cX5_again 15 = .ok (.iconst (-1), 1) := by decide +kernel
theorem dX5_again_16 : decode cX5_again 16 = .ok (.ireturn, 1) := by decide +kernel
theorem dX5_again_17 : decode cX5_again 17 = .ok (.aload_n 0, 1) := by decide +kernel
theorem dX5_again_18 : decode cX5_again 18 = .ok (.getfield 44, 3) := by decide +kernel
theorem dX5_again_21 : decode cX5_again 21 = .ok (.iload_n 1, 1) := by decide +kernel
theorem dX5_again_22 : decode cX5_again 22 = .ok (.baload, 1) := by decide +kernel
theorem dX5_again_23 : decode cX5_again 23 = .ok (.ifCond .ne 6, 3) := by decide +kernel
theorem dX5_again_26 : decode cX5_again 26 = .ok (.bipush (-3), 2) := by decide +kernel
theorem dX5_again_28 : decode cX5_again 28 = .ok (.ireturn, 1) := by decide +kernel
theorem dX5_again_29 : decode cX5_again 29 = .ok (.iconst 0, 1) := by decide +kernel
theorem dX5_again_30 : decode cX5_again 30 = .ok (.istore_n 2, 1) := by decide +kernel
theorem dX5_again_31 : decode cX5_again 31 = .ok (.iload_n 2, 1) := by decide +kernel
theorem dX5_again_32 : decode cX5_again 32 = .ok (.bipush 22, 2) := by decide +kernel
theorem dX5_again_34 : decode cX5_again 34 = .ok (.if_icmp .ge 26, 3) := by decide +kernel
theorem dX5_again_37 : decode cX5_again 37 = .ok (.aload_n 0, 1) := by decide +kernel
theorem dX5_again_38 : decode cX5_again 38 = .ok (.getfield 29, 3) := by decide +kernel
theorem dX5_again_41 : decode cX5_again 41 = .ok (.iload_n 2, 1) := by decide +kernel
theorem dX5_again_42 : decode cX5_again 42 = .ok (.aload_n 0, 1) := by decide +kernel
theorem dX5_again_43 : decode cX5_again 43 = .ok (.getfield 41, 3) := by decide +kernel
theorem dX5_again_46 : decode cX5_again 46 = .ok (.bipush 22, 2) := by decide +kernel
theorem dX5_again_48 : decode cX5_again 48 = .ok (.iload_n 1, 1) := by decide +kernel
theorem dX5_again_49 : decode cX5_again 49 = .ok (.imul, 1) := by decide +kernel
theorem dX5_again_50 : decode cX5_again 50 = .ok (.iload_n 2, 1) := by decide +kernel
theorem dX5_again_51 : decode cX5_again 51 = .ok (.iadd, 1) := by decide +kernel
theorem dX5_again_52 : decode cX5_again 52 = .ok (.iaload, 1) := by decide +kernel
theorem dX5_again_53 : decode cX5_again 53 = .ok (.iastore, 1) := by decide +kernel
theorem dX5_again_54 : decode cX5_again 54 = .ok (.iinc 2 1, 3) := by decide +kernel
theorem dX5_again_57 : decode cX5_again 57 = .ok (.goto (-26), 3) := by decide +kernel
theorem dX5_again_60 : decode cX5_again 60 = .ok (.aload_n 0, 1) := by decide +kernel
theorem dX5_again_61 : decode cX5_again 61 = .ok (.iconst 0, 1) := by decide +kernel
theorem dX5_again_62 : decode cX5_again 62 = .ok (.putfield 107, 3) := by decide +kernel
theorem dX5_again_65 : decode cX5_again 65 = .ok (.aload_n 0, 1) := by decide +kernel
theorem dX5_again_66 : decode cX5_again 66 = .ok (.getfield 29, 3) := by decide +kernel
theorem dX5_again_69 : decode cX5_again 69 = .ok (.bipush 21, 2) := by decide +kernel
theorem dX5_again_71 : decode cX5_again 71 = .ok (.iaload, 1) := by decide +kernel
theorem dX5_again_72 : decode cX5_again 72 = .ok (.ireturn, 1) := by decide +kernel
theorem dJ6_bitCount_0f7a4_0 : decode cJ6_bitCount_0f7a4 0 = .ok (.iload_n 0, 1) := by decide +kernel
theorem dJ6_bitCount_0f7a4_1 : decode cJ6_bitCount_0f7a4 1 = .ok (.iload_n 0, 1) := by decide +kernel
theorem dJ6_bitCount_0f7a4_2 : decode cJ6_bitCount_0f7a4 2 = .ok (.iconst 1, 1) := by decide +kernel
theorem dJ6_bitCount_0f7a4_3 : decode cJ6_bitCount_0f7a4 3 = .ok (.iushr, 1) := by decide +kernel
theorem dJ6_bitCount_0f7a4_4 : decode cJ6_bitCount_0f7a4 4 = .ok (.ldc_w 265, 3) := by decide +kernel
theorem dJ6_bitCount_0f7a4_7 : decode cJ6_bitCount_0f7a4 7 = .ok (.iand, 1) := by decide +kernel
theorem dJ6_bitCount_0f7a4_8 : decode cJ6_bitCount_0f7a4 8 = .ok (.isub, 1) := by decide +kernel
theorem dJ6_bitCount_0f7a4_9 : decode cJ6_bitCount_0f7a4 9 = .ok (.istore_n 0, 1) := by decide +kernel
theorem dJ6_bitCount_0f7a4_10 : decode cJ6_bitCount_0f7a4 10 = .ok (.iload_n 0, 1) := by decide +kernel
theorem dJ6_bitCount_0f7a4_11 : decode cJ6_bitCount_0f7a4 11 = .ok (.ldc_w 266, 3) := by decide +kernel
theorem dJ6_bitCount_0f7a4_14 : decode cJ6_bitCount_0f7a4 14 = .ok (.iand, 1) := by decide +kernel
theorem dJ6_bitCount_0f7a4_15 : decode cJ6_bitCount_0f7a4 15 = .ok (.iload_n 0, 1) := by decide +kernel
theorem dJ6_bitCount_0f7a4_16 : decode cJ6_bitCount_0f7a4 16 = .ok (.iconst 2, 1) := by decide +kernel
theorem dJ6_bitCount_0f7a4_17 : decode cJ6_bitCount_0f7a4 17 = .ok (.iushr, 1) := by decide +kernel
theorem dJ6_bitCount_0f7a4_18 : decode cJ6_bitCount_0f7a4 18 = .ok (.ldc_w 266, 3) := by decide +kernel
theorem dJ6_bitCount_0f7a4_21 : decode cJ6_bitCount_0f7a4 21 = .ok (.iand, 1) := by decide +kernel
theorem dJ6_bitCount_0f7a4_22 : decode cJ6_bitCount_0f7a4 22 = .ok (.iadd, 1) := by decide +kernel
theorem dJ6_bitCount_0f7a4_23 : decode cJ6_bitCount_0f7a4 23 = .ok (.istore_n 0, 1) := by decide +kernel
theorem dJ6_bitCount_0f7a4_24 : decode cJ6_bitCount_0f7a4 24 = .ok (.iload_n 0, 1) := by decide +kernel
theorem dJ6_bitCount_0f7a4_25 : decode cJ6_bitCount_0f7a4 25 = .ok (.iload_n 0, 1) := by decide +kernel
theorem dJ6_bitCount_0f7a4_26 : decode cJ6_bitCount_0f7a4 26 = .ok (.iconst 4, 1) := by decide +kernel
theorem dJ6_bitCount_0f7a4_27 : decode cJ6_bitCount_0f7a4 27 = .ok (.iushr, 1) := by decide +kernel
theorem dJ6_bitCount_0f7a4_28 : decode cJ6_bitCount_0f7a4 28 = .ok (.iadd, 1) := by decide +kernel
theorem dJ6_bitCount_0f7a4_29 : decode cJ6_bitCount_0f7a4 29 = .ok (.ldc_w 267, 3) := by decide +kernel
theorem dJ6_bitCount_0f7a4_32 : decode cJ6_bitCount_0f7a4 32 = .ok (.iand, 1) := by decide +kernel
theorem dJ6_bitCount_0f7a4_33 : decode cJ6_bitCount_0f7a4 33 = .ok (.istore_n 0, 1) := by decide +kernel
theorem dJ6_bitCount_0f7a4_34 : decode cJ6_bitCount_0f7a4 34 = .ok (.iload_n 0, 1) := by decide +kernel
theorem dJ6_bitCount_0f7a4_35 : decode cJ6_bitCount_0f7a4 35 = .ok (.iload_n 0, 1) := by decide +kernel
theorem dJ6_bitCount_0f7a4_36 : decode cJ6_bitCount_0f7a4 36 = .ok (.bipush 8, 2) := by decide +kernel
theorem dJ6_bitCount_0f7a4_38 : decode cJ6_bitCount_0f7a4 38 = .ok (.iushr, 1) := by decide +kernel
theorem dJ6_bitCount_0f7a4_39 : decode cJ6_bitCount_0f7a4 39 = .ok (.iadd, 1) := by decide +kernel
theorem dJ6_bitCount_0f7a4_40 : decode cJ6_bitCount_0f7a4 40 = .ok (.istore_n 0, 1) := by decide +kernel
theorem dJ6_bitCount_0f7a4_41 : decode cJ6_bitCount_0f7a4 41 = .ok (.iload_n 0, 1) := by decide +kernel
theorem dJ6_bitCount_0f7a4_42 : decode cJ6_bitCount_0f7a4 42 = .ok (.iload_n 0, 1) := by decide +kernel
theorem dJ6_bitCount_0f7a4_43 : decode cJ6_bitCount_0f7a4 43 = .ok (.bipush 16, 2) := by decide +kernel
theorem dJ6_bitCount_0f7a4_45 : decode cJ6_bitCount_0f7a4 45 = .ok (.iushr, 1) := by decide +kernel
theorem dJ6_bitCount_0f7a4_46 : decode cJ6_bitCount_0f7a4 46 = .ok (.iadd, 1) := by decide +kernel
theorem dJ6_bitCount_0f7a4_47 : decode cJ6_bitCount_0f7a4 47 = .ok (.istore_n 0, 1) := by decide +kernel
theorem dJ6_bitCount_0f7a4_48 : decode cJ6_bitCount_0f7a4 48 = .ok (.iload_n 0, 1) := by decide +kernel
theorem dJ6_bitCount_0f7a4_49 : decode cJ6_bitCount_0f7a4 49 = .ok (.bipush 63, 2) := by decide +kernel
theorem dJ6_bitCount_0f7a4_51 : decode cJ6_bitCount_0f7a4 51 = .ok (.iand, 1) := by decide +kernel
theorem dJ6_bitCount_0f7a4_52 : decode cJ6_bitCount_0f7a4 52 = .ok (.ireturn, 1) := by decide +kernel
theorem dJ9_max_7cf53_0 : decode cJ9_max_7cf53 0 = .ok (.iload_n 0, 1) := by decide +kernel
theorem dJ9_max_7cf53_1 : decode cJ9_max_7cf53 1 = .ok (.iload_n 1, 1) := by decide +kernel
theorem dJ9_max_7cf53_2 : decode cJ9_max_7cf53 2 = .ok (.if_icmp .lt 7, 3) := by decide +kernel
theorem dJ9_max_7cf53_5 : decode cJ9_max_7cf53 5 = .ok (.iload_n 0, 1) := by decide +kernel
theorem dJ9_max_7cf53_6 : decode cJ9_max_7cf53 6 = .ok (.goto 4, 3) := by decide +kernel
theorem dJ9_max_7cf53_9 : decode cJ9_max_7cf53 9 = .ok (.iload_n 1, 1) := by decide +kernel
theorem dJ9_max_7cf53_10 : decode cJ9_max_7cf53 10 = .ok (.ireturn, 1) := by decide +kernel
theorem dJ9_min_7cf53_0 : decode cJ9_min_7cf53 0 = .ok (.iload_n 0, 1) := by decide +kernel
theorem dJ9_min_7cf53_1 : decode cJ9_min_7cf53 1 = .ok (.iload_n 1, 1) := by decide +kernel
theorem dJ9_min_7cf53_2 : decode cJ9_min_7cf53 2 = .ok (.if_icmp .gt 7, 3) := by decide +kernel
theorem dJ9_min_7cf53_5 : decode cJ9_min_7cf53 5 = .ok (.iload_n 0, 1) := by decide +kernel
theorem dJ9_min_7cf53_6 : decode cJ9_min_7cf53 6 = .ok (.goto 4, 3) := by decide +kernel
theorem dJ9_min_7cf53_9 : decode cJ9_min_7cf53 9 = .ok (.iload_n 1, 1) := by decide +kernel
theorem dJ9_min_7cf53_10 : decode cJ9_min_7cf53 10 = .ok (.ireturn, 1) := by decide +kernel
theorem dJ9_min_f86c9_0 : decode cJ9_min_f86c9 0 = .ok (.lload_n 0, 1) := by decide +kernel
theorem dJ9_min_f86c9_1 : decode cJ9_min_f86c9 1 = .ok (.lload_n 2, 1) := by decide +kernel
theorem dJ9_min_f86c9_2 : decode cJ9_min_f86c9 2 = .ok (.lcmp, 1) := by decide +kernel
theorem dJ9_min_f86c9_3 : decode cJ9_min_f86c9 3 = .ok (.ifCond .gt 7, 3) := by decide +kernel
theorem dJ9_min_f86c9_6 : decode cJ9_min_f86c9 6 = .ok (.lload_n 0, 1) := by decide +kernel
theorem dJ9_min_f86c9_7 : decode cJ9_min_f86c9 7 = .ok (.goto 4, 3) := by decide +kernel
theorem dJ9_min_f86c9_10 : decode cJ9_min_f86c9 10 = .ok (.lload_n 2, 1) := by decide +kernel
theorem dJ9_min_f86c9_11 : decode cJ9_min_f86c9 11 = .ok (.lreturn, 1) := by decide +kernel
set_option maxRecDepth 20000 in
theorem ggL_law_X4_init : GoodIn wsL_law wsX4_init := goodIn_r _ [9, 10, 11, 12, 13, 14, 15, 16, 17, 18, 19, 20, 21, 22, 23, 24, 25, 26, 27, 28, 29, 30, 31, 32, 33, 34, 35, 36, 37, 38, 39, 40, 41, 42, 43, 44, 45, 46, 705, 706, 658, 659, 660, 661, 662, 663, 664, 665, 666, 667, 707, 708, 709, 710, 711, 712, 713, 714, 715, 716, 717, 718] (by decide +kernel) (by decide +kernel)
set_option maxRecDepth 20000 in
theorem gL_law_X4_init : GoodIn wsL_law (wsX4_init) := ggL_law_X4_init
set_option maxRecDepth 20000 in
theorem ggL_law_X5_init : GoodIn wsL_law wsX5_init := goodIn_r _ [49, 50, 11, 12, 29, 51, 52, 53, 54, 55, 56, 57, 58, 59, 60, 61, 62, 63, 64, 65, 66, 67, 68, 668, 669, 670, 671, 672, 673, 674, 675, 676, 677, 678, 679, 680, 681, 682, 683, 684, 685, 686, 687, 688, 689, 690, 691, 692, 693, 694, 695, 696, 697, 698, 699, 700, 701, 702, 703, 704] (by decide +kernel) (by decide +kernel)
set_option maxRecDepth 20000 in
theorem gL_law_X5_init : GoodIn wsL_law (wsX5_init) := ggL_law_X5_init
set_option maxRecDepth 20000 in
theorem ggL_law_X4_write : GoodIn wsL_law wsX4_write := goodIn_r _ [72, 16, 73, 74, 75, 15, 76, 77, 35, 658, 659, 660, 661, 662, 663, 664, 665, 666, 667, 705, 706] (by decide +kernel) (by decide +kernel)
set_option maxRecDepth 20000 in
theorem gL_law_X4_write : GoodIn wsL_law (wsV RL 13 RX4 yX4_write wsX4_write) := goodIn_app (goodIn_of _ (by decide +kernel)) ggL_law_X4_write
set_option maxRecDepth 20000 in
theorem ggL_law_X5_write : GoodIn wsL_law wsX5_write := goodIn_r _ [81, 82, 83, 84, 51, 85, 86, 5, 87, 668, 669, 670, 671, 672, 673, 674, 675, 676, 677, 678, 679, 680, 681, 682, 683, 684, 685, 686, 687, 688, 689, 690, 691, 692, 693, 694, 695, 696, 697, 698, 699, 700, 701, 702, 703, 704] (by decide +kernel) (by decide +kernel)
set_option maxRecDepth 20000 in
theorem gL_law_X5_write : GoodIn wsL_law (wsV RL 17 RX5 yX5_write wsX5_write) := goodIn_app (goodIn_of _ (by decide +kernel)) ggL_law_X5_write
set_option maxRecDepth 20000 in
theorem ggL_law_X4_wipe : GoodIn wsL_law wsX4_wipe := goodIn_r _ [91, 16, 658, 659, 660, 661, 662, 663, 664, 665, 666, 667, 705, 706] (by decide +kernel) (by decide +kernel)
set_option maxRecDepth 20000 in
theorem gL_law_X4_wipe : GoodIn wsL_law (wsV RL 18 RX4 yX4_wipe wsX4_wipe) := goodIn_app (goodIn_of _ (by decide +kernel)) ggL_law_X4_wipe
set_option maxRecDepth 20000 in
theorem ggL_law_X5_wipe : GoodIn wsL_law wsX5_wipe := goodIn_r _ [95, 82, 84, 668, 669, 670, 671, 672, 673, 674, 675, 676, 677, 678, 679, 680, 681, 682, 683, 684, 685, 686, 687, 688, 689, 690, 691, 692, 693, 694, 695, 696, 697, 698, 699, 700, 701, 702, 703, 704] (by decide +kernel) (by decide +kernel)
set_option maxRecDepth 20000 in
theorem gL_law_X5_wipe : GoodIn wsL_law (wsV RL 22 RX5 yX5_wipe wsX5_wipe) := goodIn_app (goodIn_of _ (by decide +kernel)) ggL_law_X5_wipe
set_option maxRecDepth 20000 in
theorem ggL_law_X4_fault : GoodIn wsL_law wsX4_fault := goodIn_r _ [99, 16, 100, 101, 102, 15, 103, 77, 104, 105, 106, 107, 35, 658, 659, 660, 661, 662, 663, 664, 665, 666, 667, 705, 706] (by decide +kernel) (by decide +kernel)
set_option maxRecDepth 20000 in
theorem gL_law_X4_fault : GoodIn wsL_law (wsV RL 23 RX4 yX4_fault wsX4_fault) := goodIn_app (goodIn_of _ (by decide +kernel)) ggL_law_X4_fault
set_option maxRecDepth 20000 in
theorem ggL_law_X5_fault : GoodIn wsL_law wsX5_fault := goodIn_r _ [111, 82, 112, 113, 114, 5, 115, 116, 117, 118, 84, 51, 119, 120, 121, 122, 123, 85, 86, 87, 124, 125, 126, 127, 56, 128, 129, 130, 131, 55, 668, 669, 670, 671, 672, 673, 674, 675, 676, 677, 678, 679, 680, 681, 682, 683, 684, 685, 686, 687, 688, 689, 690, 691, 692, 693, 694, 695, 696, 697, 698, 699, 700, 701, 702, 703, 704] (by decide +kernel) (by decide +kernel)
set_option maxRecDepth 20000 in
theorem gL_law_X5_fault : GoodIn wsL_law (wsV RL 26 RX5 yX5_fault wsX5_fault) := goodIn_app (goodIn_of _ (by decide +kernel)) ggL_law_X5_fault
set_option maxRecDepth 20000 in
theorem ggL_law_X4_tunnel : GoodIn wsL_law wsX4_tunnel := goodIn_r _ [135, 16, 28, 136, 20, 100, 101, 102, 15, 103, 77, 104, 105, 106, 107, 35, 137, 138, 139, 2, 140, 24, 141, 142, 143, 144, 145, 146, 147, 19, 148, 39, 149, 150, 151, 152, 153, 154, 155, 23, 156, 157, 158, 159, 160, 161, 162, 163, 164, 165, 166, 167, 168, 169, 170, 171, 172, 173, 174, 175, 176, 27, 177, 178, 658, 659, 660, 661, 662, 663, 664, 665, 666, 667, 707, 708, 709, 710, 711, 705, 706, 712, 713, 714, 715, 716, 717, 718] (by decide +kernel) (by decide +kernel)
set_option maxRecDepth 20000 in
theorem gL_law_X4_tunnel : GoodIn wsL_law (wsV RL 27 RX4 yX4_tunnel wsX4_tunnel) := goodIn_app (goodIn_of _ (by decide +kernel)) ggL_law_X4_tunnel
set_option maxRecDepth 20000 in
theorem ggL_law_X5_tunnel : GoodIn wsL_law wsX5_tunnel := goodIn_r _ [182, 82, 119, 52, 117, 183, 118, 184, 57, 53, 55, 54, 56, 185, 63, 112, 113, 114, 5, 115, 116, 84, 51, 120, 121, 122, 123, 85, 86, 87, 124, 125, 126, 127, 128, 129, 130, 131, 668, 669, 670, 671, 672, 673, 674, 675, 676, 677, 678, 679, 680, 681, 682, 683, 684, 685, 686, 687, 688, 689, 690, 691, 692, 693, 694, 695, 696, 697, 698, 699, 700, 701, 702, 703, 704] (by decide +kernel) (by decide +kernel)
set_option maxRecDepth 20000 in
theorem gL_law_X5_tunnel : GoodIn wsL_law (wsV RL 30 RX5 yX5_tunnel wsX5_tunnel) := goodIn_app (goodIn_of _ (by decide +kernel)) ggL_law_X5_tunnel
set_option maxRecDepth 20000 in
theorem ggL_law_X4_about : GoodIn wsL_law wsX4_about := goodIn_r _ [189, 20, 24, 28, 190, 16, 658, 659, 660, 661, 662, 663, 664, 665, 666, 667, 707, 708, 709, 710, 711, 712, 713, 714, 715, 716, 717, 718, 705, 706] (by decide +kernel) (by decide +kernel)
set_option maxRecDepth 20000 in
theorem gL_law_X4_about : GoodIn wsL_law (wsV RL 31 RX4 yX4_about wsX4_about) := goodIn_app (goodIn_of _ (by decide +kernel)) ggL_law_X4_about
set_option maxRecDepth 20000 in
theorem ggL_law_X5_about : GoodIn wsL_law wsX5_about := goodIn_r _ [194, 82, 52, 183, 184, 57, 185, 195, 84, 668, 669, 670, 671, 672, 673, 674, 675, 676, 677, 678, 679, 680, 681, 682, 683, 684, 685, 686, 687, 688, 689, 690, 691, 692, 693, 694, 695, 696, 697, 698, 699, 700, 701, 702, 703, 704] (by decide +kernel) (by decide +kernel)
set_option maxRecDepth 20000 in
theorem gL_law_X5_about : GoodIn wsL_law (wsV RL 34 RX5 yX5_about wsX5_about) := goodIn_app (goodIn_of _ (by decide +kernel)) ggL_law_X5_about
set_option maxRecDepth 20000 in
theorem ggL_law_X4_legger : GoodIn wsL_law wsX4_legger := goodIn_r _ [199, 20, 24, 200, 201, 202, 19, 203, 149, 204, 205, 2, 206, 207, 208, 209, 23, 210, 157, 211, 212, 213, 214, 215, 216, 151, 217, 218, 219, 658, 659, 660, 661, 662, 663, 664, 665, 666, 667, 712, 713, 714, 715, 707, 708, 709, 710, 711] (by decide +kernel) (by decide +kernel)
set_option maxRecDepth 20000 in
theorem gL_law_X4_legger : GoodIn wsL_law (wsV RL 35 RX4 yX4_legger wsX4_legger) := goodIn_app (goodIn_of _ (by decide +kernel)) ggL_law_X4_legger
set_option maxRecDepth 20000 in
theorem ggL_law_X5_legger : GoodIn wsL_law wsX5_legger := goodIn_r _ [223, 82, 224, 57, 53, 225, 226, 227, 5, 228, 183, 85, 86, 87, 668, 669, 670, 671, 672, 673, 674, 675, 676, 677, 678, 679, 680, 681, 682, 683, 684, 685, 686, 687, 688, 689, 690, 691, 692, 693, 694, 695, 696, 697, 698, 699, 700, 701, 702, 703, 704] (by decide +kernel) (by decide +kernel)
set_option maxRecDepth 20000 in
theorem gL_law_X5_legger : GoodIn wsL_law (wsV RL 39 RX5 yX5_legger wsX5_legger) := goodIn_app (goodIn_of _ (by decide +kernel)) ggL_law_X5_legger
set_option maxRecDepth 20000 in
theorem ggL_law_X4_load : GoodIn wsL_law wsX4_load := goodIn_r _ [232, 20, 233, 234, 235, 19, 236, 150, 237, 238, 239, 240, 152, 658, 659, 660, 661, 662, 663, 664, 665, 666, 667, 707, 708, 709, 710, 711] (by decide +kernel) (by decide +kernel)
set_option maxRecDepth 20000 in
theorem gL_law_X4_load : GoodIn wsL_law (wsV RL 40 RX4 yX4_load wsX4_load) := goodIn_app (goodIn_of _ (by decide +kernel)) ggL_law_X4_load
set_option maxRecDepth 20000 in
theorem ggL_law_X5_load : GoodIn wsL_law wsX5_load := goodIn_r _ [244, 82, 54, 245, 246, 247, 5, 248, 184, 85, 86, 87, 668, 669, 670, 671, 672, 673, 674, 675, 676, 677, 678, 679, 680, 681, 682, 683, 684, 685, 686, 687, 688, 689, 690, 691, 692, 693, 694, 695, 696, 697, 698, 699, 700, 701, 702, 703, 704] (by decide +kernel) (by decide +kernel)
set_option maxRecDepth 20000 in
theorem gL_law_X5_load : GoodIn wsL_law (wsV RL 43 RX5 yX5_load wsX5_load) := goodIn_app (goodIn_of _ (by decide +kernel)) ggL_law_X5_load
set_option maxRecDepth 20000 in
theorem ggL_law_X4_leg : GoodIn wsL_law wsX4_leg := goodIn_r _ [252, 24, 28, 20, 253, 254, 255, 2, 256, 233, 234, 235, 19, 236, 150, 200, 201, 202, 203, 149, 257, 258, 259, 260, 261, 262, 27, 263, 178, 264, 46, 265, 266, 267, 23, 268, 157, 158, 159, 160, 269, 270, 271, 272, 273, 274, 275, 276, 207, 208, 209, 210, 211, 212, 277, 278, 279, 280, 281, 282, 283, 213, 214, 215, 216, 151, 217, 218, 219, 284, 285, 286, 237, 238, 239, 240, 152, 287, 288, 289, 290, 291, 292, 658, 659, 660, 661, 662, 663, 664, 665, 666, 667, 712, 713, 714, 715, 707, 708, 709, 710, 711, 716, 717, 718] (by decide +kernel) (by decide +kernel)
set_option maxRecDepth 20000 in
theorem gL_law_X4_leg : GoodIn wsL_law (wsV RL 44 RX4 yX4_leg wsX4_leg) := goodIn_app (goodIn_of _ (by decide +kernel)) ggL_law_X4_leg
set_option maxRecDepth 20000 in
theorem ggL_law_X5_leg : GoodIn wsL_law wsX5_leg := goodIn_r _ [296, 82, 57, 297, 298, 299, 5, 300, 245, 246, 247, 248, 184, 85, 86, 87, 225, 226, 227, 228, 183, 301, 302, 303, 304, 305, 306, 307, 185, 60, 308, 309, 310, 311, 54, 312, 313, 314, 315, 52, 316, 317, 318, 319, 53, 320, 321, 322, 323, 324, 325, 668, 669, 670, 671, 672, 673, 674, 675, 676, 677, 678, 679, 680, 681, 682, 683, 684, 685, 686, 687, 688, 689, 690, 691, 692, 693, 694, 695, 696, 697, 698, 699, 700, 701, 702, 703, 704] (by decide +kernel) (by decide +kernel)
set_option maxRecDepth 20000 in
theorem gL_law_X5_leg : GoodIn wsL_law (wsV RL 48 RX5 yX5_leg wsX5_leg) := goodIn_app (goodIn_of _ (by decide +kernel)) ggL_law_X5_leg
set_option maxRecDepth 20000 in
theorem ggL_law_X4_rest : GoodIn wsL_law wsX4_rest := goodIn_r _ [329, 20, 24, 28, 200, 201, 202, 19, 203, 149, 217, 218, 2, 219, 260, 261, 262, 27, 263, 178, 264, 46, 265, 266, 267, 23, 268, 157, 158, 159, 160, 658, 659, 660, 661, 662, 663, 664, 665, 666, 667, 712, 713, 714, 715, 707, 708, 709, 710, 711, 716, 717, 718] (by decide +kernel) (by decide +kernel)
set_option maxRecDepth 20000 in
theorem gL_law_X4_rest : GoodIn wsL_law (wsV RL 49 RX4 yX4_rest wsX4_rest) := goodIn_app (goodIn_of _ (by decide +kernel)) ggL_law_X4_rest
set_option maxRecDepth 20000 in
theorem ggL_law_X5_rest : GoodIn wsL_law wsX5_rest := goodIn_r _ [333, 82, 57, 225, 226, 227, 5, 228, 183, 85, 86, 87, 304, 305, 306, 307, 185, 60, 668, 669, 670, 671, 672, 673, 674, 675, 676, 677, 678, 679, 680, 681, 682, 683, 684, 685, 686, 687, 688, 689, 690, 691, 692, 693, 694, 695, 696, 697, 698, 699, 700, 701, 702, 703, 704] (by decide +kernel) (by decide +kernel)
set_option maxRecDepth 20000 in
theorem gL_law_X5_rest : GoodIn wsL_law (wsV RL 52 RX5 yX5_rest wsX5_rest) := goodIn_app (goodIn_of _ (by decide +kernel)) ggL_law_X5_rest
set_option maxRecDepth 20000 in
theorem ggL_law_X4_wet : GoodIn wsL_law wsX4_wet := goodIn_r _ [337, 24, 28, 338, 339, 340, 2, 341, 20, 200, 201, 202, 19, 203, 149, 204, 205, 206, 207, 208, 209, 23, 210, 157, 211, 212, 260, 261, 262, 27, 263, 178, 264, 46, 265, 266, 267, 268, 158, 159, 160, 162, 163, 164, 165, 658, 659, 660, 661, 662, 663, 664, 665, 666, 667, 707, 708, 709, 710, 711, 712, 713, 714, 715, 716, 717, 718] (by decide +kernel) (by decide +kernel)
set_option maxRecDepth 20000 in
theorem gL_law_X4_wet : GoodIn wsL_law (wsV RL 53 RX4 yX4_wet wsX4_wet) := goodIn_app (goodIn_of _ (by decide +kernel)) ggL_law_X4_wet
set_option maxRecDepth 20000 in
theorem ggL_law_X5_wet : GoodIn wsL_law wsX5_wet := goodIn_r _ [345, 82, 224, 57, 225, 226, 227, 5, 228, 183, 85, 86, 87, 304, 305, 306, 307, 185, 60, 668, 669, 670, 671, 672, 673, 674, 675, 676, 677, 678, 679, 680, 681, 682, 683, 684, 685, 686, 687, 688, 689, 690, 691, 692, 693, 694, 695, 696, 697, 698, 699, 700, 701, 702, 703, 704] (by decide +kernel) (by decide +kernel)
set_option maxRecDepth 20000 in
theorem gL_law_X5_wet : GoodIn wsL_law (wsV RL 56 RX5 yX5_wet wsX5_wet) := goodIn_app (goodIn_of _ (by decide +kernel)) ggL_law_X5_wet
set_option maxRecDepth 20000 in
theorem ggL_law_X4_dry : GoodIn wsL_law wsX4_dry := goodIn_r _ [349, 24, 28, 338, 339, 340, 2, 341, 20, 200, 201, 202, 19, 203, 149, 204, 205, 206, 207, 208, 209, 23, 210, 157, 211, 212, 260, 261, 262, 27, 263, 178, 264, 46, 265, 266, 267, 268, 158, 159, 160, 162, 163, 164, 165, 350, 351, 352, 353, 354, 658, 659, 660, 661, 662, 663, 664, 665, 666, 667, 707, 708, 709, 710, 711, 712, 713, 714, 715, 716, 717, 718] (by decide +kernel) (by decide +kernel)
set_option maxRecDepth 20000 in
theorem gL_law_X4_dry : GoodIn wsL_law (wsV RL 57 RX4 yX4_dry wsX4_dry) := goodIn_app (goodIn_of _ (by decide +kernel)) ggL_law_X4_dry
set_option maxRecDepth 20000 in
theorem ggL_law_X5_dry : GoodIn wsL_law wsX5_dry := goodIn_r _ [358, 82, 224, 57, 225, 226, 227, 5, 228, 183, 85, 86, 87, 304, 305, 306, 307, 185, 60, 668, 669, 670, 671, 672, 673, 674, 675, 676, 677, 678, 679, 680, 681, 682, 683, 684, 685, 686, 687, 688, 689, 690, 691, 692, 693, 694, 695, 696, 697, 698, 699, 700, 701, 702, 703, 704] (by decide +kernel) (by decide +kernel)
set_option maxRecDepth 20000 in
theorem gL_law_X5_dry : GoodIn wsL_law (wsV RL 60 RX5 yX5_dry wsX5_dry) := goodIn_app (goodIn_of _ (by decide +kernel)) ggL_law_X5_dry
set_option maxRecDepth 20000 in
theorem ggL_law_X4_undo : GoodIn wsL_law wsX4_undo := goodIn_r _ [362, 28, 24, 363, 364, 365, 27, 366, 178, 46, 264, 367, 368, 369, 23, 370, 157, 158, 159, 160, 658, 659, 660, 661, 662, 663, 664, 665, 666, 667, 716, 717, 718, 712, 713, 714, 715] (by decide +kernel) (by decide +kernel)
set_option maxRecDepth 20000 in
theorem gL_law_X4_undo : GoodIn wsL_law (wsV RL 61 RX4 yX4_undo wsX4_undo) := goodIn_app (goodIn_of _ (by decide +kernel)) ggL_law_X4_undo
set_option maxRecDepth 20000 in
theorem ggL_law_X5_undo : GoodIn wsL_law wsX5_undo := goodIn_r _ [374, 82, 185, 57, 60, 668, 669, 670, 671, 672, 673, 674, 675, 676, 677, 678, 679, 680, 681, 682, 683, 684, 685, 686, 687, 688, 689, 690, 691, 692, 693, 694, 695, 696, 697, 698, 699, 700, 701, 702, 703, 704] (by decide +kernel) (by decide +kernel)
set_option maxRecDepth 20000 in
theorem gL_law_X5_undo : GoodIn wsL_law (wsV RL 64 RX5 yX5_undo wsX5_undo) := goodIn_app (goodIn_of _ (by decide +kernel)) ggL_law_X5_undo
set_option maxRecDepth 20000 in
theorem ggL_law_X4_alone : GoodIn wsL_law wsX4_alone := goodIn_r _ [378, 338, 339, 340, 2, 341, 20, 200, 201, 202, 19, 203, 149, 204, 205, 206, 379, 380, 381, 382, 24, 207, 208, 209, 23, 210, 157, 211, 212, 277, 278, 279, 280, 273, 274, 275, 276, 281, 282, 283, 213, 214, 215, 216, 151, 217, 218, 219, 284, 285, 286, 658, 659, 660, 661, 662, 663, 664, 665, 666, 667, 707, 708, 709, 710, 711, 712, 713, 714, 715] (by decide +kernel) (by decide +kernel)
set_option maxRecDepth 20000 in
theorem gL_law_X4_alone : GoodIn wsL_law (wsV RL 65 RX4 yX4_alone wsX4_alone) := goodIn_app (goodIn_of _ (by decide +kernel)) ggL_law_X4_alone
set_option maxRecDepth 20000 in
theorem ggL_law_X5_alone : GoodIn wsL_law wsX5_alone := goodIn_r _ [386, 82, 224, 52, 57, 225, 226, 227, 5, 228, 183, 85, 86, 87, 316, 317, 318, 319, 53, 320, 321, 322, 323, 324, 325, 668, 669, 670, 671, 672, 673, 674, 675, 676, 677, 678, 679, 680, 681, 682, 683, 684, 685, 686, 687, 688, 689, 690, 691, 692, 693, 694, 695, 696, 697, 698, 699, 700, 701, 702, 703, 704] (by decide +kernel) (by decide +kernel)
set_option maxRecDepth 20000 in
theorem gL_law_X5_alone : GoodIn wsL_law (wsV RL 68 RX5 yX5_alone wsX5_alone) := goodIn_app (goodIn_of _ (by decide +kernel)) ggL_law_X5_alone
set_option maxRecDepth 20000 in
theorem ggL_law_X4_time : GoodIn wsL_law wsX4_time := goodIn_r _ [390, 24, 20, 253, 254, 255, 2, 256, 233, 234, 235, 19, 236, 150, 200, 201, 202, 203, 149, 204, 205, 206, 269, 270, 271, 272, 273, 274, 275, 276, 207, 208, 209, 23, 210, 157, 211, 212, 277, 278, 279, 280, 281, 282, 283, 213, 214, 215, 216, 151, 217, 218, 219, 284, 285, 286, 237, 238, 239, 240, 152, 658, 659, 660, 661, 662, 663, 664, 665, 666, 667, 712, 713, 714, 715, 707, 708, 709, 710, 711] (by decide +kernel) (by decide +kernel)
set_option maxRecDepth 20000 in
theorem gL_law_X4_time : GoodIn wsL_law (wsV RL 69 RX4 yX4_time wsX4_time) := goodIn_app (goodIn_of _ (by decide +kernel)) ggL_law_X4_time
set_option maxRecDepth 20000 in
theorem ggL_law_X5_time : GoodIn wsL_law wsX5_time := goodIn_r _ [394, 82, 224, 57, 54, 297, 298, 299, 5, 300, 245, 246, 247, 248, 184, 85, 86, 87, 225, 226, 227, 228, 183, 312, 313, 314, 315, 52, 316, 317, 318, 319, 53, 320, 321, 322, 323, 324, 325, 668, 669, 670, 671, 672, 673, 674, 675, 676, 677, 678, 679, 680, 681, 682, 683, 684, 685, 686, 687, 688, 689, 690, 691, 692, 693, 694, 695, 696, 697, 698, 699, 700, 701, 702, 703, 704] (by decide +kernel) (by decide +kernel)
set_option maxRecDepth 20000 in
theorem gL_law_X5_time : GoodIn wsL_law (wsV RL 73 RX5 yX5_time wsX5_time) := goodIn_app (goodIn_of _ (by decide +kernel)) ggL_law_X5_time
set_option maxRecDepth 20000 in
theorem ggL_law_X4_best : GoodIn wsL_law wsX4_best := goodIn_r _ [398, 20, 233, 234, 235, 19, 236, 150, 399, 400, 401, 402, 149, 403, 404, 405, 2, 406, 24, 407, 408, 275, 409, 257, 258, 259, 269, 270, 271, 272, 273, 274, 276, 207, 208, 209, 23, 210, 157, 211, 212, 277, 278, 279, 280, 281, 282, 283, 213, 214, 215, 216, 151, 217, 218, 219, 284, 285, 286, 237, 238, 239, 240, 152, 658, 659, 660, 661, 662, 663, 664, 665, 666, 667, 707, 708, 709, 710, 711, 712, 713, 714, 715] (by decide +kernel) (by decide +kernel)
set_option maxRecDepth 20000 in
theorem gL_law_X4_best : GoodIn wsL_law (wsV RL 74 RX4 yX4_best wsX4_best) := goodIn_app (goodIn_of _ (by decide +kernel)) ggL_law_X4_best
set_option maxRecDepth 20000 in
theorem ggL_law_X5_best : GoodIn wsL_law wsX5_best := goodIn_r _ [413, 82, 414, 415, 245, 246, 247, 5, 248, 184, 85, 86, 87, 416, 417, 418, 419, 183, 57, 54, 312, 313, 314, 315, 52, 316, 317, 318, 319, 53, 320, 321, 322, 323, 324, 325, 301, 302, 303, 668, 669, 670, 671, 672, 673, 674, 675, 676, 677, 678, 679, 680, 681, 682, 683, 684, 685, 686, 687, 688, 689, 690, 691, 692, 693, 694, 695, 696, 697, 698, 699, 700, 701, 702, 703, 704] (by decide +kernel) (by decide +kernel)
set_option maxRecDepth 20000 in
theorem gL_law_X5_best : GoodIn wsL_law (wsV RL 77 RX5 yX5_best wsX5_best) := goodIn_app (goodIn_of _ (by decide +kernel)) ggL_law_X5_best
set_option maxRecDepth 20000 in
theorem ggL_law_X4_begin : GoodIn wsL_law wsX4_begin := goodIn_r _ [423, 20, 253, 254, 255, 2, 256, 233, 234, 235, 19, 236, 150, 200, 201, 202, 203, 149, 424, 425, 426, 427, 428, 24, 407, 408, 275, 409, 269, 270, 271, 272, 273, 274, 276, 207, 208, 209, 23, 210, 157, 211, 212, 277, 278, 279, 280, 281, 282, 283, 213, 214, 215, 216, 151, 217, 218, 219, 284, 285, 286, 237, 238, 239, 240, 152, 658, 659, 660, 661, 662, 663, 664, 665, 666, 667, 707, 708, 709, 710, 711, 712, 713, 714, 715] (by decide +kernel) (by decide +kernel)
set_option maxRecDepth 20000 in
theorem gL_law_X4_begin : GoodIn wsL_law (wsV RL 78 RX4 yX4_begin wsX4_begin) := goodIn_app (goodIn_of _ (by decide +kernel)) ggL_law_X4_begin
set_option maxRecDepth 20000 in
theorem ggL_law_X5_begin : GoodIn wsL_law wsX5_begin := goodIn_r _ [432, 82, 433, 434, 297, 298, 299, 5, 300, 245, 246, 247, 248, 184, 85, 86, 87, 225, 226, 227, 228, 183, 435, 436, 437, 438, 57, 54, 312, 313, 314, 315, 52, 316, 317, 318, 319, 53, 320, 321, 322, 323, 324, 325, 668, 669, 670, 671, 672, 673, 674, 675, 676, 677, 678, 679, 680, 681, 682, 683, 684, 685, 686, 687, 688, 689, 690, 691, 692, 693, 694, 695, 696, 697, 698, 699, 700, 701, 702, 703, 704] (by decide +kernel) (by decide +kernel)
set_option maxRecDepth 20000 in
theorem gL_law_X5_begin : GoodIn wsL_law (wsV RL 82 RX5 yX5_begin wsX5_begin) := goodIn_app (goodIn_of _ (by decide +kernel)) ggL_law_X5_begin
set_option maxRecDepth 20000 in
theorem ggL_law_X4_soonest : GoodIn wsL_law wsX4_soonest := goodIn_r _ [442, 443, 444, 445, 446, 447, 2, 448, 20, 24, 449, 450, 451, 452, 19, 453, 150, 454, 455, 456, 457, 458, 459, 275, 460, 257, 258, 259, 269, 270, 271, 272, 273, 274, 276, 207, 208, 209, 23, 210, 157, 211, 212, 277, 278, 279, 280, 281, 282, 283, 213, 214, 215, 216, 151, 217, 218, 219, 284, 285, 286, 237, 238, 239, 240, 152, 287, 288, 289, 290, 291, 292, 658, 659, 660, 661, 662, 663, 664, 665, 666, 667, 712, 713, 714, 715, 707, 708, 709, 710, 711] (by decide +kernel) (by decide +kernel)
set_option maxRecDepth 20000 in
theorem gL_law_X4_soonest : GoodIn wsL_law (wsV RL 83 RX4 yX4_soonest wsX4_soonest) := goodIn_app (goodIn_of _ (by decide +kernel)) ggL_law_X4_soonest
set_option maxRecDepth 20000 in
theorem ggL_law_X5_soonest : GoodIn wsL_law wsX5_soonest := goodIn_r _ [464, 82, 57, 59, 465, 466, 467, 468, 5, 469, 470, 471, 472, 473, 184, 474, 58, 67, 68, 475, 476, 477, 478, 183, 479, 480, 481, 482, 483, 484, 301, 302, 303, 308, 309, 310, 311, 54, 312, 313, 314, 315, 52, 316, 317, 318, 319, 53, 320, 321, 322, 323, 324, 325, 668, 669, 670, 671, 672, 673, 674, 675, 676, 677, 678, 679, 680, 681, 682, 683, 684, 685, 686, 687, 688, 689, 690, 691, 692, 693, 694, 695, 696, 697, 698, 699, 700, 701, 702, 703, 704] (by decide +kernel) (by decide +kernel)
set_option maxRecDepth 20000 in
theorem gL_law_X5_soonest : GoodIn wsL_law (wsV RL 87 RX5 yX5_soonest wsX5_soonest) := goodIn_app (goodIn_of _ (by decide +kernel)) ggL_law_X5_soonest
set_option maxRecDepth 20000 in
theorem ggL_law_X4_judge : GoodIn wsL_law wsX4_judge := goodIn_r _ [488, 24, 489, 490, 2, 491, 253, 254, 255, 256, 20, 233, 234, 235, 19, 236, 150, 200, 201, 202, 203, 149, 257, 258, 259, 658, 659, 660, 661, 662, 663, 664, 665, 666, 667, 712, 713, 714, 715, 707, 708, 709, 710, 711] (by decide +kernel) (by decide +kernel)
set_option maxRecDepth 20000 in
theorem gL_law_X4_judge : GoodIn wsL_law (wsV RL 88 RX4 yX4_judge wsX4_judge) := goodIn_app (goodIn_of _ (by decide +kernel)) ggL_law_X4_judge
set_option maxRecDepth 20000 in
theorem ggL_law_X5_judge : GoodIn wsL_law wsX5_judge := goodIn_r _ [495, 82, 224, 57, 85, 86, 5, 87, 482, 483, 484, 297, 298, 299, 300, 245, 246, 247, 248, 184, 225, 226, 227, 228, 183, 301, 302, 303, 668, 669, 670, 671, 672, 673, 674, 675, 676, 677, 678, 679, 680, 681, 682, 683, 684, 685, 686, 687, 688, 689, 690, 691, 692, 693, 694, 695, 696, 697, 698, 699, 700, 701, 702, 703, 704] (by decide +kernel) (by decide +kernel)
set_option maxRecDepth 20000 in
theorem gL_law_X5_judge : GoodIn wsL_law (wsV RL 91 RX5 yX5_judge wsX5_judge) := goodIn_app (goodIn_of _ (by decide +kernel)) ggL_law_X5_judge
set_option maxRecDepth 20000 in
theorem ggL_law_X4_share : GoodIn wsL_law wsX4_share := goodIn_r _ [499, 20, 200, 201, 202, 19, 203, 149, 233, 234, 235, 236, 150, 399, 400, 401, 402, 257, 258, 2, 259, 500, 501, 502, 503, 403, 404, 405, 406, 24, 407, 408, 275, 409, 269, 270, 271, 272, 273, 274, 276, 207, 208, 209, 23, 210, 157, 211, 212, 277, 278, 279, 280, 281, 282, 283, 213, 214, 215, 216, 151, 217, 218, 219, 284, 285, 286, 237, 238, 239, 240, 152, 504, 505, 506, 507, 508, 509, 510, 511, 512, 513, 514, 515, 516, 517, 518, 519, 520, 658, 659, 660, 661, 662, 663, 664, 665, 666, 667, 707, 708, 709, 710, 711, 712, 713, 714, 715] (by decide +kernel) (by decide +kernel)
set_option maxRecDepth 20000 in
theorem gL_law_X4_share : GoodIn wsL_law (wsV RL 92 RX4 yX4_share wsX4_share) := goodIn_app (goodIn_of _ (by decide +kernel)) ggL_law_X4_share
set_option maxRecDepth 20000 in
theorem ggL_law_X5_share : GoodIn wsL_law wsX5_share := goodIn_r _ [524, 82, 183, 66, 414, 415, 225, 226, 227, 5, 228, 85, 86, 87, 245, 246, 247, 248, 184, 416, 417, 418, 419, 57, 54, 312, 313, 314, 315, 52, 316, 317, 318, 319, 53, 320, 321, 322, 323, 324, 325, 301, 302, 303, 479, 480, 481, 525, 526, 527, 528, 529, 530, 531, 532, 533, 668, 669, 670, 671, 672, 673, 674, 675, 676, 677, 678, 679, 680, 681, 682, 683, 684, 685, 686, 687, 688, 689, 690, 691, 692, 693, 694, 695, 696, 697, 698, 699, 700, 701, 702, 703, 704] (by decide +kernel) (by decide +kernel)
set_option maxRecDepth 20000 in
theorem gL_law_X5_share : GoodIn wsL_law (wsV RL 96 RX5 yX5_share wsX5_share) := goodIn_app (goodIn_of _ (by decide +kernel)) ggL_law_X5_share
set_option maxRecDepth 20000 in
theorem ggL_law_X4_see : GoodIn wsL_law wsX4_see := goodIn_r _ [537, 190, 538, 658, 659, 660, 661, 662, 663, 664, 665, 666, 667] (by decide +kernel) (by decide +kernel)
set_option maxRecDepth 20000 in
theorem gL_law_X4_see : GoodIn wsL_law (wsV RL 97 RX4 yX4_see wsX4_see) := goodIn_app (goodIn_of _ (by decide +kernel)) ggL_law_X4_see
set_option maxRecDepth 20000 in
theorem ggL_law_X5_see : GoodIn wsL_law wsX5_see := goodIn_r _ [542, 82, 543, 224, 195, 64, 65, 85, 86, 5, 87, 668, 669, 670, 671, 672, 673, 674, 675, 676, 677, 678, 679, 680, 681, 682, 683, 684, 685, 686, 687, 688, 689, 690, 691, 692, 693, 694, 695, 696, 697, 698, 699, 700, 701, 702, 703, 704] (by decide +kernel) (by decide +kernel)
set_option maxRecDepth 20000 in
theorem gL_law_X5_see : GoodIn wsL_law (wsV RL 100 RX5 yX5_see wsX5_see) := goodIn_app (goodIn_of _ (by decide +kernel)) ggL_law_X5_see
set_option maxRecDepth 20000 in
theorem ggL_law_X4_unsee : GoodIn wsL_law wsX4_unsee := goodIn_r _ [547, 190, 538, 658, 659, 660, 661, 662, 663, 664, 665, 666, 667] (by decide +kernel) (by decide +kernel)
set_option maxRecDepth 20000 in
theorem gL_law_X4_unsee : GoodIn wsL_law (wsV RL 101 RX4 yX4_unsee wsX4_unsee) := goodIn_app (goodIn_of _ (by decide +kernel)) ggL_law_X4_unsee
set_option maxRecDepth 20000 in
theorem ggL_law_X5_unsee : GoodIn wsL_law wsX5_unsee := goodIn_r _ [551, 82, 195, 668, 669, 670, 671, 672, 673, 674, 675, 676, 677, 678, 679, 680, 681, 682, 683, 684, 685, 686, 687, 688, 689, 690, 691, 692, 693, 694, 695, 696, 697, 698, 699, 700, 701, 702, 703, 704] (by decide +kernel) (by decide +kernel)
set_option maxRecDepth 20000 in
theorem gL_law_X5_unsee : GoodIn wsL_law (wsV RL 104 RX5 yX5_unsee wsX5_unsee) := goodIn_app (goodIn_of _ (by decide +kernel)) ggL_law_X5_unsee
set_option maxRecDepth 20000 in
theorem ggL_law_X4_lives : GoodIn wsL_law wsX4_lives := goodIn_r _ [555, 204, 205, 2, 206, 556, 557, 558, 559, 538, 560, 211, 212, 281, 282, 283, 284, 285, 286, 658, 659, 660, 661, 662, 663, 664, 665, 666, 667] (by decide +kernel) (by decide +kernel)
set_option maxRecDepth 20000 in
theorem gL_law_X4_lives : GoodIn wsL_law (wsV RL 105 RX4 yX4_lives wsX4_lives) := goodIn_app (goodIn_of _ (by decide +kernel)) ggL_law_X4_lives
set_option maxRecDepth 20000 in
theorem ggL_law_X5_lives : GoodIn wsL_law wsX5_lives := goodIn_r _ [564, 82, 565, 224, 85, 86, 5, 87, 566, 567, 568, 569, 195, 64, 65, 482, 483, 484, 320, 321, 322, 323, 324, 325, 668, 669, 670, 671, 672, 673, 674, 675, 676, 677, 678, 679, 680, 681, 682, 683, 684, 685, 686, 687, 688, 689, 690, 691, 692, 693, 694, 695, 696, 697, 698, 699, 700, 701, 702, 703, 704] (by decide +kernel) (by decide +kernel)
set_option maxRecDepth 20000 in
theorem gL_law_X5_lives : GoodIn wsL_law (wsV RL 108 RX5 yX5_lives wsX5_lives) := goodIn_app (goodIn_of _ (by decide +kernel)) ggL_law_X5_lives
set_option maxRecDepth 20000 in
theorem ggL_law_X4_rests : GoodIn wsL_law wsX4_rests := goodIn_r _ [573, 20, 233, 234, 235, 19, 236, 150, 237, 238, 239, 240, 152, 574, 575, 2, 576, 577, 578, 579, 658, 659, 660, 661, 662, 663, 664, 665, 666, 667, 707, 708, 709, 710, 711] (by decide +kernel) (by decide +kernel)
set_option maxRecDepth 20000 in
theorem gL_law_X4_rests : GoodIn wsL_law (wsV RL 109 RX4 yX4_rests wsX4_rests) := goodIn_app (goodIn_of _ (by decide +kernel)) ggL_law_X4_rests
set_option maxRecDepth 20000 in
theorem ggL_law_X5_rests : GoodIn wsL_law wsX5_rests := goodIn_r _ [583, 82, 54, 584, 585, 245, 246, 247, 5, 248, 184, 85, 86, 87, 586, 587, 588, 589, 590, 591, 592, 668, 669, 670, 671, 672, 673, 674, 675, 676, 677, 678, 679, 680, 681, 682, 683, 684, 685, 686, 687, 688, 689, 690, 691, 692, 693, 694, 695, 696, 697, 698, 699, 700, 701, 702, 703, 704] (by decide +kernel) (by decide +kernel)
set_option maxRecDepth 20000 in
theorem gL_law_X5_rests : GoodIn wsL_law (wsV RL 112 RX5 yX5_rests wsX5_rests) := goodIn_app (goodIn_of _ (by decide +kernel)) ggL_law_X5_rests
set_option maxRecDepth 20000 in
theorem ggL_law_X4_chance : GoodIn wsL_law wsX4_chance := goodIn_r _ [596, 20, 200, 201, 202, 19, 203, 149, 597, 598, 599, 2, 600, 24, 207, 208, 209, 23, 210, 157, 211, 212, 277, 278, 279, 280, 273, 274, 275, 276, 281, 282, 283, 213, 214, 215, 216, 151, 217, 218, 219, 518, 519, 520, 658, 659, 660, 661, 662, 663, 664, 665, 666, 667, 707, 708, 709, 710, 711, 712, 713, 714, 715] (by decide +kernel) (by decide +kernel)
set_option maxRecDepth 20000 in
theorem gL_law_X4_chance : GoodIn wsL_law (wsV RL 113 RX4 yX4_chance wsX4_chance) := goodIn_app (goodIn_of _ (by decide +kernel)) ggL_law_X4_chance
set_option maxRecDepth 20000 in
theorem ggL_law_X5_chance : GoodIn wsL_law wsX5_chance := goodIn_r _ [604, 82, 605, 606, 52, 57, 225, 226, 227, 5, 228, 183, 85, 86, 87, 301, 302, 303, 316, 317, 318, 319, 53, 320, 321, 322, 323, 324, 325, 482, 483, 484, 528, 529, 530, 531, 532, 533, 668, 669, 670, 671, 672, 673, 674, 675, 676, 677, 678, 679, 680, 681, 682, 683, 684, 685, 686, 687, 688, 689, 690, 691, 692, 693, 694, 695, 696, 697, 698, 699, 700, 701, 702, 703, 704] (by decide +kernel) (by decide +kernel)
set_option maxRecDepth 20000 in
theorem gL_law_X5_chance : GoodIn wsL_law (wsV RL 117 RX5 yX5_chance wsX5_chance) := goodIn_app (goodIn_of _ (by decide +kernel)) ggL_law_X5_chance
set_option maxRecDepth 20000 in
theorem ggL_law_X4_seed : GoodIn wsL_law wsX4_seed := goodIn_r _ [610, 611, 658, 659, 660, 661, 662, 663, 664, 665, 666, 667] (by decide +kernel) (by decide +kernel)
set_option maxRecDepth 20000 in
theorem gL_law_X4_seed : GoodIn wsL_law (wsV RL 120 RX4 yX4_seed wsX4_seed) := goodIn_app (goodIn_of _ (by decide +kernel)) ggL_law_X4_seed
set_option maxRecDepth 20000 in
theorem ggL_law_X5_seed : GoodIn wsL_law wsX5_seed := goodIn_r _ [615, 82, 616, 668, 669, 670, 671, 672, 673, 674, 675, 676, 677, 678, 679, 680, 681, 682, 683, 684, 685, 686, 687, 688, 689, 690, 691, 692, 693, 694, 695, 696, 697, 698, 699, 700, 701, 702, 703, 704] (by decide +kernel) (by decide +kernel)
set_option maxRecDepth 20000 in
theorem gL_law_X5_seed : GoodIn wsL_law (wsV RL 124 RX5 yX5_seed wsX5_seed) := goodIn_app (goodIn_of _ (by decide +kernel)) ggL_law_X5_seed
set_option maxRecDepth 20000 in
theorem ggL_law_X4_days : GoodIn wsL_law wsX4_days := goodIn_r _ [620, 24, 31, 611, 621, 622, 623, 20, 624, 266, 267, 23, 268, 157, 158, 159, 160, 204, 205, 2, 206, 625, 626, 627, 628, 443, 444, 445, 446, 447, 448, 449, 450, 451, 452, 19, 453, 150, 454, 455, 456, 457, 458, 459, 275, 460, 257, 258, 259, 269, 270, 271, 272, 273, 274, 276, 207, 208, 209, 210, 211, 212, 277, 278, 279, 280, 281, 282, 283, 213, 214, 215, 216, 151, 217, 218, 219, 284, 285, 286, 237, 238, 239, 240, 152, 287, 288, 289, 290, 291, 292, 200, 201, 202, 203, 149, 162, 163, 164, 165, 629, 368, 369, 370, 658, 659, 660, 661, 662, 663, 664, 665, 666, 667, 712, 713, 714, 715, 707, 708, 709, 710, 711] (by decide +kernel) (by decide +kernel)
set_option maxRecDepth 20000 in
theorem gL_law_X4_days : GoodIn wsL_law (wsV RL 125 RX4 yX4_days wsX4_days) := goodIn_app (goodIn_of _ (by decide +kernel)) ggL_law_X4_days
set_option maxRecDepth 20000 in
theorem ggL_law_X5_days : GoodIn wsL_law wsX5_days := goodIn_r _ [633, 82, 634, 57, 59, 616, 635, 636, 637, 85, 86, 5, 87, 467, 468, 469, 225, 226, 227, 228, 183, 470, 471, 472, 473, 184, 474, 466, 465, 58, 67, 68, 475, 476, 477, 478, 479, 480, 481, 482, 483, 484, 301, 302, 303, 308, 309, 310, 311, 54, 312, 313, 314, 315, 52, 316, 317, 318, 319, 53, 320, 321, 322, 323, 324, 325, 638, 639, 640, 641, 668, 669, 670, 671, 672, 673, 674, 675, 676, 677, 678, 679, 680, 681, 682, 683, 684, 685, 686, 687, 688, 689, 690, 691, 692, 693, 694, 695, 696, 697, 698, 699, 700, 701, 702, 703, 704] (by decide +kernel) (by decide +kernel)
set_option maxRecDepth 20000 in
theorem gL_law_X5_days : GoodIn wsL_law (wsV RL 128 RX5 yX5_days wsX5_days) := goodIn_app (goodIn_of _ (by decide +kernel)) ggL_law_X5_days
set_option maxRecDepth 20000 in
theorem ggL_law_X4_keep : GoodIn wsL_law wsX4_keep := goodIn_r _ [645, 24, 30, 136, 624, 266, 267, 23, 268, 157, 158, 159, 160, 658, 659, 660, 661, 662, 663, 664, 665, 666, 667, 712, 713, 714, 715] (by decide +kernel) (by decide +kernel)
set_option maxRecDepth 20000 in
theorem gL_law_X4_keep : GoodIn wsL_law (wsV RL 129 RX4 yX4_keep wsX4_keep) := goodIn_app (goodIn_of _ (by decide +kernel)) ggL_law_X4_keep
set_option maxRecDepth 20000 in
theorem ggL_law_X5_keep : GoodIn wsL_law wsX5_keep := goodIn_r _ [649, 82, 63, 61, 57, 85, 86, 5, 87, 668, 669, 670, 671, 672, 673, 674, 675, 676, 677, 678, 679, 680, 681, 682, 683, 684, 685, 686, 687, 688, 689, 690, 691, 692, 693, 694, 695, 696, 697, 698, 699, 700, 701, 702, 703, 704] (by decide +kernel) (by decide +kernel)
set_option maxRecDepth 20000 in
theorem gL_law_X5_keep : GoodIn wsL_law (wsV RL 132 RX5 yX5_keep wsX5_keep) := goodIn_app (goodIn_of _ (by decide +kernel)) ggL_law_X5_keep
set_option maxRecDepth 20000 in
theorem ggL_law_X4_again : GoodIn wsL_law wsX4_again := goodIn_r _ [653, 136, 24, 30, 28, 257, 258, 2, 259, 629, 368, 369, 23, 370, 157, 158, 159, 160, 174, 175, 176, 27, 177, 178, 658, 659, 660, 661, 662, 663, 664, 665, 666, 667, 712, 713, 714, 715, 716, 717, 718] (by decide +kernel) (by decide +kernel)
set_option maxRecDepth 20000 in
theorem gL_law_X4_again : GoodIn wsL_law (wsV RL 133 RX4 yX4_again wsX4_again) := goodIn_app (goodIn_of _ (by decide +kernel)) ggL_law_X4_again
set_option maxRecDepth 20000 in
theorem ggL_law_X5_again : GoodIn wsL_law wsX5_again := goodIn_r _ [657, 82, 63, 57, 61, 185, 85, 86, 5, 87, 668, 669, 670, 671, 672, 673, 674, 675, 676, 677, 678, 679, 680, 681, 682, 683, 684, 685, 686, 687, 688, 689, 690, 691, 692, 693, 694, 695, 696, 697, 698, 699, 700, 701, 702, 703, 704] (by decide +kernel) (by decide +kernel)
set_option maxRecDepth 20000 in
theorem gL_law_X5_again : GoodIn wsL_law (wsV RL 136 RX5 yX5_again wsX5_again) := goodIn_app (goodIn_of _ (by decide +kernel)) ggL_law_X5_again
theorem dL_law_0 : decode cL_law 0 = .ok (.new 7, 3) := by decide +kernel
theorem dL_law_3 : decode cL_law 3 = .ok (.dup, 1) := by decide +kernel
theorem dL_law_4 : decode cL_law 4 = .ok (.invokespecial 9, 3) := by decide +kernel
end
section
theorem dL_law_7 : decode cL_law 7 = .ok (.astore_n 1, 1) := by decide +kernel
theorem dL_law_8 : decode cL_law 8 = .ok (.new 10, 3) := by decide +kernel
theorem dL_law_11 : decode cL_law 11 = .ok (.dup, 1) := by decide +kernel
theorem dL_law_12 : decode cL_law 12 = .ok (.invokespecial 12, 3) := by decide +kernel
theorem dL_law_15 : decode cL_law 15 = .ok (.astore_n 2, 1) := by decide +kernel
theorem dL_law_16 : decode cL_law 16 = .ok (.iconst 0, 1) := by decide +kernel
theorem dL_law_17 : decode cL_law 17 = .ok (.istore_n 3, 1) := by decide +kernel
theorem dL_law_18 : decode cL_law 18 = .ok (.iload_n 3, 1) := by decide +kernel
theorem dL_law_19 : decode cL_law 19 = .ok (.aload_n 0, 1) := by decide +kernel
theorem dL_law_20 : decode cL_law 20 = .ok (.arraylength, 1) := by decide +kernel
theorem dL_law_21 : decode cL_law 21 = .ok (.bipush 6, 2) := by decide +kernel
theorem dL_law_23 : decode cL_law 23 = .ok (.isub, 1) := by decide +kernel
theorem dL_law_24 : decode cL_law 24 = .ok (.if_icmp .gt 1045, 3) := by decide +kernel
theorem dL_law_27 : decode cL_law 27 = .ok (.aload_n 0, 1) := by decide +kernel
theorem dL_law_28 : decode cL_law 28 = .ok (.iload_n 3, 1) := by decide +kernel
theorem dL_law_29 : decode cL_law 29 = .ok (.iaload, 1) := by decide +kernel
theorem dL_law_30 : decode cL_law 30 = .ok (.bipush 31, 2) := by decide +kernel
theorem dL_law_32 : decode cL_law 32 = .ok (.iand, 1) := by decide +kernel
theorem dL_law_33 : decode cL_law 33 = .ok (.tableswitch 1030 0 27 #[127, 150, 163, 176, 189, 212, 245, 268, 311, 334, 367, 400, 413, 446, 509, 542, 595, 634, 667, 726, 759, 772, 795, 838, 907, 961, 984, 1007], 127) := by decide +kernel
theorem dL_law_160 : decode cL_law 160 = .ok (.aload_n 1, 1) := by decide +kernel
theorem dL_law_161 : decode cL_law 161 = .ok (.aload_n 0, 1) := by decide +kernel
theorem dL_law_162 : decode cL_law 162 = .ok (.iload_n 3, 1) := by decide +kernel
theorem dL_law_163 : decode cL_law 163 = .ok (.iconst 1, 1) := by decide +kernel
theorem dL_law_164 : decode cL_law 164 = .ok (.iadd, 1) := by decide +kernel
theorem dL_law_165 : decode cL_law 165 = .ok (.iaload, 1) := by decide +kernel
theorem dL_law_166 : decode cL_law 166 = .ok (.invokevirtual 13, 3) := by decide +kernel
theorem dL_law_169 : decode cL_law 169 = .ok (.aload_n 2, 1) := by decide +kernel
theorem dL_law_170 : decode cL_law 170 = .ok (.aload_n 0, 1) := by decide +kernel
theorem dL_law_171 : decode cL_law 171 = .ok (.iload_n 3, 1) := by decide +kernel
theorem dL_law_172 : decode cL_law 172 = .ok (.iconst 1, 1) := by decide +kernel
theorem dL_law_173 : decode cL_law 173 = .ok (.iadd, 1) := by decide +kernel
theorem dL_law_174 : decode cL_law 174 = .ok (.iaload, 1) := by decide +kernel
theorem dL_law_175 : decode cL_law 175 = .ok (.invokevirtual 17, 3) := by decide +kernel
theorem dL_law_178 : decode cL_law 178 = .ok (.if_icmp .eq 885, 3) := by decide +kernel
theorem dL_law_181 : decode cL_law 181 = .ok (.iconst 0, 1) := by decide +kernel
theorem dL_law_182 : decode cL_law 182 = .ok (.ireturn, 1) := by decide +kernel
theorem dL_law_183 : decode cL_law 183 = .ok (.aload_n 1, 1) := by decide +kernel
theorem dL_law_184 : decode cL_law 184 = .ok (.invokevirtual 18, 3) := by decide +kernel
theorem dL_law_187 : decode cL_law 187 = .ok (.aload_n 2, 1) := by decide +kernel
theorem dL_law_188 : decode cL_law 188 = .ok (.invokevirtual 22, 3) := by decide +kernel
theorem dL_law_191 : decode cL_law 191 = .ok (.if_icmp .eq 872, 3) := by decide +kernel
theorem dL_law_194 : decode cL_law 194 = .ok (.iconst 0, 1) := by decide +kernel
theorem dL_law_195 : decode cL_law 195 = .ok (.ireturn, 1) := by decide +kernel
theorem dL_law_196 : decode cL_law 196 = .ok (.aload_n 1, 1) := by decide +kernel
theorem dL_law_197 : decode cL_law 197 = .ok (.invokevirtual 23, 3) := by decide +kernel
theorem dL_law_200 : decode cL_law 200 = .ok (.aload_n 2, 1) := by decide +kernel
theorem dL_law_201 : decode cL_law 201 = .ok (.invokevirtual 26, 3) := by decide +kernel
theorem dL_law_204 : decode cL_law 204 = .ok (.if_icmp .eq 859, 3) := by decide +kernel
theorem dL_law_207 : decode cL_law 207 = .ok (.iconst 0, 1) := by decide +kernel
theorem dL_law_208 : decode cL_law 208 = .ok (.ireturn, 1) := by decide +kernel
theorem dL_law_209 : decode cL_law 209 = .ok (.aload_n 1, 1) := by decide +kernel
theorem dL_law_210 : decode cL_law 210 = .ok (.invokevirtual 27, 3) := by decide +kernel
theorem dL_law_213 : decode cL_law 213 = .ok (.aload_n 2, 1) := by decide +kernel
theorem dL_law_214 : decode cL_law 214 = .ok (.invokevirtual 30, 3) := by decide +kernel
theorem dL_law_217 : decode cL_law 217 = .ok (.if_icmp .eq 846, 3) := by decide +kernel
theorem dL_law_220 : decode cL_law 220 = .ok (.iconst 0, 1) := by decide +kernel
theorem dL_law_221 : decode cL_law 221 = .ok (.ireturn, 1) := by decide +kernel
theorem dL_law_222 : decode cL_law 222 = .ok (.aload_n 1, 1) := by decide +kernel
theorem dL_law_223 : decode cL_law 223 = .ok (.aload_n 0, 1) := by decide +kernel
theorem dL_law_224 : decode cL_law 224 = .ok (.iload_n 3, 1) := by decide +kernel
theorem dL_law_225 : decode cL_law 225 = .ok (.iconst 1, 1) := by decide +kernel
theorem dL_law_226 : decode cL_law 226 = .ok (.iadd, 1) := by decide +kernel
theorem dL_law_227 : decode cL_law 227 = .ok (.iaload, 1) := by decide +kernel
theorem dL_law_228 : decode cL_law 228 = .ok (.invokevirtual 31, 3) := by decide +kernel
theorem dL_law_231 : decode cL_law 231 = .ok (.aload_n 2, 1) := by decide +kernel
theorem dL_law_232 : decode cL_law 232 = .ok (.aload_n 0, 1) := by decide +kernel
theorem dL_law_233 : decode cL_law 233 = .ok (.iload_n 3, 1) := by decide +kernel
theorem dL_law_234 : decode cL_law 234 = .ok (.iconst 1, 1) := by decide +kernel
theorem dL_law_235 : decode cL_law 235 = .ok (.iadd, 1) := by decide +kernel
theorem dL_law_236 : decode cL_law 236 = .ok (.iaload, 1) := by decide +kernel
theorem dL_law_237 : decode cL_law 237 = .ok (.invokevirtual 34, 3) := by decide +kernel
theorem dL_law_240 : decode cL_law 240 = .ok (.if_icmp .eq 823, 3) := by decide +kernel
theorem dL_law_243 : decode cL_law 243 = .ok (.iconst 0, 1) := by decide +kernel
theorem dL_law_244 : decode cL_law 244 = .ok (.ireturn, 1) := by decide +kernel
theorem dL_law_245 : decode cL_law 245 = .ok (.aload_n 1, 1) := by decide +kernel
theorem dL_law_246 : decode cL_law 246 = .ok (.aload_n 0, 1) := by decide +kernel
theorem dL_law_247 : decode cL_law 247 = .ok (.iload_n 3, 1) := by decide +kernel
theorem dL_law_248 : decode cL_law 248 = .ok (.iconst 1, 1) := by decide +kernel
theorem dL_law_249 : decode cL_law 249 = .ok (.iadd, 1) := by decide +kernel
theorem dL_law_250 : decode cL_law 250 = .ok (.iaload, 1) := by decide +kernel
theorem dL_law_251 : decode cL_law 251 = .ok (.aload_n 0, 1) := by decide +kernel
theorem dL_law_252 : decode cL_law 252 = .ok (.iload_n 3, 1) := by decide +kernel
theorem dL_law_253 : decode cL_law 253 = .ok (.iconst 2, 1) := by decide +kernel
theorem dL_law_254 : decode cL_law 254 = .ok (.iadd, 1) := by decide +kernel
theorem dL_law_255 : decode cL_law 255 = .ok (.iaload, 1) := by decide +kernel
theorem dL_law_256 : decode cL_law 256 = .ok (.invokevirtual 35, 3) := by decide +kernel
theorem dL_law_259 : decode cL_law 259 = .ok (.aload_n 2, 1) := by decide +kernel
theorem dL_law_260 : decode cL_law 260 = .ok (.aload_n 0, 1) := by decide +kernel
theorem dL_law_261 : decode cL_law 261 = .ok (.iload_n 3, 1) := by decide +kernel
theorem dL_law_262 : decode cL_law 262 = .ok (.iconst 1, 1) := by decide +kernel
theorem dL_law_263 : decode cL_law 263 = .ok (.iadd, 1) := by decide +kernel
theorem dL_law_264 : decode cL_law 264 = .ok (.iaload, 1) := by decide +kernel
theorem dL_law_265 : decode cL_law 265 = .ok (.aload_n 0, 1) := by decide +kernel
theorem dL_law_266 : decode cL_law 266 = .ok (.iload_n 3, 1) := by decide +kernel
theorem dL_law_267 : decode cL_law 267 = .ok (.iconst 2, 1) := by decide +kernel
theorem dL_law_268 : decode cL_law 268 = .ok (.iadd, 1) := by decide +kernel
theorem dL_law_269 : decode cL_law 269 = .ok (.iaload, 1) := by decide +kernel
theorem dL_law_270 : decode cL_law 270 = .ok (.invokevirtual 39, 3) := by decide +kernel
theorem dL_law_273 : decode cL_law 273 = .ok (.if_icmp .eq 790, 3) := by decide +kernel
theorem dL_law_276 : decode cL_law 276 = .ok (.iconst 0, 1) := by decide +kernel
theorem dL_law_277 : decode cL_law 277 = .ok (.ireturn, 1) := by decide +kernel
theorem dL_law_278 : decode cL_law 278 = .ok (.aload_n 1, 1) := by decide +kernel
theorem dL_law_279 : decode cL_law 279 = .ok (.aload_n 0, 1) := by decide +kernel
theorem dL_law_280 : decode cL_law 280 = .ok (.iload_n 3, 1) := by decide +kernel
theorem dL_law_281 : decode cL_law 281 = .ok (.iconst 1, 1) := by decide +kernel
theorem dL_law_282 : decode cL_law 282 = .ok (.iadd, 1) := by decide +kernel
theorem dL_law_283 : decode cL_law 283 = .ok (.iaload, 1) := by decide +kernel
theorem dL_law_284 : decode cL_law 284 = .ok (.invokevirtual 40, 3) := by decide +kernel
theorem dL_law_287 : decode cL_law 287 = .ok (.aload_n 2, 1) := by decide +kernel
theorem dL_law_288 : decode cL_law 288 = .ok (.aload_n 0, 1) := by decide +kernel
theorem dL_law_289 : decode cL_law 289 = .ok (.iload_n 3, 1) := by decide +kernel
theorem dL_law_290 : decode cL_law 290 = .ok (.iconst 1, 1) := by decide +kernel
theorem dL_law_291 : decode cL_law 291 = .ok (.iadd, 1) := by decide +kernel
theorem dL_law_292 : decode cL_law 292 = .ok (.iaload, 1) := by decide +kernel
theorem dL_law_293 : decode cL_law 293 = .ok (.invokevirtual 43, 3) := by decide +kernel
theorem dL_law_296 : decode cL_law 296 = .ok (.if_icmp .eq 767, 3) := by decide +kernel
theorem dL_law_299 : decode cL_law 299 = .ok (.iconst 0, 1) := by decide +kernel
theorem dL_law_300 : decode cL_law 300 = .ok (.ireturn, 1) := by decide +kernel
theorem dL_law_301 : decode cL_law 301 = .ok (.aload_n 1, 1) := by decide +kernel
theorem dL_law_302 : decode cL_law 302 = .ok (.aload_n 0, 1) := by decide +kernel
theorem dL_law_303 : decode cL_law 303 = .ok (.iload_n 3, 1) := by decide +kernel
theorem dL_law_304 : decode cL_law 304 = .ok (.iconst 1, 1) := by decide +kernel
theorem dL_law_305 : decode cL_law 305 = .ok (.iadd, 1) := by decide +kernel
theorem dL_law_306 : decode cL_law 306 = .ok (.iaload, 1) := by decide +kernel
theorem dL_law_307 : decode cL_law 307 = .ok (.aload_n 0, 1) := by decide +kernel
theorem dL_law_308 : decode cL_law 308 = .ok (.iload_n 3, 1) := by decide +kernel
theorem dL_law_309 : decode cL_law 309 = .ok (.iconst 2, 1) := by decide +kernel
theorem dL_law_310 : decode cL_law 310 = .ok (.iadd, 1) := by decide +kernel
theorem dL_law_311 : decode cL_law 311 = .ok (.iaload, 1) := by decide +kernel
theorem dL_law_312 : decode cL_law 312 = .ok (.aload_n 0, 1) := by decide +kernel
theorem dL_law_313 : decode cL_law 313 = .ok (.iload_n 3, 1) := by decide +kernel
theorem dL_law_314 : decode cL_law 314 = .ok (.iconst 3, 1) := by decide +kernel
theorem dL_law_315 : decode cL_law 315 = .ok (.iadd, 1) := by decide +kernel
theorem dL_law_316 : decode cL_law 316 = .ok (.iaload, 1) := by decide +kernel
theorem dL_law_317 : decode cL_law 317 = .ok (.invokevirtual 44, 3) := by decide +kernel
theorem dL_law_320 : decode cL_law 320 = .ok (.aload_n 2, 1) := by decide +kernel
theorem dL_law_321 : decode cL_law 321 = .ok (.aload_n 0, 1) := by decide +kernel
theorem dL_law_322 : decode cL_law 322 = .ok (.iload_n 3, 1) := by decide +kernel
theorem dL_law_323 : decode cL_law 323 = .ok (.iconst 1, 1) := by decide +kernel
theorem dL_law_324 : decode cL_law 324 = .ok (.iadd, 1) := by decide +kernel
theorem dL_law_325 : decode cL_law 325 = .ok (.iaload, 1) := by decide +kernel
theorem dL_law_326 : decode cL_law 326 = .ok (.aload_n 0, 1) := by decide +kernel
theorem dL_law_327 : decode cL_law 327 = .ok (.iload_n 3, 1) := by decide +kernel
theorem dL_law_328 : decode cL_law 328 = .ok (.iconst 2, 1) := by decide +kernel
theorem dL_law_329 : decode cL_law 329 = .ok (.iadd, 1) := by decide +kernel
theorem dL_law_330 : decode cL_law 330 = .ok (.iaload, 1) := by decide +kernel
theorem dL_law_331 : decode cL_law 331 = .ok (.aload_n 0, 1) := by decide +kernel
theorem dL_law_332 : decode cL_law 332 = .ok (.iload_n 3, 1) := by decide +kernel
theorem dL_law_333 : decode cL_law 333 = .ok (.iconst 3, 1) := by decide +kernel
theorem dL_law_334 : decode cL_law 334 = .ok (.iadd, 1) := by decide +kernel
theorem dL_law_335 : decode cL_law 335 = .ok (.iaload, 1) := by decide +kernel
theorem dL_law_336 : decode cL_law 336 = .ok (.invokevirtual 48, 3) := by decide +kernel
theorem dL_law_339 : decode cL_law 339 = .ok (.if_icmp .eq 724, 3) := by decide +kernel
theorem dL_law_342 : decode cL_law 342 = .ok (.iconst 0, 1) := by decide +kernel
theorem dL_law_343 : decode cL_law 343 = .ok (.ireturn, 1) := by decide +kernel
theorem dL_law_344 : decode cL_law 344 = .ok (.aload_n 1, 1) := by decide +kernel
theorem dL_law_345 : decode cL_law 345 = .ok (.aload_n 0, 1) := by decide +kernel
theorem dL_law_346 : decode cL_law 346 = .ok (.iload_n 3, 1) := by decide +kernel
theorem dL_law_347 : decode cL_law 347 = .ok (.iconst 1, 1) := by decide +kernel
theorem dL_law_348 : decode cL_law 348 = .ok (.iadd, 1) := by decide +kernel
theorem dL_law_349 : decode cL_law 349 = .ok (.iaload, 1) := by decide +kernel
theorem dL_law_350 : decode cL_law 350 = .ok (.invokevirtual 49, 3) := by decide +kernel
theorem dL_law_353 : decode cL_law 353 = .ok (.aload_n 2, 1) := by decide +kernel
theorem dL_law_354 : decode cL_law 354 = .ok (.aload_n 0, 1) := by decide +kernel
theorem dL_law_355 : decode cL_law 355 = .ok (.iload_n 3, 1) := by decide +kernel
theorem dL_law_356 : decode cL_law 356 = .ok (.iconst 1, 1) := by decide +kernel
theorem dL_law_357 : decode cL_law 357 = .ok (.iadd, 1) := by decide +kernel
theorem dL_law_358 : decode cL_law 358 = .ok (.iaload, 1) := by decide +kernel
theorem dL_law_359 : decode cL_law 359 = .ok (.invokevirtual 52, 3) := by decide +kernel
theorem dL_law_362 : decode cL_law 362 = .ok (.if_icmp .eq 701, 3) := by decide +kernel
theorem dL_law_365 : decode cL_law 365 = .ok (.iconst 0, 1) := by decide +kernel
theorem dL_law_366 : decode cL_law 366 = .ok (.ireturn, 1) := by decide +kernel
theorem dL_law_367 : decode cL_law 367 = .ok (.aload_n 1, 1) := by decide +kernel
theorem dL_law_368 : decode cL_law 368 = .ok (.aload_n 0, 1) := by decide +kernel
theorem dL_law_369 : decode cL_law 369 = .ok (.iload_n 3, 1) := by decide +kernel
theorem dL_law_370 : decode cL_law 370 = .ok (.iconst 1, 1) := by decide +kernel
theorem dL_law_371 : decode cL_law 371 = .ok (.iadd, 1) := by decide +kernel
theorem dL_law_372 : decode cL_law 372 = .ok (.iaload, 1) := by decide +kernel
theorem dL_law_373 : decode cL_law 373 = .ok (.aload_n 0, 1) := by decide +kernel
theorem dL_law_374 : decode cL_law 374 = .ok (.iload_n 3, 1) := by decide +kernel
theorem dL_law_375 : decode cL_law 375 = .ok (.iconst 2, 1) := by decide +kernel
theorem dL_law_376 : decode cL_law 376 = .ok (.iadd, 1) := by decide +kernel
theorem dL_law_377 : decode cL_law 377 = .ok (.iaload, 1) := by decide +kernel
theorem dL_law_378 : decode cL_law 378 = .ok (.invokevirtual 53, 3) := by decide +kernel
theorem dL_law_381 : decode cL_law 381 = .ok (.aload_n 2, 1) := by decide +kernel
theorem dL_law_382 : decode cL_law 382 = .ok (.aload_n 0, 1) := by decide +kernel
theorem dL_law_383 : decode cL_law 383 = .ok (.iload_n 3, 1) := by decide +kernel
theorem dL_law_384 : decode cL_law 384 = .ok (.iconst 1, 1) := by decide +kernel
theorem dL_law_385 : decode cL_law 385 = .ok (.iadd, 1) := by decide +kernel
theorem dL_law_386 : decode cL_law 386 = .ok (.iaload, 1) := by decide +kernel
theorem dL_law_387 : decode cL_law 387 = .ok (.aload_n 0, 1) := by decide +kernel
theorem dL_law_388 : decode cL_law 388 = .ok (.iload_n 3, 1) := by decide +kernel
theorem dL_law_389 : decode cL_law 389 = .ok (.iconst 2, 1) := by decide +kernel
theorem dL_law_390 : decode cL_law 390 = .ok (.iadd, 1) := by decide +kernel
theorem dL_law_391 : decode cL_law 391 = .ok (.iaload, 1) := by decide +kernel
theorem dL_law_392 : decode cL_law 392 = .ok (.invokevirtual 56, 3) := by decide +kernel
theorem dL_law_395 : decode cL_law 395 = .ok (.if_icmp .eq 668, 3) := by decide +kernel
theorem dL_law_398 : decode cL_law 398 = .ok (.iconst 0, 1) := by decide +kernel
theorem dL_law_399 : decode cL_law 399 = .ok (.ireturn, 1) := by decide +kernel
theorem dL_law_400 : decode cL_law 400 = .ok (.aload_n 1, 1) := by decide +kernel
theorem dL_law_401 : decode cL_law 401 = .ok (.aload_n 0, 1) := by decide +kernel
theorem dL_law_402 : decode cL_law 402 = .ok (.iload_n 3, 1) := by decide +kernel
theorem dL_law_403 : decode cL_law 403 = .ok (.iconst 1, 1) := by decide +kernel
theorem dL_law_404 : decode cL_law 404 = .ok (.iadd, 1) := by decide +kernel
theorem dL_law_405 : decode cL_law 405 = .ok (.iaload, 1) := by decide +kernel
theorem dL_law_406 : decode cL_law 406 = .ok (.aload_n 0, 1) := by decide +kernel
theorem dL_law_407 : decode cL_law 407 = .ok (.iload_n 3, 1) := by decide +kernel
theorem dL_law_408 : decode cL_law 408 = .ok (.iconst 2, 1) := by decide +kernel
theorem dL_law_409 : decode cL_law 409 = .ok (.iadd, 1) := by decide +kernel
theorem dL_law_410 : decode cL_law 410 = .ok (.iaload, 1) := by decide +kernel
theorem dL_law_411 : decode cL_law 411 = .ok (.invokevirtual 57, 3) := by decide +kernel
theorem dL_law_414 : decode cL_law 414 = .ok (.aload_n 2, 1) := by decide +kernel
theorem dL_law_415 : decode cL_law 415 = .ok (.aload_n 0, 1) := by decide +kernel
theorem dL_law_416 : decode cL_law 416 = .ok (.iload_n 3, 1) := by decide +kernel
theorem dL_law_417 : decode cL_law 417 = .ok (.iconst 1, 1) := by decide +kernel
theorem dL_law_418 : decode cL_law 418 = .ok (.iadd, 1) := by decide +kernel
theorem dL_law_419 : decode cL_law 419 = .ok (.iaload, 1) := by decide +kernel
theorem dL_law_420 : decode cL_law 420 = .ok (.aload_n 0, 1) := by decide +kernel
theorem dL_law_421 : decode cL_law 421 = .ok (.iload_n 3, 1) := by decide +kernel
theorem dL_law_422 : decode cL_law 422 = .ok (.iconst 2, 1) := by decide +kernel
theorem dL_law_423 : decode cL_law 423 = .ok (.iadd, 1) := by decide +kernel
theorem dL_law_424 : decode cL_law 424 = .ok (.iaload, 1) := by decide +kernel
theorem dL_law_425 : decode cL_law 425 = .ok (.invokevirtual 60, 3) := by decide +kernel
theorem dL_law_428 : decode cL_law 428 = .ok (.if_icmp .eq 635, 3) := by decide +kernel
theorem dL_law_431 : decode cL_law 431 = .ok (.iconst 0, 1) := by decide +kernel
theorem dL_law_432 : decode cL_law 432 = .ok (.ireturn, 1) := by decide +kernel
theorem dL_law_433 : decode cL_law 433 = .ok (.aload_n 1, 1) := by decide +kernel
theorem dL_law_434 : decode cL_law 434 = .ok (.invokevirtual 61, 3) := by decide +kernel
theorem dL_law_437 : decode cL_law 437 = .ok (.aload_n 2, 1) := by decide +kernel
theorem dL_law_438 : decode cL_law 438 = .ok (.invokevirtual 64, 3) := by decide +kernel
theorem dL_law_441 : decode cL_law 441 = .ok (.if_icmp .eq 622, 3) := by decide +kernel
theorem dL_law_444 : decode cL_law 444 = .ok (.iconst 0, 1) := by decide +kernel
theorem dL_law_445 : decode cL_law 445 = .ok (.ireturn, 1) := by decide +kernel
theorem dL_law_446 : decode cL_law 446 = .ok (.aload_n 1, 1) := by decide +kernel
theorem dL_law_447 : decode cL_law 447 = .ok (.aload_n 0, 1) := by decide +kernel
theorem dL_law_448 : decode cL_law 448 = .ok (.iload_n 3, 1) := by decide +kernel
theorem dL_law_449 : decode cL_law 449 = .ok (.iconst 1, 1) := by decide +kernel
theorem dL_law_450 : decode cL_law 450 = .ok (.iadd, 1) := by decide +kernel
theorem dL_law_451 : decode cL_law 451 = .ok (.iaload, 1) := by decide +kernel
theorem dL_law_452 : decode cL_law 452 = .ok (.aload_n 0, 1) := by decide +kernel
theorem dL_law_453 : decode cL_law 453 = .ok (.iload_n 3, 1) := by decide +kernel
theorem dL_law_454 : decode cL_law 454 = .ok (.iconst 2, 1) := by decide +kernel
theorem dL_law_455 : decode cL_law 455 = .ok (.iadd, 1) := by decide +kernel
theorem dL_law_456 : decode cL_law 456 = .ok (.iaload, 1) := by decide +kernel
theorem dL_law_457 : decode cL_law 457 = .ok (.invokevirtual 65, 3) := by decide +kernel
theorem dL_law_460 : decode cL_law 460 = .ok (.aload_n 2, 1) := by decide +kernel
theorem dL_law_461 : decode cL_law 461 = .ok (.aload_n 0, 1) := by decide +kernel
theorem dL_law_462 : decode cL_law 462 = .ok (.iload_n 3, 1) := by decide +kernel
theorem dL_law_463 : decode cL_law 463 = .ok (.iconst 1, 1) := by decide +kernel
theorem dL_law_464 : decode cL_law 464 = .ok (.iadd, 1) := by decide +kernel
theorem dL_law_465 : decode cL_law 465 = .ok (.iaload, 1) := by decide +kernel
theorem dL_law_466 : decode cL_law 466 = .ok (.aload_n 0, 1) := by decide +kernel
theorem dL_law_467 : decode cL_law 467 = .ok (.iload_n 3, 1) := by decide +kernel
theorem dL_law_468 : decode cL_law 468 = .ok (.iconst 2, 1) := by decide +kernel
theorem dL_law_469 : decode cL_law 469 = .ok (.iadd, 1) := by decide +kernel
theorem dL_law_470 : decode cL_law 470 = .ok (.iaload, 1) := by decide +kernel
theorem dL_law_471 : decode cL_law 471 = .ok (.invokevirtual 68, 3) := by decide +kernel
theorem dL_law_474 : decode cL_law 474 = .ok (.if_icmp .eq 589, 3) := by decide +kernel
theorem dL_law_477 : decode cL_law 477 = .ok (.iconst 0, 1) := by decide +kernel
theorem dL_law_478 : decode cL_law 478 = .ok (.ireturn, 1) := by decide +kernel
theorem dL_law_479 : decode cL_law 479 = .ok (.aload_n 1, 1) := by decide +kernel
theorem dL_law_480 : decode cL_law 480 = .ok (.aload_n 0, 1) := by decide +kernel
theorem dL_law_481 : decode cL_law 481 = .ok (.iload_n 3, 1) := by decide +kernel
theorem dL_law_482 : decode cL_law 482 = .ok (.iconst 1, 1) := by decide +kernel
theorem dL_law_483 : decode cL_law 483 = .ok (.iadd, 1) := by decide +kernel
theorem dL_law_484 : decode cL_law 484 = .ok (.iaload, 1) := by decide +kernel
theorem dL_law_485 : decode cL_law 485 = .ok (.aload_n 0, 1) := by decide +kernel
theorem dL_law_486 : decode cL_law 486 = .ok (.iload_n 3, 1) := by decide +kernel
theorem dL_law_487 : decode cL_law 487 = .ok (.iconst 2, 1) := by decide +kernel
theorem dL_law_488 : decode cL_law 488 = .ok (.iadd, 1) := by decide +kernel
theorem dL_law_489 : decode cL_law 489 = .ok (.iaload, 1) := by decide +kernel
theorem dL_law_490 : decode cL_law 490 = .ok (.aload_n 0, 1) := by decide +kernel
theorem dL_law_491 : decode cL_law 491 = .ok (.iload_n 3, 1) := by decide +kernel
theorem dL_law_492 : decode cL_law 492 = .ok (.iconst 3, 1) := by decide +kernel
theorem dL_law_493 : decode cL_law 493 = .ok (.iadd, 1) := by decide +kernel
theorem dL_law_494 : decode cL_law 494 = .ok (.iaload, 1) := by decide +kernel
theorem dL_law_495 : decode cL_law 495 = .ok (.aload_n 0, 1) := by decide +kernel
theorem dL_law_496 : decode cL_law 496 = .ok (.iload_n 3, 1) := by decide +kernel
theorem dL_law_497 : decode cL_law 497 = .ok (.iconst 4, 1) := by decide +kernel
theorem dL_law_498 : decode cL_law 498 = .ok (.iadd, 1) := by decide +kernel
theorem dL_law_499 : decode cL_law 499 = .ok (.iaload, 1) := by decide +kernel
theorem dL_law_500 : decode cL_law 500 = .ok (.aload_n 0, 1) := by decide +kernel
theorem dL_law_501 : decode cL_law 501 = .ok (.iload_n 3, 1) := by decide +kernel
theorem dL_law_502 : decode cL_law 502 = .ok (.iconst 5, 1) := by decide +kernel
theorem dL_law_503 : decode cL_law 503 = .ok (.iadd, 1) := by decide +kernel
theorem dL_law_504 : decode cL_law 504 = .ok (.iaload, 1) := by decide +kernel
theorem dL_law_505 : decode cL_law 505 = .ok (.invokevirtual 69, 3) := by decide +kernel
theorem dL_law_508 : decode cL_law 508 = .ok (.aload_n 2, 1) := by decide +kernel
theorem dL_law_509 : decode cL_law 509 = .ok (.aload_n 0, 1) := by decide +kernel
theorem dL_law_510 : decode cL_law 510 = .ok (.iload_n 3, 1) := by decide +kernel
theorem dL_law_511 : decode cL_law 511 = .ok (.iconst 1, 1) := by decide +kernel
theorem dL_law_512 : decode cL_law 512 = .ok (.iadd, 1) := by decide +kernel
theorem dL_law_513 : decode cL_law 513 = .ok (.iaload, 1) := by decide +kernel
theorem dL_law_514 : decode cL_law 514 = .ok (.aload_n 0, 1) := by decide +kernel
theorem dL_law_515 : decode cL_law 515 = .ok (.iload_n 3, 1) := by decide +kernel
theorem dL_law_516 : decode cL_law 516 = .ok (.iconst 2, 1) := by decide +kernel
theorem dL_law_517 : decode cL_law 517 = .ok (.iadd, 1) := by decide +kernel
theorem dL_law_518 : decode cL_law 518 = .ok (.iaload, 1) := by decide +kernel
theorem dL_law_519 : decode cL_law 519 = .ok (.aload_n 0, 1) := by decide +kernel
theorem dL_law_520 : decode cL_law 520 = .ok (.iload_n 3, 1) := by decide +kernel
theorem dL_law_521 : decode cL_law 521 = .ok (.iconst 3, 1) := by decide +kernel
theorem dL_law_522 : decode cL_law 522 = .ok (.iadd, 1) := by decide +kernel
theorem dL_law_523 : decode cL_law 523 = .ok (.iaload, 1) := by decide +kernel
theorem dL_law_524 : decode cL_law 524 = .ok (.aload_n 0, 1) := by decide +kernel
theorem dL_law_525 : decode cL_law 525 = .ok (.iload_n 3, 1) := by decide +kernel
theorem dL_law_526 : decode cL_law 526 = .ok (.iconst 4, 1) := by decide +kernel
theorem dL_law_527 : decode cL_law 527 = .ok (.iadd, 1) := by decide +kernel
theorem dL_law_528 : decode cL_law 528 = .ok (.iaload, 1) := by decide +kernel
theorem dL_law_529 : decode cL_law 529 = .ok (.aload_n 0, 1) := by decide +kernel
theorem dL_law_530 : decode cL_law 530 = .ok (.iload_n 3, 1) := by decide +kernel
theorem dL_law_531 : decode cL_law 531 = .ok (.iconst 5, 1) := by decide +kernel
theorem dL_law_532 : decode cL_law 532 = .ok (.iadd, 1) := by decide +kernel
theorem dL_law_533 : decode cL_law 533 = .ok (.iaload, 1) := by decide +kernel
theorem dL_law_534 : decode cL_law 534 = .ok (.invokevirtual 73, 3) := by decide +kernel
theorem dL_law_537 : decode cL_law 537 = .ok (.if_icmp .eq 526, 3) := by decide +kernel
theorem dL_law_540 : decode cL_law 540 = .ok (.iconst 0, 1) := by decide +kernel
theorem dL_law_541 : decode cL_law 541 = .ok (.ireturn, 1) := by decide +kernel
theorem dL_law_542 : decode cL_law 542 = .ok (.aload_n 1, 1) := by decide +kernel
theorem dL_law_543 : decode cL_law 543 = .ok (.aload_n 0, 1) := by decide +kernel
theorem dL_law_544 : decode cL_law 544 = .ok (.iload_n 3, 1) := by decide +kernel
theorem dL_law_545 : decode cL_law 545 = .ok (.iconst 1, 1) := by decide +kernel
theorem dL_law_546 : decode cL_law 546 = .ok (.iadd, 1) := by decide +kernel
theorem dL_law_547 : decode cL_law 547 = .ok (.iaload, 1) := by decide +kernel
theorem dL_law_548 : decode cL_law 548 = .ok (.aload_n 0, 1) := by decide +kernel
theorem dL_law_549 : decode cL_law 549 = .ok (.iload_n 3, 1) := by decide +kernel
theorem dL_law_550 : decode cL_law 550 = .ok (.iconst 2, 1) := by decide +kernel
theorem dL_law_551 : decode cL_law 551 = .ok (.iadd, 1) := by decide +kernel
theorem dL_law_552 : decode cL_law 552 = .ok (.iaload, 1) := by decide +kernel
theorem dL_law_553 : decode cL_law 553 = .ok (.invokevirtual 74, 3) := by decide +kernel
theorem dL_law_556 : decode cL_law 556 = .ok (.aload_n 2, 1) := by decide +kernel
theorem dL_law_557 : decode cL_law 557 = .ok (.aload_n 0, 1) := by decide +kernel
theorem dL_law_558 : decode cL_law 558 = .ok (.iload_n 3, 1) := by decide +kernel
theorem dL_law_559 : decode cL_law 559 = .ok (.iconst 1, 1) := by decide +kernel
theorem dL_law_560 : decode cL_law 560 = .ok (.iadd, 1) := by decide +kernel
theorem dL_law_561 : decode cL_law 561 = .ok (.iaload, 1) := by decide +kernel
theorem dL_law_562 : decode cL_law 562 = .ok (.aload_n 0, 1) := by decide +kernel
theorem dL_law_563 : decode cL_law 563 = .ok (.iload_n 3, 1) := by decide +kernel
theorem dL_law_564 : decode cL_law 564 = .ok (.iconst 2, 1) := by decide +kernel
theorem dL_law_565 : decode cL_law 565 = .ok (.iadd, 1) := by decide +kernel
theorem dL_law_566 : decode cL_law 566 = .ok (.iaload, 1) := by decide +kernel
theorem dL_law_567 : decode cL_law 567 = .ok (.invokevirtual 77, 3) := by decide +kernel
theorem dL_law_570 : decode cL_law 570 = .ok (.if_icmp .eq 493, 3) := by decide +kernel
theorem dL_law_573 : decode cL_law 573 = .ok (.iconst 0, 1) := by decide +kernel
theorem dL_law_574 : decode cL_law 574 = .ok (.ireturn, 1) := by decide +kernel
theorem dL_law_575 : decode cL_law 575 = .ok (.aload_n 1, 1) := by decide +kernel
theorem dL_law_576 : decode cL_law 576 = .ok (.aload_n 0, 1) := by decide +kernel
theorem dL_law_577 : decode cL_law 577 = .ok (.iload_n 3, 1) := by decide +kernel
theorem dL_law_578 : decode cL_law 578 = .ok (.iconst 1, 1) := by decide +kernel
theorem dL_law_579 : decode cL_law 579 = .ok (.iadd, 1) := by decide +kernel
theorem dL_law_580 : decode cL_law 580 = .ok (.iaload, 1) := by decide +kernel
theorem dL_law_581 : decode cL_law 581 = .ok (.aload_n 0, 1) := by decide +kernel
theorem dL_law_582 : decode cL_law 582 = .ok (.iload_n 3, 1) := by decide +kernel
theorem dL_law_583 : decode cL_law 583 = .ok (.iconst 2, 1) := by decide +kernel
theorem dL_law_584 : decode cL_law 584 = .ok (.iadd, 1) := by decide +kernel
theorem dL_law_585 : decode cL_law 585 = .ok (.iaload, 1) := by decide +kernel
theorem dL_law_586 : decode cL_law 586 = .ok (.aload_n 0, 1) := by decide +kernel
theorem dL_law_587 : decode cL_law 587 = .ok (.iload_n 3, 1) := by decide +kernel
theorem dL_law_588 : decode cL_law 588 = .ok (.iconst 3, 1) := by decide +kernel
theorem dL_law_589 : decode cL_law 589 = .ok (.iadd, 1) := by decide +kernel
theorem dL_law_590 : decode cL_law 590 = .ok (.iaload, 1) := by decide +kernel
theorem dL_law_591 : decode cL_law 591 = .ok (.aload_n 0, 1) := by decide +kernel
theorem dL_law_592 : decode cL_law 592 = .ok (.iload_n 3, 1) := by decide +kernel
theorem dL_law_593 : decode cL_law 593 = .ok (.iconst 4, 1) := by decide +kernel
theorem dL_law_594 : decode cL_law 594 = .ok (.iadd, 1) := by decide +kernel
theorem dL_law_595 : decode cL_law 595 = .ok (.iaload, 1) := by decide +kernel
theorem dL_law_596 : decode cL_law 596 = .ok (.invokevirtual 78, 3) := by decide +kernel
theorem dL_law_599 : decode cL_law 599 = .ok (.aload_n 2, 1) := by decide +kernel
theorem dL_law_600 : decode cL_law 600 = .ok (.aload_n 0, 1) := by decide +kernel
theorem dL_law_601 : decode cL_law 601 = .ok (.iload_n 3, 1) := by decide +kernel
theorem dL_law_602 : decode cL_law 602 = .ok (.iconst 1, 1) := by decide +kernel
theorem dL_law_603 : decode cL_law 603 = .ok (.iadd, 1) := by decide +kernel
theorem dL_law_604 : decode cL_law 604 = .ok (.iaload, 1) := by decide +kernel
theorem dL_law_605 : decode cL_law 605 = .ok (.aload_n 0, 1) := by decide +kernel
theorem dL_law_606 : decode cL_law 606 = .ok (.iload_n 3, 1) := by decide +kernel
theorem dL_law_607 : decode cL_law 607 = .ok (.iconst 2, 1) := by decide +kernel
theorem dL_law_608 : decode cL_law 608 = .ok (.iadd, 1) := by decide +kernel
theorem dL_law_609 : decode cL_law 609 = .ok (.iaload, 1) := by decide +kernel
theorem dL_law_610 : decode cL_law 610 = .ok (.aload_n 0, 1) := by decide +kernel
theorem dL_law_611 : decode cL_law 611 = .ok (.iload_n 3, 1) := by decide +kernel
theorem dL_law_612 : decode cL_law 612 = .ok (.iconst 3, 1) := by decide +kernel
theorem dL_law_613 : decode cL_law 613 = .ok (.iadd, 1) := by decide +kernel
theorem dL_law_614 : decode cL_law 614 = .ok (.iaload, 1) := by decide +kernel
theorem dL_law_615 : decode cL_law 615 = .ok (.aload_n 0, 1) := by decide +kernel
theorem dL_law_616 : decode cL_law 616 = .ok (.iload_n 3, 1) := by decide +kernel
theorem dL_law_617 : decode cL_law 617 = .ok (.iconst 4, 1) := by decide +kernel
theorem dL_law_618 : decode cL_law 618 = .ok (.iadd, 1) := by decide +kernel
theorem dL_law_619 : decode cL_law 619 = .ok (.iaload, 1) := by decide +kernel
theorem dL_law_620 : decode cL_law 620 = .ok (.invokevirtual 82, 3) := by decide +kernel
theorem dL_law_623 : decode cL_law 623 = .ok (.if_icmp .eq 440, 3) := by decide +kernel
theorem dL_law_626 : decode cL_law 626 = .ok (.iconst 0, 1) := by decide +kernel
theorem dL_law_627 : decode cL_law 627 = .ok (.ireturn, 1) := by decide +kernel
theorem dL_law_628 : decode cL_law 628 = .ok (.aload_n 1, 1) := by decide +kernel
theorem dL_law_629 : decode cL_law 629 = .ok (.aload_n 0, 1) := by decide +kernel
theorem dL_law_630 : decode cL_law 630 = .ok (.iload_n 3, 1) := by decide +kernel
theorem dL_law_631 : decode cL_law 631 = .ok (.iconst 1, 1) := by decide +kernel
theorem dL_law_632 : decode cL_law 632 = .ok (.iadd, 1) := by decide +kernel
theorem dL_law_633 : decode cL_law 633 = .ok (.iaload, 1) := by decide +kernel
theorem dL_law_634 : decode cL_law 634 = .ok (.ifCond .eq 7, 3) := by decide +kernel
theorem dL_law_637 : decode cL_law 637 = .ok (.iconst 1, 1) := by decide +kernel
theorem dL_law_638 : decode cL_law 638 = .ok (.goto 4, 3) := by decide +kernel
theorem dL_law_641 : decode cL_law 641 = .ok (.iconst 0, 1) := by decide +kernel
theorem dL_law_642 : decode cL_law 642 = .ok (.invokevirtual 83, 3) := by decide +kernel
theorem dL_law_645 : decode cL_law 645 = .ok (.aload_n 2, 1) := by decide +kernel
theorem dL_law_646 : decode cL_law 646 = .ok (.aload_n 0, 1) := by decide +kernel
theorem dL_law_647 : decode cL_law 647 = .ok (.iload_n 3, 1) := by decide +kernel
theorem dL_law_648 : decode cL_law 648 = .ok (.iconst 1, 1) := by decide +kernel
theorem dL_law_649 : decode cL_law 649 = .ok (.iadd, 1) := by decide +kernel
theorem dL_law_650 : decode cL_law 650 = .ok (.iaload, 1) := by decide +kernel
theorem dL_law_651 : decode cL_law 651 = .ok (.ifCond .eq 7, 3) := by decide +kernel
theorem dL_law_654 : decode cL_law 654 = .ok (.iconst 1, 1) := by decide +kernel
theorem dL_law_655 : decode cL_law 655 = .ok (.goto 4, 3) := by decide +kernel
theorem dL_law_658 : decode cL_law 658 = .ok (.iconst 0, 1) := by decide +kernel
theorem dL_law_659 : decode cL_law 659 = .ok (.invokevirtual 87, 3) := by decide +kernel
theorem dL_law_662 : decode cL_law 662 = .ok (.if_icmp .eq 401, 3) := by decide +kernel
theorem dL_law_665 : decode cL_law 665 = .ok (.iconst 0, 1) := by decide +kernel
theorem dL_law_666 : decode cL_law 666 = .ok (.ireturn, 1) := by decide +kernel
theorem dL_law_667 : decode cL_law 667 = .ok (.aload_n 1, 1) := by decide +kernel
theorem dL_law_668 : decode cL_law 668 = .ok (.aload_n 0, 1) := by decide +kernel
theorem dL_law_669 : decode cL_law 669 = .ok (.iload_n 3, 1) := by decide +kernel
theorem dL_law_670 : decode cL_law 670 = .ok (.iconst 1, 1) := by decide +kernel
theorem dL_law_671 : decode cL_law 671 = .ok (.iadd, 1) := by decide +kernel
theorem dL_law_672 : decode cL_law 672 = .ok (.iaload, 1) := by decide +kernel
theorem dL_law_673 : decode cL_law 673 = .ok (.aload_n 0, 1) := by decide +kernel
theorem dL_law_674 : decode cL_law 674 = .ok (.iload_n 3, 1) := by decide +kernel
theorem dL_law_675 : decode cL_law 675 = .ok (.iconst 2, 1) := by decide +kernel
theorem dL_law_676 : decode cL_law 676 = .ok (.iadd, 1) := by decide +kernel
theorem dL_law_677 : decode cL_law 677 = .ok (.iaload, 1) := by decide +kernel
theorem dL_law_678 : decode cL_law 678 = .ok (.invokevirtual 88, 3) := by decide +kernel
theorem dL_law_681 : decode cL_law 681 = .ok (.aload_n 2, 1) := by decide +kernel
theorem dL_law_682 : decode cL_law 682 = .ok (.aload_n 0, 1) := by decide +kernel
theorem dL_law_683 : decode cL_law 683 = .ok (.iload_n 3, 1) := by decide +kernel
theorem dL_law_684 : decode cL_law 684 = .ok (.iconst 1, 1) := by decide +kernel
theorem dL_law_685 : decode cL_law 685 = .ok (.iadd, 1) := by decide +kernel
theorem dL_law_686 : decode cL_law 686 = .ok (.iaload, 1) := by decide +kernel
theorem dL_law_687 : decode cL_law 687 = .ok (.aload_n 0, 1) := by decide +kernel
theorem dL_law_688 : decode cL_law 688 = .ok (.iload_n 3, 1) := by decide +kernel
theorem dL_law_689 : decode cL_law 689 = .ok (.iconst 2, 1) := by decide +kernel
theorem dL_law_690 : decode cL_law 690 = .ok (.iadd, 1) := by decide +kernel
theorem dL_law_691 : decode cL_law 691 = .ok (.iaload, 1) := by decide +kernel
theorem dL_law_692 : decode cL_law 692 = .ok (.invokevirtual 91, 3) := by decide +kernel
theorem dL_law_695 : decode cL_law 695 = .ok (.if_icmp .eq 368, 3) := by decide +kernel
theorem dL_law_698 : decode cL_law 698 = .ok (.iconst 0, 1) := by decide +kernel
theorem dL_law_699 : decode cL_law 699 = .ok (.ireturn, 1) := by decide +kernel
theorem dL_law_700 : decode cL_law 700 = .ok (.aload_n 1, 1) := by decide +kernel
theorem dL_law_701 : decode cL_law 701 = .ok (.aload_n 0, 1) := by decide +kernel
theorem dL_law_702 : decode cL_law 702 = .ok (.iload_n 3, 1) := by decide +kernel
theorem dL_law_703 : decode cL_law 703 = .ok (.iconst 1, 1) := by decide +kernel
theorem dL_law_704 : decode cL_law 704 = .ok (.iadd, 1) := by decide +kernel
theorem dL_law_705 : decode cL_law 705 = .ok (.iaload, 1) := by decide +kernel
theorem dL_law_706 : decode cL_law 706 = .ok (.aload_n 0, 1) := by decide +kernel
theorem dL_law_707 : decode cL_law 707 = .ok (.iload_n 3, 1) := by decide +kernel
theorem dL_law_708 : decode cL_law 708 = .ok (.iconst 2, 1) := by decide +kernel
theorem dL_law_709 : decode cL_law 709 = .ok (.iadd, 1) := by decide +kernel
theorem dL_law_710 : decode cL_law 710 = .ok (.iaload, 1) := by decide +kernel
theorem dL_law_711 : decode cL_law 711 = .ok (.aload_n 0, 1) := by decide +kernel
theorem dL_law_712 : decode cL_law 712 = .ok (.iload_n 3, 1) := by decide +kernel
theorem dL_law_713 : decode cL_law 713 = .ok (.iconst 3, 1) := by decide +kernel
theorem dL_law_714 : decode cL_law 714 = .ok (.iadd, 1) := by decide +kernel
theorem dL_law_715 : decode cL_law 715 = .ok (.iaload, 1) := by decide +kernel
theorem dL_law_716 : decode cL_law 716 = .ok (.ifCond .eq 7, 3) := by decide +kernel
theorem dL_law_719 : decode cL_law 719 = .ok (.iconst 1, 1) := by decide +kernel
theorem dL_law_720 : decode cL_law 720 = .ok (.goto 4, 3) := by decide +kernel
theorem dL_law_723 : decode cL_law 723 = .ok (.iconst 0, 1) := by decide +kernel
theorem dL_law_724 : decode cL_law 724 = .ok (.invokevirtual 92, 3) := by decide +kernel
theorem dL_law_727 : decode cL_law 727 = .ok (.aload_n 2, 1) := by decide +kernel
theorem dL_law_728 : decode cL_law 728 = .ok (.aload_n 0, 1) := by decide +kernel
theorem dL_law_729 : decode cL_law 729 = .ok (.iload_n 3, 1) := by decide +kernel
theorem dL_law_730 : decode cL_law 730 = .ok (.iconst 1, 1) := by decide +kernel
theorem dL_law_731 : decode cL_law 731 = .ok (.iadd, 1) := by decide +kernel
theorem dL_law_732 : decode cL_law 732 = .ok (.iaload, 1) := by decide +kernel
theorem dL_law_733 : decode cL_law 733 = .ok (.aload_n 0, 1) := by decide +kernel
theorem dL_law_734 : decode cL_law 734 = .ok (.iload_n 3, 1) := by decide +kernel
theorem dL_law_735 : decode cL_law 735 = .ok (.iconst 2, 1) := by decide +kernel
theorem dL_law_736 : decode cL_law 736 = .ok (.iadd, 1) := by decide +kernel
theorem dL_law_737 : decode cL_law 737 = .ok (.iaload, 1) := by decide +kernel
theorem dL_law_738 : decode cL_law 738 = .ok (.aload_n 0, 1) := by decide +kernel
theorem dL_law_739 : decode cL_law 739 = .ok (.iload_n 3, 1) := by decide +kernel
theorem dL_law_740 : decode cL_law 740 = .ok (.iconst 3, 1) := by decide +kernel
theorem dL_law_741 : decode cL_law 741 = .ok (.iadd, 1) := by decide +kernel
theorem dL_law_742 : decode cL_law 742 = .ok (.iaload, 1) := by decide +kernel
theorem dL_law_743 : decode cL_law 743 = .ok (.ifCond .eq 7, 3) := by decide +kernel
theorem dL_law_746 : decode cL_law 746 = .ok (.iconst 1, 1) := by decide +kernel
theorem dL_law_747 : decode cL_law 747 = .ok (.goto 4, 3) := by decide +kernel
theorem dL_law_750 : decode cL_law 750 = .ok (.iconst 0, 1) := by decide +kernel
theorem dL_law_751 : decode cL_law 751 = .ok (.invokevirtual 96, 3) := by decide +kernel
theorem dL_law_754 : decode cL_law 754 = .ok (.if_icmp .eq 309, 3) := by decide +kernel
theorem dL_law_757 : decode cL_law 757 = .ok (.iconst 0, 1) := by decide +kernel
theorem dL_law_758 : decode cL_law 758 = .ok (.ireturn, 1) := by decide +kernel
theorem dL_law_759 : decode cL_law 759 = .ok (.aload_n 1, 1) := by decide +kernel
theorem dL_law_760 : decode cL_law 760 = .ok (.aload_n 0, 1) := by decide +kernel
theorem dL_law_761 : decode cL_law 761 = .ok (.iload_n 3, 1) := by decide +kernel
theorem dL_law_762 : decode cL_law 762 = .ok (.iconst 1, 1) := by decide +kernel
theorem dL_law_763 : decode cL_law 763 = .ok (.iadd, 1) := by decide +kernel
theorem dL_law_764 : decode cL_law 764 = .ok (.iaload, 1) := by decide +kernel
theorem dL_law_765 : decode cL_law 765 = .ok (.aload_n 0, 1) := by decide +kernel
theorem dL_law_766 : decode cL_law 766 = .ok (.iload_n 3, 1) := by decide +kernel
theorem dL_law_767 : decode cL_law 767 = .ok (.iconst 2, 1) := by decide +kernel
theorem dL_law_768 : decode cL_law 768 = .ok (.iadd, 1) := by decide +kernel
theorem dL_law_769 : decode cL_law 769 = .ok (.iaload, 1) := by decide +kernel
theorem dL_law_770 : decode cL_law 770 = .ok (.invokevirtual 97, 3) := by decide +kernel
theorem dL_law_773 : decode cL_law 773 = .ok (.aload_n 2, 1) := by decide +kernel
theorem dL_law_774 : decode cL_law 774 = .ok (.aload_n 0, 1) := by decide +kernel
theorem dL_law_775 : decode cL_law 775 = .ok (.iload_n 3, 1) := by decide +kernel
theorem dL_law_776 : decode cL_law 776 = .ok (.iconst 1, 1) := by decide +kernel
theorem dL_law_777 : decode cL_law 777 = .ok (.iadd, 1) := by decide +kernel
theorem dL_law_778 : decode cL_law 778 = .ok (.iaload, 1) := by decide +kernel
theorem dL_law_779 : decode cL_law 779 = .ok (.aload_n 0, 1) := by decide +kernel
theorem dL_law_780 : decode cL_law 780 = .ok (.iload_n 3, 1) := by decide +kernel
theorem dL_law_781 : decode cL_law 781 = .ok (.iconst 2, 1) := by decide +kernel
theorem dL_law_782 : decode cL_law 782 = .ok (.iadd, 1) := by decide +kernel
theorem dL_law_783 : decode cL_law 783 = .ok (.iaload, 1) := by decide +kernel
theorem dL_law_784 : decode cL_law 784 = .ok (.invokevirtual 100, 3) := by decide +kernel
theorem dL_law_787 : decode cL_law 787 = .ok (.if_icmp .eq 276, 3) := by decide +kernel
theorem dL_law_790 : decode cL_law 790 = .ok (.iconst 0, 1) := by decide +kernel
theorem dL_law_791 : decode cL_law 791 = .ok (.ireturn, 1) := by decide +kernel
theorem dL_law_792 : decode cL_law 792 = .ok (.aload_n 1, 1) := by decide +kernel
theorem dL_law_793 : decode cL_law 793 = .ok (.invokevirtual 101, 3) := by decide +kernel
theorem dL_law_796 : decode cL_law 796 = .ok (.aload_n 2, 1) := by decide +kernel
theorem dL_law_797 : decode cL_law 797 = .ok (.invokevirtual 104, 3) := by decide +kernel
theorem dL_law_800 : decode cL_law 800 = .ok (.if_icmp .eq 263, 3) := by decide +kernel
theorem dL_law_803 : decode cL_law 803 = .ok (.iconst 0, 1) := by decide +kernel
theorem dL_law_804 : decode cL_law 804 = .ok (.ireturn, 1) := by decide +kernel
theorem dL_law_805 : decode cL_law 805 = .ok (.aload_n 1, 1) := by decide +kernel
theorem dL_law_806 : decode cL_law 806 = .ok (.aload_n 0, 1) := by decide +kernel
theorem dL_law_807 : decode cL_law 807 = .ok (.iload_n 3, 1) := by decide +kernel
theorem dL_law_808 : decode cL_law 808 = .ok (.iconst 1, 1) := by decide +kernel
theorem dL_law_809 : decode cL_law 809 = .ok (.iadd, 1) := by decide +kernel
theorem dL_law_810 : decode cL_law 810 = .ok (.iaload, 1) := by decide +kernel
theorem dL_law_811 : decode cL_law 811 = .ok (.invokevirtual 105, 3) := by decide +kernel
theorem dL_law_814 : decode cL_law 814 = .ok (.aload_n 2, 1) := by decide +kernel
theorem dL_law_815 : decode cL_law 815 = .ok (.aload_n 0, 1) := by decide +kernel
theorem dL_law_816 : decode cL_law 816 = .ok (.iload_n 3, 1) := by decide +kernel
theorem dL_law_817 : decode cL_law 817 = .ok (.iconst 1, 1) := by decide +kernel
theorem dL_law_818 : decode cL_law 818 = .ok (.iadd, 1) := by decide +kernel
theorem dL_law_819 : decode cL_law 819 = .ok (.iaload, 1) := by decide +kernel
theorem dL_law_820 : decode cL_law 820 = .ok (.invokevirtual 108, 3) := by decide +kernel
theorem dL_law_823 : decode cL_law 823 = .ok (.if_icmp .eq 240, 3) := by decide +kernel
theorem dL_law_826 : decode cL_law 826 = .ok (.iconst 0, 1) := by decide +kernel
theorem dL_law_827 : decode cL_law 827 = .ok (.ireturn, 1) := by decide +kernel
theorem dL_law_828 : decode cL_law 828 = .ok (.aload_n 1, 1) := by decide +kernel
theorem dL_law_829 : decode cL_law 829 = .ok (.aload_n 0, 1) := by decide +kernel
theorem dL_law_830 : decode cL_law 830 = .ok (.iload_n 3, 1) := by decide +kernel
theorem dL_law_831 : decode cL_law 831 = .ok (.iconst 1, 1) := by decide +kernel
theorem dL_law_832 : decode cL_law 832 = .ok (.iadd, 1) := by decide +kernel
theorem dL_law_833 : decode cL_law 833 = .ok (.iaload, 1) := by decide +kernel
theorem dL_law_834 : decode cL_law 834 = .ok (.aload_n 0, 1) := by decide +kernel
theorem dL_law_835 : decode cL_law 835 = .ok (.iload_n 3, 1) := by decide +kernel
theorem dL_law_836 : decode cL_law 836 = .ok (.iconst 2, 1) := by decide +kernel
theorem dL_law_837 : decode cL_law 837 = .ok (.iadd, 1) := by decide +kernel
theorem dL_law_838 : decode cL_law 838 = .ok (.iaload, 1) := by decide +kernel
theorem dL_law_839 : decode cL_law 839 = .ok (.aload_n 0, 1) := by decide +kernel
theorem dL_law_840 : decode cL_law 840 = .ok (.iload_n 3, 1) := by decide +kernel
theorem dL_law_841 : decode cL_law 841 = .ok (.iconst 3, 1) := by decide +kernel
theorem dL_law_842 : decode cL_law 842 = .ok (.iadd, 1) := by decide +kernel
theorem dL_law_843 : decode cL_law 843 = .ok (.iaload, 1) := by decide +kernel
theorem dL_law_844 : decode cL_law 844 = .ok (.invokevirtual 109, 3) := by decide +kernel
theorem dL_law_847 : decode cL_law 847 = .ok (.aload_n 2, 1) := by decide +kernel
theorem dL_law_848 : decode cL_law 848 = .ok (.aload_n 0, 1) := by decide +kernel
theorem dL_law_849 : decode cL_law 849 = .ok (.iload_n 3, 1) := by decide +kernel
theorem dL_law_850 : decode cL_law 850 = .ok (.iconst 1, 1) := by decide +kernel
theorem dL_law_851 : decode cL_law 851 = .ok (.iadd, 1) := by decide +kernel
theorem dL_law_852 : decode cL_law 852 = .ok (.iaload, 1) := by decide +kernel
theorem dL_law_853 : decode cL_law 853 = .ok (.aload_n 0, 1) := by decide +kernel
theorem dL_law_854 : decode cL_law 854 = .ok (.iload_n 3, 1) := by decide +kernel
theorem dL_law_855 : decode cL_law 855 = .ok (.iconst 2, 1) := by decide +kernel
theorem dL_law_856 : decode cL_law 856 = .ok (.iadd, 1) := by decide +kernel
theorem dL_law_857 : decode cL_law 857 = .ok (.iaload, 1) := by decide +kernel
theorem dL_law_858 : decode cL_law 858 = .ok (.aload_n 0, 1) := by decide +kernel
theorem dL_law_859 : decode cL_law 859 = .ok (.iload_n 3, 1) := by decide +kernel
theorem dL_law_860 : decode cL_law 860 = .ok (.iconst 3, 1) := by decide +kernel
theorem dL_law_861 : decode cL_law 861 = .ok (.iadd, 1) := by decide +kernel
theorem dL_law_862 : decode cL_law 862 = .ok (.iaload, 1) := by decide +kernel
theorem dL_law_863 : decode cL_law 863 = .ok (.invokevirtual 112, 3) := by decide +kernel
theorem dL_law_866 : decode cL_law 866 = .ok (.if_icmp .eq 197, 3) := by decide +kernel
theorem dL_law_869 : decode cL_law 869 = .ok (.iconst 0, 1) := by decide +kernel
theorem dL_law_870 : decode cL_law 870 = .ok (.ireturn, 1) := by decide +kernel
theorem dL_law_871 : decode cL_law 871 = .ok (.aload_n 1, 1) := by decide +kernel
theorem dL_law_872 : decode cL_law 872 = .ok (.aload_n 0, 1) := by decide +kernel
theorem dL_law_873 : decode cL_law 873 = .ok (.iload_n 3, 1) := by decide +kernel
theorem dL_law_874 : decode cL_law 874 = .ok (.iconst 1, 1) := by decide +kernel
theorem dL_law_875 : decode cL_law 875 = .ok (.iadd, 1) := by decide +kernel
theorem dL_law_876 : decode cL_law 876 = .ok (.iaload, 1) := by decide +kernel
theorem dL_law_877 : decode cL_law 877 = .ok (.aload_n 0, 1) := by decide +kernel
theorem dL_law_878 : decode cL_law 878 = .ok (.iload_n 3, 1) := by decide +kernel
theorem dL_law_879 : decode cL_law 879 = .ok (.iconst 2, 1) := by decide +kernel
theorem dL_law_880 : decode cL_law 880 = .ok (.iadd, 1) := by decide +kernel
theorem dL_law_881 : decode cL_law 881 = .ok (.iaload, 1) := by decide +kernel
theorem dL_law_882 : decode cL_law 882 = .ok (.aload_n 0, 1) := by decide +kernel
theorem dL_law_883 : decode cL_law 883 = .ok (.iload_n 3, 1) := by decide +kernel
theorem dL_law_884 : decode cL_law 884 = .ok (.iconst 3, 1) := by decide +kernel
theorem dL_law_885 : decode cL_law 885 = .ok (.iadd, 1) := by decide +kernel
theorem dL_law_886 : decode cL_law 886 = .ok (.iaload, 1) := by decide +kernel
theorem dL_law_887 : decode cL_law 887 = .ok (.aload_n 0, 1) := by decide +kernel
theorem dL_law_888 : decode cL_law 888 = .ok (.iload_n 3, 1) := by decide +kernel
theorem dL_law_889 : decode cL_law 889 = .ok (.iconst 4, 1) := by decide +kernel
theorem dL_law_890 : decode cL_law 890 = .ok (.iadd, 1) := by decide +kernel
theorem dL_law_891 : decode cL_law 891 = .ok (.iaload, 1) := by decide +kernel
theorem dL_law_892 : decode cL_law 892 = .ok (.ifCond .eq 7, 3) := by decide +kernel
theorem dL_law_895 : decode cL_law 895 = .ok (.iconst 1, 1) := by decide +kernel
theorem dL_law_896 : decode cL_law 896 = .ok (.goto 4, 3) := by decide +kernel
theorem dL_law_899 : decode cL_law 899 = .ok (.iconst 0, 1) := by decide +kernel
theorem dL_law_900 : decode cL_law 900 = .ok (.invokevirtual 113, 3) := by decide +kernel
theorem dL_law_903 : decode cL_law 903 = .ok (.aload_n 2, 1) := by decide +kernel
theorem dL_law_904 : decode cL_law 904 = .ok (.aload_n 0, 1) := by decide +kernel
theorem dL_law_905 : decode cL_law 905 = .ok (.iload_n 3, 1) := by decide +kernel
theorem dL_law_906 : decode cL_law 906 = .ok (.iconst 1, 1) := by decide +kernel
theorem dL_law_907 : decode cL_law 907 = .ok (.iadd, 1) := by decide +kernel
theorem dL_law_908 : decode cL_law 908 = .ok (.iaload, 1) := by decide +kernel
theorem dL_law_909 : decode cL_law 909 = .ok (.aload_n 0, 1) := by decide +kernel
theorem dL_law_910 : decode cL_law 910 = .ok (.iload_n 3, 1) := by decide +kernel
theorem dL_law_911 : decode cL_law 911 = .ok (.iconst 2, 1) := by decide +kernel
theorem dL_law_912 : decode cL_law 912 = .ok (.iadd, 1) := by decide +kernel
theorem dL_law_913 : decode cL_law 913 = .ok (.iaload, 1) := by decide +kernel
theorem dL_law_914 : decode cL_law 914 = .ok (.aload_n 0, 1) := by decide +kernel
theorem dL_law_915 : decode cL_law 915 = .ok (.iload_n 3, 1) := by decide +kernel
theorem dL_law_916 : decode cL_law 916 = .ok (.iconst 3, 1) := by decide +kernel
theorem dL_law_917 : decode cL_law 917 = .ok (.iadd, 1) := by decide +kernel
theorem dL_law_918 : decode cL_law 918 = .ok (.iaload, 1) := by decide +kernel
theorem dL_law_919 : decode cL_law 919 = .ok (.aload_n 0, 1) := by decide +kernel
theorem dL_law_920 : decode cL_law 920 = .ok (.iload_n 3, 1) := by decide +kernel
theorem dL_law_921 : decode cL_law 921 = .ok (.iconst 4, 1) := by decide +kernel
theorem dL_law_922 : decode cL_law 922 = .ok (.iadd, 1) := by decide +kernel
theorem dL_law_923 : decode cL_law 923 = .ok (.iaload, 1) := by decide +kernel
theorem dL_law_924 : decode cL_law 924 = .ok (.ifCond .eq 7, 3) := by decide +kernel
theorem dL_law_927 : decode cL_law 927 = .ok (.iconst 1, 1) := by decide +kernel
theorem dL_law_928 : decode cL_law 928 = .ok (.goto 4, 3) := by decide +kernel
theorem dL_law_931 : decode cL_law 931 = .ok (.iconst 0, 1) := by decide +kernel
theorem dL_law_932 : decode cL_law 932 = .ok (.invokevirtual 117, 3) := by decide +kernel
theorem dL_law_935 : decode cL_law 935 = .ok (.if_icmp .eq 128, 3) := by decide +kernel
theorem dL_law_938 : decode cL_law 938 = .ok (.iconst 0, 1) := by decide +kernel
theorem dL_law_939 : decode cL_law 939 = .ok (.ireturn, 1) := by decide +kernel
theorem dL_law_940 : decode cL_law 940 = .ok (.aload_n 1, 1) := by decide +kernel
theorem dL_law_941 : decode cL_law 941 = .ok (.aload_n 0, 1) := by decide +kernel
theorem dL_law_942 : decode cL_law 942 = .ok (.iload_n 3, 1) := by decide +kernel
theorem dL_law_943 : decode cL_law 943 = .ok (.iconst 1, 1) := by decide +kernel
theorem dL_law_944 : decode cL_law 944 = .ok (.iadd, 1) := by decide +kernel
theorem dL_law_945 : decode cL_law 945 = .ok (.iaload, 1) := by decide +kernel
theorem dL_law_946 : decode cL_law 946 = .ok (.i2l, 1) := by decide +kernel
theorem dL_law_947 : decode cL_law 947 = .ok (.bipush 32, 2) := by decide +kernel
theorem dL_law_949 : decode cL_law 949 = .ok (.lshl, 1) := by decide +kernel
theorem dL_law_950 : decode cL_law 950 = .ok (.aload_n 0, 1) := by decide +kernel
theorem dL_law_951 : decode cL_law 951 = .ok (.iload_n 3, 1) := by decide +kernel
theorem dL_law_952 : decode cL_law 952 = .ok (.iconst 2, 1) := by decide +kernel
theorem dL_law_953 : decode cL_law 953 = .ok (.iadd, 1) := by decide +kernel
theorem dL_law_954 : decode cL_law 954 = .ok (.iaload, 1) := by decide +kernel
theorem dL_law_955 : decode cL_law 955 = .ok (.i2l, 1) := by decide +kernel
theorem dL_law_956 : decode cL_law 956 = .ok (.ldc2_w 118, 3) := by decide +kernel
theorem dL_law_959 : decode cL_law 959 = .ok (.land, 1) := by decide +kernel
theorem dL_law_960 : decode cL_law 960 = .ok (.lor, 1) := by decide +kernel
theorem dL_law_961 : decode cL_law 961 = .ok (.invokevirtual 120, 3) := by decide +kernel
theorem dL_law_964 : decode cL_law 964 = .ok (.aload_n 2, 1) := by decide +kernel
theorem dL_law_965 : decode cL_law 965 = .ok (.aload_n 0, 1) := by decide +kernel
theorem dL_law_966 : decode cL_law 966 = .ok (.iload_n 3, 1) := by decide +kernel
theorem dL_law_967 : decode cL_law 967 = .ok (.iconst 1, 1) := by decide +kernel
theorem dL_law_968 : decode cL_law 968 = .ok (.iadd, 1) := by decide +kernel
theorem dL_law_969 : decode cL_law 969 = .ok (.iaload, 1) := by decide +kernel
theorem dL_law_970 : decode cL_law 970 = .ok (.i2l, 1) := by decide +kernel
theorem dL_law_971 : decode cL_law 971 = .ok (.bipush 32, 2) := by decide +kernel
theorem dL_law_973 : decode cL_law 973 = .ok (.lshl, 1) := by decide +kernel
theorem dL_law_974 : decode cL_law 974 = .ok (.aload_n 0, 1) := by decide +kernel
theorem dL_law_975 : decode cL_law 975 = .ok (.iload_n 3, 1) := by decide +kernel
theorem dL_law_976 : decode cL_law 976 = .ok (.iconst 2, 1) := by decide +kernel
theorem dL_law_977 : decode cL_law 977 = .ok (.iadd, 1) := by decide +kernel
theorem dL_law_978 : decode cL_law 978 = .ok (.iaload, 1) := by decide +kernel
theorem dL_law_979 : decode cL_law 979 = .ok (.i2l, 1) := by decide +kernel
theorem dL_law_980 : decode cL_law 980 = .ok (.ldc2_w 118, 3) := by decide +kernel
theorem dL_law_983 : decode cL_law 983 = .ok (.land, 1) := by decide +kernel
theorem dL_law_984 : decode cL_law 984 = .ok (.lor, 1) := by decide +kernel
theorem dL_law_985 : decode cL_law 985 = .ok (.invokevirtual 124, 3) := by decide +kernel
theorem dL_law_988 : decode cL_law 988 = .ok (.lcmp, 1) := by decide +kernel
theorem dL_law_989 : decode cL_law 989 = .ok (.ifCond .eq 74, 3) := by decide +kernel
theorem dL_law_992 : decode cL_law 992 = .ok (.iconst 0, 1) := by decide +kernel
theorem dL_law_993 : decode cL_law 993 = .ok (.ireturn, 1) := by decide +kernel
theorem dL_law_994 : decode cL_law 994 = .ok (.aload_n 1, 1) := by decide +kernel
theorem dL_law_995 : decode cL_law 995 = .ok (.aload_n 0, 1) := by decide +kernel
theorem dL_law_996 : decode cL_law 996 = .ok (.iload_n 3, 1) := by decide +kernel
theorem dL_law_997 : decode cL_law 997 = .ok (.iconst 1, 1) := by decide +kernel
theorem dL_law_998 : decode cL_law 998 = .ok (.iadd, 1) := by decide +kernel
theorem dL_law_999 : decode cL_law 999 = .ok (.iaload, 1) := by decide +kernel
theorem dL_law_1000 : decode cL_law 1000 = .ok (.invokevirtual 125, 3) := by decide +kernel
theorem dL_law_1003 : decode cL_law 1003 = .ok (.aload_n 2, 1) := by decide +kernel
theorem dL_law_1004 : decode cL_law 1004 = .ok (.aload_n 0, 1) := by decide +kernel
theorem dL_law_1005 : decode cL_law 1005 = .ok (.iload_n 3, 1) := by decide +kernel
theorem dL_law_1006 : decode cL_law 1006 = .ok (.iconst 1, 1) := by decide +kernel
theorem dL_law_1007 : decode cL_law 1007 = .ok (.iadd, 1) := by decide +kernel
theorem dL_law_1008 : decode cL_law 1008 = .ok (.iaload, 1) := by decide +kernel
theorem dL_law_1009 : decode cL_law 1009 = .ok (.invokevirtual 128, 3) := by decide +kernel
theorem dL_law_1012 : decode cL_law 1012 = .ok (.if_icmp .eq 51, 3) := by decide +kernel
theorem dL_law_1015 : decode cL_law 1015 = .ok (.iconst 0, 1) := by decide +kernel
theorem dL_law_1016 : decode cL_law 1016 = .ok (.ireturn, 1) := by decide +kernel
theorem dL_law_1017 : decode cL_law 1017 = .ok (.aload_n 1, 1) := by decide +kernel
theorem dL_law_1018 : decode cL_law 1018 = .ok (.aload_n 0, 1) := by decide +kernel
theorem dL_law_1019 : decode cL_law 1019 = .ok (.iload_n 3, 1) := by decide +kernel
theorem dL_law_1020 : decode cL_law 1020 = .ok (.iconst 1, 1) := by decide +kernel
theorem dL_law_1021 : decode cL_law 1021 = .ok (.iadd, 1) := by decide +kernel
theorem dL_law_1022 : decode cL_law 1022 = .ok (.iaload, 1) := by decide +kernel
theorem dL_law_1023 : decode cL_law 1023 = .ok (.invokevirtual 129, 3) := by decide +kernel
theorem dL_law_1026 : decode cL_law 1026 = .ok (.aload_n 2, 1) := by decide +kernel
theorem dL_law_1027 : decode cL_law 1027 = .ok (.aload_n 0, 1) := by decide +kernel
theorem dL_law_1028 : decode cL_law 1028 = .ok (.iload_n 3, 1) := by decide +kernel
theorem dL_law_1029 : decode cL_law 1029 = .ok (.iconst 1, 1) := by decide +kernel
theorem dL_law_1030 : decode cL_law 1030 = .ok (.iadd, 1) := by decide +kernel
theorem dL_law_1031 : decode cL_law 1031 = .ok (.iaload, 1) := by decide +kernel
theorem dL_law_1032 : decode cL_law 1032 = .ok (.invokevirtual 132, 3) := by decide +kernel
theorem dL_law_1035 : decode cL_law 1035 = .ok (.if_icmp .eq 28, 3) := by decide +kernel
theorem dL_law_1038 : decode cL_law 1038 = .ok (.iconst 0, 1) := by decide +kernel
theorem dL_law_1039 : decode cL_law 1039 = .ok (.ireturn, 1) := by decide +kernel
theorem dL_law_1040 : decode cL_law 1040 = .ok (.aload_n 1, 1) := by decide +kernel
theorem dL_law_1041 : decode cL_law 1041 = .ok (.aload_n 0, 1) := by decide +kernel
theorem dL_law_1042 : decode cL_law 1042 = .ok (.iload_n 3, 1) := by decide +kernel
theorem dL_law_1043 : decode cL_law 1043 = .ok (.iconst 1, 1) := by decide +kernel
theorem dL_law_1044 : decode cL_law 1044 = .ok (.iadd, 1) := by decide +kernel
theorem dL_law_1045 : decode cL_law 1045 = .ok (.iaload, 1) := by decide +kernel
theorem dL_law_1046 : decode cL_law 1046 = .ok (.invokevirtual 133, 3) := by decide +kernel
theorem dL_law_1049 : decode cL_law 1049 = .ok (.aload_n 2, 1) := by decide +kernel
theorem dL_law_1050 : decode cL_law 1050 = .ok (.aload_n 0, 1) := by decide +kernel
theorem dL_law_1051 : decode cL_law 1051 = .ok (.iload_n 3, 1) := by decide +kernel
theorem dL_law_1052 : decode cL_law 1052 = .ok (.iconst 1, 1) := by decide +kernel
theorem dL_law_1053 : decode cL_law 1053 = .ok (.iadd, 1) := by decide +kernel
theorem dL_law_1054 : decode cL_law 1054 = .ok (.iaload, 1) := by decide +kernel
theorem dL_law_1055 : decode cL_law 1055 = .ok (.invokevirtual 136, 3) := by decide +kernel
theorem dL_law_1058 : decode cL_law 1058 = .ok (.if_icmp .eq 5, 3) := by decide +kernel
theorem dL_law_1061 : decode cL_law 1061 = .ok (.iconst 0, 1) := by decide +kernel
theorem dL_law_1062 : decode cL_law 1062 = .ok (.ireturn, 1) := by decide +kernel
theorem dL_law_1063 : decode cL_law 1063 = .ok (.iinc 3 6, 3) := by decide +kernel
theorem dL_law_1066 : decode cL_law 1066 = .ok (.goto (-1048), 3) := by decide +kernel
theorem dL_law_1069 : decode cL_law 1069 = .ok (.iconst 1, 1) := by decide +kernel
theorem dL_law_1070 : decode cL_law 1070 = .ok (.ireturn, 1) := by decide +kernel
end
section
/-! ===== zV: from the abstract state S, at pc, with the locals lv and the stack st, the machine comes to Q; a row an instruction over it ===== -/
abbrev zE : Type := Program × Launch × Env × Room × State × MethodId × Array Value × List Frame × Method × Code × (State → Prop) × va_G × (Nat → Prop)
def ep (E : zE) : Program := E.1
def el (E : zE) : Launch := E.2.1
def ee (E : zE) : Env := E.2.2.1
def eR (E : zE) : Room := E.2.2.2.1
def es (E : zE) : State := E.2.2.2.2.1
def em (E : zE) : MethodId := E.2.2.2.2.2.1
def ea (E : zE) : Array Value := E.2.2.2.2.2.2.1
def eb (E : zE) : List Frame := E.2.2.2.2.2.2.2.1
def et (E : zE) : Method := E.2.2.2.2.2.2.2.2.1
def ec (E : zE) : Code := E.2.2.2.2.2.2.2.2.2.1
def eQ (E : zE) : State → Prop := E.2.2.2.2.2.2.2.2.2.2.1
def eD (E : zE) : va_G := E.2.2.2.2.2.2.2.2.2.2.2.1
def eA (E : zE) : Nat → Prop := E.2.2.2.2.2.2.2.2.2.2.2.2
def zV (E : zE) {σ : Type} (wd : σ → va_W) (nL : Nat) (S : σ) (pc : Nat) (lv : List (Nat × Value)) (st : List Value) : Prop :=
  ∀ (H : Heap) (locs : List Loc) (ls : Array Slot), va_P (eD E) vwCl (wd S) H → va_D (eA E) (wd S) → va_S (eA E) (es E).heap H locs → lv_has ls nL lv → W (ep E) (el E) (ee E) (eR E) (es E) (em E) (ea E) (eb E) (et E) (ec E) H locs 0 0 (eQ E) (F0 (em E) pc ls st)
def zNwOk (Nw : State → Prop) : Prop := (∀ u U : State, U.vm = u.vm → Nw u → Nw U) ∧ (∀ u U : State, u.WarmedH U.vm → Nw u → Nw U)
def zCx (E : zE) (rm : Room) (cc : ByteArray) (nL : Nat) (own : String) (Ts : List Cond) (tys : List (ClassId × FieldType)) (Nw : State → Prop) : Prop :=
  (ep E).tables.exec = Jvm.exec ∧ (ec E).code = cc ∧ (ec E).maxLocals = nL ∧ (es E).vm.findClass own = some (em E).cls ∧ (∀ w ∈ Ts, w.before (ea E) (es E) = true) ∧ va_K (eD E) vwCl tys (es E) ∧ (∀ q : Nat, (es E).heap.size ≤ q → eA E q) ∧ Nw (es E) ∧ zNwOk Nw ∧ eR E = rm
def zrem (x y : Int32) : Int32 := x - x / y * y
def zremL (x y : Int64) : Int64 := x - x / y * y
def zshl (x y : Int32) : Int32 := x <<< (y &&& 31)
def zshr (x y : Int32) : Int32 := x >>> (y &&& 31)
def zushr (x y : Int32) : Int32 := (x.toUInt32 >>> (y.toUInt32 &&& Int32.toUInt32 31)).toInt32
def zshlL (x : Int64) (y : Int32) : Int64 := x <<< (y.toInt64 &&& 63)
def zushrL (x : Int64) (y : Int32) : Int64 := (x.toUInt64 >>> (y.toInt64.toUInt64 &&& Int64.toUInt64 63)).toInt64
/-- behind a guard, a branch, a call of the pure program -/
def gd {α : Type} (c : Prop) [Decidable c] (k : Option α) : Option α := if c then k else none
theorem gd_of {α : Type} {c : Prop} [Decidable c] {k : Option α} {z : α} (h : gd c k = some z) : c ∧ k = some z := by
  unfold gd at h
  by_cases hc : c
  · rw [if_pos hc] at h; exact ⟨hc, h⟩
  · rw [if_neg hc] at h; cases h
theorem gd_pos {α : Type} {c : Prop} [Decidable c] {k : Option α} (hc : c) : gd c k = k := if_pos hc
theorem ob_of {α β : Type} {x : Option α} {f : α → Option β} {z : β} (h : x.bind f = some z) : ∃ a, x = some a ∧ f a = some z := by
  cases x with
  | none => cases h
  | some a => exact ⟨a, rfl, h⟩
theorem if_t {α : Type} {c : Prop} [Decidable c] {a b : Option α} {z : α} (hc : c) (h : (if c then a else b) = some z) : a = some z := by rw [if_pos hc] at h; exact h
theorem if_f {α : Type} {c : Prop} [Decidable c] {a b : Option α} {z : α} (hc : ¬ c) (h : (if c then a else b) = some z) : b = some z := by rw [if_neg hc] at h; exact h
section ZV
variable {E : zE} {rm : Room} {σ : Type} {wd : σ → va_W} {nL : Nat} {S : σ} {pc n tgt : Nat} {lv : List (Nat × Value)} {st : List Value} {cc : ByteArray} {own : String} {Ts : List Cond} {tys : List (ClassId × FieldType)} {Nw : State → Prop}
theorem zV_iconst (C0 : zCx E rm cc nL own Ts tys Nw) {i : Int} {v : Int32} (hdg : decode cc pc = .ok (.iconst i, 1)) (hv : Int32.ofInt i = v) (hn : pc + 1 = n) (k : zV E wd nL S n lv (.int v :: st)) : zV E wd nL S pc lv (st) := by
  subst hn; exact fun H locs ls hP hD hS hl => lv_iconst C0.1 C0.2.1 hdg hv (k H locs ls hP hD hS hl)
theorem zV_bipush (C0 : zCx E rm cc nL own Ts tys Nw) {i : Int} {v : Int32} (hdg : decode cc pc = .ok (.bipush i, 2)) (hv : (Int8.ofInt i).toInt32 = v) (hn : pc + 2 = n) (k : zV E wd nL S n lv (.int v :: st)) : zV E wd nL S pc lv (st) := by
  subst hn; exact fun H locs ls hP hD hS hl => lv_bipush C0.1 C0.2.1 hdg hv (k H locs ls hP hD hS hl)
theorem zV_sipush (C0 : zCx E rm cc nL own Ts tys Nw) {i : Int} {v : Int32} (hdg : decode cc pc = .ok (.sipush i, 3)) (hv : (Int16.ofInt i).toInt32 = v) (hn : pc + 3 = n) (k : zV E wd nL S n lv (.int v :: st)) : zV E wd nL S pc lv (st) := by
  subst hn; exact fun H locs ls hP hD hS hl => lv_sipush C0.1 C0.2.1 hdg hv (k H locs ls hP hD hS hl)
theorem zV_lconst (C0 : zCx E rm cc nL own Ts tys Nw) {i : Fin 2} {v : Int64} (hdg : decode cc pc = .ok (.lconst i, 1)) (hv : Int64.ofNat (i : Nat) = v) (hn : pc + 1 = n) (k : zV E wd nL S n lv (.long v :: st)) : zV E wd nL S pc lv (st) := by
  subst hn; exact fun H locs ls hP hD hS hl => lv_lconst C0.1 C0.2.1 hdg hv (k H locs ls hP hD hS hl)
theorem zV_ldcw (C0 : zCx E rm cc nL own Ts tys Nw) {idx : Nat} {v : Int32} (hdg : decode cc pc = .ok (.ldc_w idx, 3)) (hw : Cond.constant own idx v ∈ Ts) (hn : pc + 3 = n) (k : zV E wd nL S n lv (.int v :: st)) : zV E wd nL S pc lv (st) := by
  subst hn; exact fun H locs ls hP hD hS hl => lv_ldcw C0.1 C0.2.1 C0.2.2.2.1 (C0.2.2.2.2.1 _ hw) hdg (k H locs ls hP hD hS hl)
theorem zV_ldc2 (C0 : zCx E rm cc nL own Ts tys Nw) {idx : Nat} {v : Int64} (hdg : decode cc pc = .ok (.ldc2_w idx, 3)) (hw : Cond.constantLong own idx v ∈ Ts) (hn : pc + 3 = n) (k : zV E wd nL S n lv (.long v :: st)) : zV E wd nL S pc lv (st) := by
  subst hn; exact fun H locs ls hP hD hS hl => lv_ldc2 C0.1 C0.2.1 C0.2.2.2.1 (C0.2.2.2.2.1 _ hw) hdg (k H locs ls hP hD hS hl)
theorem zV_iload_n (C0 : zCx E rm cc nL own Ts tys Nw) (j : Nat) {i : Fin 4} {x : Int32} (hdg : decode cc pc = .ok (.iload_n i, 1)) (hj : lv[j]? = some ((i : Nat), .int x)) (hn : pc + 1 = n) (k : zV E wd nL S n lv (.int x :: st)) : zV E wd nL S pc lv (st) := by
  subst hn; exact fun H locs ls hP hD hS hl => lv_iload_n C0.1 C0.2.1 hdg rfl (lv_at hl j hj) (k H locs ls hP hD hS hl)
theorem zV_iload (C0 : zCx E rm cc nL own Ts tys Nw) (j : Nat) {i : Nat} {x : Int32} (hdg : decode cc pc = .ok (.iload i, 2)) (hj : lv[j]? = some (i, .int x)) (hn : pc + 2 = n) (k : zV E wd nL S n lv (.int x :: st)) : zV E wd nL S pc lv (st) := by
  subst hn; exact fun H locs ls hP hD hS hl => lv_iload C0.1 C0.2.1 hdg (lv_at hl j hj) (k H locs ls hP hD hS hl)
theorem zV_lload_n (C0 : zCx E rm cc nL own Ts tys Nw) (j : Nat) {i : Fin 4} {x : Int64} (hdg : decode cc pc = .ok (.lload_n i, 1)) (hj : lv[j]? = some ((i : Nat), .long x)) (hn : pc + 1 = n) (k : zV E wd nL S n lv (.long x :: st)) : zV E wd nL S pc lv (st) := by
  subst hn; exact fun H locs ls hP hD hS hl => lv_lload_n C0.1 C0.2.1 hdg rfl (lv_at hl j hj) (k H locs ls hP hD hS hl)
theorem zV_lload (C0 : zCx E rm cc nL own Ts tys Nw) (j : Nat) {i : Nat} {x : Int64} (hdg : decode cc pc = .ok (.lload i, 2)) (hj : lv[j]? = some (i, .long x)) (hn : pc + 2 = n) (k : zV E wd nL S n lv (.long x :: st)) : zV E wd nL S pc lv (st) := by
  subst hn; exact fun H locs ls hP hD hS hl => lv_lload C0.1 C0.2.1 hdg (lv_at hl j hj) (k H locs ls hP hD hS hl)
theorem zV_aload_n (C0 : zCx E rm cc nL own Ts tys Nw) (j : Nat) {i : Fin 4} {x : Nat} (hdg : decode cc pc = .ok (.aload_n i, 1)) (hj : lv[j]? = some ((i : Nat), .ref x)) (hn : pc + 1 = n) (k : zV E wd nL S n lv (.ref x :: st)) : zV E wd nL S pc lv (st) := by
  subst hn; exact fun H locs ls hP hD hS hl => lv_aload_n C0.1 C0.2.1 hdg rfl (lv_at hl j hj) (k H locs ls hP hD hS hl)
theorem zV_aload (C0 : zCx E rm cc nL own Ts tys Nw) (j : Nat) {i : Nat} {x : Nat} (hdg : decode cc pc = .ok (.aload i, 2)) (hj : lv[j]? = some (i, .ref x)) (hn : pc + 2 = n) (k : zV E wd nL S n lv (.ref x :: st)) : zV E wd nL S pc lv (st) := by
  subst hn; exact fun H locs ls hP hD hS hl => lv_aload C0.1 C0.2.1 hdg (lv_at hl j hj) (k H locs ls hP hD hS hl)
theorem zV_istore_n (C0 : zCx E rm cc nL own Ts tys Nw) {i0 : Fin 4} {i : Nat} {x : Int32} (lv2 : List (Nat × Value)) (hdg : decode cc pc = .ok (.istore_n i0, 1)) (hi : (i0 : Nat) = i) (hw : (i, Value.int x) :: lv.filter (fun q : Nat × Value => !(q.1 == i) && !(q.1 + 1 == i && q.2.category == 2)) = lv2) (hb : i < nL) (hn : pc + 1 = n) (k : zV E wd nL S n lv2 (st)) : zV E wd nL S pc lv (.int x :: st) := by
  subst hn; exact fun H locs ls hP hD hS hl => lv_istore_n C0.1 C0.2.1 hdg hi hl hb hw (fun ls2 hl2 => k H locs ls2 hP hD hS hl2)
theorem zV_istore (C0 : zCx E rm cc nL own Ts tys Nw)  {i : Nat} {x : Int32} (lv2 : List (Nat × Value)) (hdg : decode cc pc = .ok (.istore i, 2)) (hw : (i, Value.int x) :: lv.filter (fun q : Nat × Value => !(q.1 == i) && !(q.1 + 1 == i && q.2.category == 2)) = lv2) (hb : i < nL) (hn : pc + 2 = n) (k : zV E wd nL S n lv2 (st)) : zV E wd nL S pc lv (.int x :: st) := by
  subst hn; exact fun H locs ls hP hD hS hl => lv_istore C0.1 C0.2.1 hdg hl hb hw (fun ls2 hl2 => k H locs ls2 hP hD hS hl2)
theorem zV_lstore_n (C0 : zCx E rm cc nL own Ts tys Nw) {i0 : Fin 4} {i : Nat} {x : Int64} (lv2 : List (Nat × Value)) (hdg : decode cc pc = .ok (.lstore_n i0, 1)) (hi : (i0 : Nat) = i) (hw : (i, Value.long x) :: lv.filter (fun q : Nat × Value => !(q.1 == i) && (!(q.1 == i + 1) && !(q.1 + 1 == i && q.2.category == 2))) = lv2) (hb : i + 1 < nL) (hn : pc + 1 = n) (k : zV E wd nL S n lv2 (st)) : zV E wd nL S pc lv (.long x :: st) := by
  subst hn; exact fun H locs ls hP hD hS hl => lv_lstore_n C0.1 C0.2.1 hdg hi hl hb hw (fun ls2 hl2 => k H locs ls2 hP hD hS hl2)
theorem zV_lstore (C0 : zCx E rm cc nL own Ts tys Nw)  {i : Nat} {x : Int64} (lv2 : List (Nat × Value)) (hdg : decode cc pc = .ok (.lstore i, 2)) (hw : (i, Value.long x) :: lv.filter (fun q : Nat × Value => !(q.1 == i) && (!(q.1 == i + 1) && !(q.1 + 1 == i && q.2.category == 2))) = lv2) (hb : i + 1 < nL) (hn : pc + 2 = n) (k : zV E wd nL S n lv2 (st)) : zV E wd nL S pc lv (.long x :: st) := by
  subst hn; exact fun H locs ls hP hD hS hl => lv_lstore C0.1 C0.2.1 hdg hl hb hw (fun ls2 hl2 => k H locs ls2 hP hD hS hl2)
theorem zV_astore_n (C0 : zCx E rm cc nL own Ts tys Nw) {i0 : Fin 4} {i : Nat} {x : Nat} (lv2 : List (Nat × Value)) (hdg : decode cc pc = .ok (.astore_n i0, 1)) (hi : (i0 : Nat) = i) (hw : (i, Value.ref x) :: lv.filter (fun q : Nat × Value => !(q.1 == i) && !(q.1 + 1 == i && q.2.category == 2)) = lv2) (hb : i < nL) (hn : pc + 1 = n) (k : zV E wd nL S n lv2 (st)) : zV E wd nL S pc lv (.ref x :: st) := by
  subst hn; exact fun H locs ls hP hD hS hl => lv_astore_n C0.1 C0.2.1 hdg hi hl hb hw (fun ls2 hl2 => k H locs ls2 hP hD hS hl2)
theorem zV_astore (C0 : zCx E rm cc nL own Ts tys Nw)  {i : Nat} {x : Nat} (lv2 : List (Nat × Value)) (hdg : decode cc pc = .ok (.astore i, 2)) (hw : (i, Value.ref x) :: lv.filter (fun q : Nat × Value => !(q.1 == i) && !(q.1 + 1 == i && q.2.category == 2)) = lv2) (hb : i < nL) (hn : pc + 2 = n) (k : zV E wd nL S n lv2 (st)) : zV E wd nL S pc lv (.ref x :: st) := by
  subst hn; exact fun H locs ls hP hD hS hl => lv_astore C0.1 C0.2.1 hdg hl hb hw (fun ls2 hl2 => k H locs ls2 hP hD hS hl2)
theorem zV_iinc (C0 : zCx E rm cc nL own Ts tys Nw) {i : Nat} (j : Nat) {b : Int} {x v : Int32} (lv2 : List (Nat × Value)) (hdg : decode cc pc = .ok (.iinc i b, 3)) (hj : lv[j]? = some (i, .int x)) (hv : x + Int32.ofInt b = v) (hw : (i, Value.int v) :: lv.filter (fun q : Nat × Value => !(q.1 == i) && !(q.1 + 1 == i && q.2.category == 2)) = lv2) (hb : i < nL) (hn : pc + 3 = n) (k : zV E wd nL S n lv2 (st)) : zV E wd nL S pc lv (st) := by
  subst hn; exact fun H locs ls hP hD hS hl => lv_iinc C0.1 C0.2.1 hdg hl hj hv hb hw (fun ls2 hl2 => k H locs ls2 hP hD hS hl2)
theorem zV_iadd (C0 : zCx E rm cc nL own Ts tys Nw) {x y : Int32} (hdg : decode cc pc = .ok (.iadd, 1)) (hn : pc + 1 = n) (k : zV E wd nL S n lv (.int (x + y) :: st)) : zV E wd nL S pc lv (.int y :: .int x :: st) := by
  subst hn; exact fun H locs ls hP hD hS hl => lv_iadd C0.1 C0.2.1 hdg (k H locs ls hP hD hS hl)
theorem zV_isub (C0 : zCx E rm cc nL own Ts tys Nw) {x y : Int32} (hdg : decode cc pc = .ok (.isub, 1)) (hn : pc + 1 = n) (k : zV E wd nL S n lv (.int (x - y) :: st)) : zV E wd nL S pc lv (.int y :: .int x :: st) := by
  subst hn; exact fun H locs ls hP hD hS hl => lv_isub C0.1 C0.2.1 hdg (k H locs ls hP hD hS hl)
theorem zV_imul (C0 : zCx E rm cc nL own Ts tys Nw) {x y : Int32} (hdg : decode cc pc = .ok (.imul, 1)) (hn : pc + 1 = n) (k : zV E wd nL S n lv (.int (x * y) :: st)) : zV E wd nL S pc lv (.int y :: .int x :: st) := by
  subst hn; exact fun H locs ls hP hD hS hl => lv_imul C0.1 C0.2.1 hdg (k H locs ls hP hD hS hl)
theorem zV_iand (C0 : zCx E rm cc nL own Ts tys Nw) {x y : Int32} (hdg : decode cc pc = .ok (.iand, 1)) (hn : pc + 1 = n) (k : zV E wd nL S n lv (.int (x &&& y) :: st)) : zV E wd nL S pc lv (.int y :: .int x :: st) := by
  subst hn; exact fun H locs ls hP hD hS hl => lv_iand C0.1 C0.2.1 hdg (k H locs ls hP hD hS hl)
theorem zV_ior (C0 : zCx E rm cc nL own Ts tys Nw) {x y : Int32} (hdg : decode cc pc = .ok (.ior, 1)) (hn : pc + 1 = n) (k : zV E wd nL S n lv (.int (x ||| y) :: st)) : zV E wd nL S pc lv (.int y :: .int x :: st) := by
  subst hn; exact fun H locs ls hP hD hS hl => lv_ior C0.1 C0.2.1 hdg (k H locs ls hP hD hS hl)
theorem zV_ixor (C0 : zCx E rm cc nL own Ts tys Nw) {x y : Int32} (hdg : decode cc pc = .ok (.ixor, 1)) (hn : pc + 1 = n) (k : zV E wd nL S n lv (.int (x ^^^ y) :: st)) : zV E wd nL S pc lv (.int y :: .int x :: st) := by
  subst hn; exact fun H locs ls hP hD hS hl => lv_ixor C0.1 C0.2.1 hdg (k H locs ls hP hD hS hl)
theorem zV_ishl (C0 : zCx E rm cc nL own Ts tys Nw) {x y : Int32} (hdg : decode cc pc = .ok (.ishl, 1)) (hn : pc + 1 = n) (k : zV E wd nL S n lv (.int (zshl x y) :: st)) : zV E wd nL S pc lv (.int y :: .int x :: st) := by
  subst hn; exact fun H locs ls hP hD hS hl => lv_ishl C0.1 C0.2.1 hdg (k H locs ls hP hD hS hl)
theorem zV_ishr (C0 : zCx E rm cc nL own Ts tys Nw) {x y : Int32} (hdg : decode cc pc = .ok (.ishr, 1)) (hn : pc + 1 = n) (k : zV E wd nL S n lv (.int (zshr x y) :: st)) : zV E wd nL S pc lv (.int y :: .int x :: st) := by
  subst hn; exact fun H locs ls hP hD hS hl => lv_ishr C0.1 C0.2.1 hdg (k H locs ls hP hD hS hl)
theorem zV_idiv (C0 : zCx E rm cc nL own Ts tys Nw) {x y : Int32} (hdg : decode cc pc = .ok (.idiv, 1)) (hne : ¬ y = 0) (hn : pc + 1 = n) (k : zV E wd nL S n lv (.int (x / y) :: st)) : zV E wd nL S pc lv (.int y :: .int x :: st) := by
  subst hn; exact fun H locs ls hP hD hS hl => lv_idiv C0.1 C0.2.1 hdg hne (k H locs ls hP hD hS hl)
theorem zV_irem (C0 : zCx E rm cc nL own Ts tys Nw) {x y : Int32} (hdg : decode cc pc = .ok (.irem, 1)) (hne : ¬ y = 0) (hn : pc + 1 = n) (k : zV E wd nL S n lv (.int (zrem x y) :: st)) : zV E wd nL S pc lv (.int y :: .int x :: st) := by
  subst hn; exact fun H locs ls hP hD hS hl => lv_irem C0.1 C0.2.1 hdg hne (k H locs ls hP hD hS hl)
theorem zV_iushr (C0 : zCx E rm cc nL own Ts tys Nw) {x y : Int32} (hdg : decode cc pc = .ok (.iushr, 1)) (hn : pc + 1 = n) (k : zV E wd nL S n lv (.int (zushr x y) :: st)) : zV E wd nL S pc lv (.int y :: .int x :: st) := by
  subst hn; exact fun H locs ls hP hD hS hl => lv_iushr C0.1 C0.2.1 hdg rfl (k H locs ls hP hD hS hl)
theorem zV_ineg (C0 : zCx E rm cc nL own Ts tys Nw) {x : Int32} (hdg : decode cc pc = .ok (.ineg, 1)) (hn : pc + 1 = n) (k : zV E wd nL S n lv (.int (-x) :: st)) : zV E wd nL S pc lv (.int x :: st) := by
  subst hn; exact fun H locs ls hP hD hS hl => lv_ineg C0.1 C0.2.1 hdg (k H locs ls hP hD hS hl)
theorem zV_i2l (C0 : zCx E rm cc nL own Ts tys Nw) {x : Int32} (hdg : decode cc pc = .ok (.i2l, 1)) (hn : pc + 1 = n) (k : zV E wd nL S n lv (.long x.toInt64 :: st)) : zV E wd nL S pc lv (.int x :: st) := by
  subst hn; exact fun H locs ls hP hD hS hl => lv_i2l C0.1 C0.2.1 hdg rfl (k H locs ls hP hD hS hl)
theorem zV_l2i (C0 : zCx E rm cc nL own Ts tys Nw) {x : Int64} (hdg : decode cc pc = .ok (.l2i, 1)) (hn : pc + 1 = n) (k : zV E wd nL S n lv (.int x.toInt32 :: st)) : zV E wd nL S pc lv (.long x :: st) := by
  subst hn; exact fun H locs ls hP hD hS hl => lv_l2i C0.1 C0.2.1 hdg rfl (k H locs ls hP hD hS hl)
theorem zV_ladd (C0 : zCx E rm cc nL own Ts tys Nw) {x y : Int64} (hdg : decode cc pc = .ok (.ladd, 1)) (hn : pc + 1 = n) (k : zV E wd nL S n lv (.long (x + y) :: st)) : zV E wd nL S pc lv (.long y :: .long x :: st) := by
  subst hn; exact fun H locs ls hP hD hS hl => lv_ladd C0.1 C0.2.1 hdg (k H locs ls hP hD hS hl)
theorem zV_lsub (C0 : zCx E rm cc nL own Ts tys Nw) {x y : Int64} (hdg : decode cc pc = .ok (.lsub, 1)) (hn : pc + 1 = n) (k : zV E wd nL S n lv (.long (x - y) :: st)) : zV E wd nL S pc lv (.long y :: .long x :: st) := by
  subst hn; exact fun H locs ls hP hD hS hl => lv_lsub C0.1 C0.2.1 hdg (k H locs ls hP hD hS hl)
theorem zV_lmul (C0 : zCx E rm cc nL own Ts tys Nw) {x y : Int64} (hdg : decode cc pc = .ok (.lmul, 1)) (hn : pc + 1 = n) (k : zV E wd nL S n lv (.long (x * y) :: st)) : zV E wd nL S pc lv (.long y :: .long x :: st) := by
  subst hn; exact fun H locs ls hP hD hS hl => lv_lmul C0.1 C0.2.1 hdg (k H locs ls hP hD hS hl)
theorem zV_land (C0 : zCx E rm cc nL own Ts tys Nw) {x y : Int64} (hdg : decode cc pc = .ok (.land, 1)) (hn : pc + 1 = n) (k : zV E wd nL S n lv (.long (x &&& y) :: st)) : zV E wd nL S pc lv (.long y :: .long x :: st) := by
  subst hn; exact fun H locs ls hP hD hS hl => lv_land C0.1 C0.2.1 hdg (k H locs ls hP hD hS hl)
theorem zV_lor (C0 : zCx E rm cc nL own Ts tys Nw) {x y : Int64} (hdg : decode cc pc = .ok (.lor, 1)) (hn : pc + 1 = n) (k : zV E wd nL S n lv (.long (x ||| y) :: st)) : zV E wd nL S pc lv (.long y :: .long x :: st) := by
  subst hn; exact fun H locs ls hP hD hS hl => lv_lor C0.1 C0.2.1 hdg (k H locs ls hP hD hS hl)
theorem zV_ldiv (C0 : zCx E rm cc nL own Ts tys Nw) {x y : Int64} (hdg : decode cc pc = .ok (.ldiv, 1)) (hne : ¬ y = 0) (hn : pc + 1 = n) (k : zV E wd nL S n lv (.long (x / y) :: st)) : zV E wd nL S pc lv (.long y :: .long x :: st) := by
  subst hn; exact fun H locs ls hP hD hS hl => lv_ldiv C0.1 C0.2.1 hdg hne (k H locs ls hP hD hS hl)
theorem zV_lrem (C0 : zCx E rm cc nL own Ts tys Nw) {x y : Int64} (hdg : decode cc pc = .ok (.lrem, 1)) (hne : ¬ y = 0) (hn : pc + 1 = n) (k : zV E wd nL S n lv (.long (zremL x y) :: st)) : zV E wd nL S pc lv (.long y :: .long x :: st) := by
  subst hn; exact fun H locs ls hP hD hS hl => lv_lrem C0.1 C0.2.1 hdg hne (k H locs ls hP hD hS hl)
theorem zV_lshl (C0 : zCx E rm cc nL own Ts tys Nw) {x : Int64} {y : Int32} (hdg : decode cc pc = .ok (.lshl, 1)) (hn : pc + 1 = n) (k : zV E wd nL S n lv (.long (zshlL x y) :: st)) : zV E wd nL S pc lv (.int y :: .long x :: st) := by
  subst hn; exact fun H locs ls hP hD hS hl => lv_lshl C0.1 C0.2.1 hdg rfl (k H locs ls hP hD hS hl)
theorem zV_lushr (C0 : zCx E rm cc nL own Ts tys Nw) {x : Int64} {y : Int32} (hdg : decode cc pc = .ok (.lushr, 1)) (hn : pc + 1 = n) (k : zV E wd nL S n lv (.long (zushrL x y) :: st)) : zV E wd nL S pc lv (.int y :: .long x :: st) := by
  subst hn; exact fun H locs ls hP hD hS hl => lv_lushr C0.1 C0.2.1 hdg rfl (k H locs ls hP hD hS hl)
theorem zV_lcmp (C0 : zCx E rm cc nL own Ts tys Nw) {x y : Int64} (hdg : decode cc pc = .ok (.lcmp, 1)) (hn : pc + 1 = n) (k : zV E wd nL S n lv (.int (lg_cmp x y) :: st)) : zV E wd nL S pc lv (.long y :: .long x :: st) := by
  subst hn; exact fun H locs ls hP hD hS hl => W.lcmp C0.1 C0.2.1 hdg (k H locs ls hP hD hS hl)
theorem zV_dup (C0 : zCx E rm cc nL own Ts tys Nw) {v : Value} (hdg : decode cc pc = .ok (.dup, 1)) (hc : v.category = 1) (hn : pc + 1 = n) (k : zV E wd nL S n lv (v :: v :: st)) : zV E wd nL S pc lv (v :: st) := by
  subst hn; exact fun H locs ls hP hD hS hl => lv_dup C0.1 C0.2.1 hdg hc (k H locs ls hP hD hS hl)
theorem zV_dup2 (C0 : zCx E rm cc nL own Ts tys Nw) {v w : Value} (hdg : decode cc pc = .ok (.dup2, 1)) (hc : v.category = 1) (hc2 : w.category = 1) (hn : pc + 1 = n) (k : zV E wd nL S n lv (v :: w :: v :: w :: st)) : zV E wd nL S pc lv (v :: w :: st) := by
  subst hn; exact fun H locs ls hP hD hS hl => lv_dup2_11 C0.1 C0.2.1 hdg hc hc2 (k H locs ls hP hD hS hl)
theorem zV_if_eq (C0 : zCx E rm cc nL own Ts tys Nw) {x : Int32} {off : Int} (hdg : decode cc pc = .ok (.ifCond .eq off, 3)) (ht : (pc : Int) + off = (tgt : Int)) (hn : pc + 3 = n) (kt : x = 0 → zV E wd nL S tgt lv (st)) (kf : ¬ x = 0 → zV E wd nL S n lv (st)) : zV E wd nL S pc lv (.int x :: st) := by
  subst hn; exact fun H locs ls hP hD hS hl => lv_if_eq C0.1 C0.2.1 hdg ht (fun h => kt h H locs ls hP hD hS hl) (fun h => kf h H locs ls hP hD hS hl)
theorem zV_if_ne (C0 : zCx E rm cc nL own Ts tys Nw) {x : Int32} {off : Int} (hdg : decode cc pc = .ok (.ifCond .ne off, 3)) (ht : (pc : Int) + off = (tgt : Int)) (hn : pc + 3 = n) (kt : ¬ x = 0 → zV E wd nL S tgt lv (st)) (kf : x = 0 → zV E wd nL S n lv (st)) : zV E wd nL S pc lv (.int x :: st) := by
  subst hn; exact fun H locs ls hP hD hS hl => lv_if_ne C0.1 C0.2.1 hdg ht (fun h => kt h H locs ls hP hD hS hl) (fun h => kf h H locs ls hP hD hS hl)
theorem zV_if_lt (C0 : zCx E rm cc nL own Ts tys Nw) {x : Int32} {off : Int} (hdg : decode cc pc = .ok (.ifCond .lt off, 3)) (ht : (pc : Int) + off = (tgt : Int)) (hn : pc + 3 = n) (kt : x < 0 → zV E wd nL S tgt lv (st)) (kf : ¬ x < 0 → zV E wd nL S n lv (st)) : zV E wd nL S pc lv (.int x :: st) := by
  subst hn; exact fun H locs ls hP hD hS hl => lv_if_lt C0.1 C0.2.1 hdg ht (fun h => kt h H locs ls hP hD hS hl) (fun h => kf h H locs ls hP hD hS hl)
theorem zV_if_ge (C0 : zCx E rm cc nL own Ts tys Nw) {x : Int32} {off : Int} (hdg : decode cc pc = .ok (.ifCond .ge off, 3)) (ht : (pc : Int) + off = (tgt : Int)) (hn : pc + 3 = n) (kt : 0 ≤ x → zV E wd nL S tgt lv (st)) (kf : ¬ 0 ≤ x → zV E wd nL S n lv (st)) : zV E wd nL S pc lv (.int x :: st) := by
  subst hn; exact fun H locs ls hP hD hS hl => lv_if_ge C0.1 C0.2.1 hdg ht (fun h => kt h H locs ls hP hD hS hl) (fun h => kf h H locs ls hP hD hS hl)
theorem zV_if_gt (C0 : zCx E rm cc nL own Ts tys Nw) {x : Int32} {off : Int} (hdg : decode cc pc = .ok (.ifCond .gt off, 3)) (ht : (pc : Int) + off = (tgt : Int)) (hn : pc + 3 = n) (kt : 0 < x → zV E wd nL S tgt lv (st)) (kf : ¬ 0 < x → zV E wd nL S n lv (st)) : zV E wd nL S pc lv (.int x :: st) := by
  subst hn; exact fun H locs ls hP hD hS hl => lv_if_gt C0.1 C0.2.1 hdg ht (fun h => kt h H locs ls hP hD hS hl) (fun h => kf h H locs ls hP hD hS hl)
theorem zV_if_le (C0 : zCx E rm cc nL own Ts tys Nw) {x : Int32} {off : Int} (hdg : decode cc pc = .ok (.ifCond .le off, 3)) (ht : (pc : Int) + off = (tgt : Int)) (hn : pc + 3 = n) (kt : x ≤ 0 → zV E wd nL S tgt lv (st)) (kf : ¬ x ≤ 0 → zV E wd nL S n lv (st)) : zV E wd nL S pc lv (.int x :: st) := by
  subst hn; exact fun H locs ls hP hD hS hl => lv_if_le C0.1 C0.2.1 hdg ht (fun h => kt h H locs ls hP hD hS hl) (fun h => kf h H locs ls hP hD hS hl)
theorem zV_icmp_eq (C0 : zCx E rm cc nL own Ts tys Nw) {x y : Int32} {off : Int} (hdg : decode cc pc = .ok (.if_icmp .eq off, 3)) (ht : (pc : Int) + off = (tgt : Int)) (hn : pc + 3 = n) (kt : x = y → zV E wd nL S tgt lv (st)) (kf : ¬ x = y → zV E wd nL S n lv (st)) : zV E wd nL S pc lv (.int y :: .int x :: st) := by
  subst hn; exact fun H locs ls hP hD hS hl => lv_icmp_eq C0.1 C0.2.1 hdg ht (fun h => kt h H locs ls hP hD hS hl) (fun h => kf h H locs ls hP hD hS hl)
theorem zV_icmp_ne (C0 : zCx E rm cc nL own Ts tys Nw) {x y : Int32} {off : Int} (hdg : decode cc pc = .ok (.if_icmp .ne off, 3)) (ht : (pc : Int) + off = (tgt : Int)) (hn : pc + 3 = n) (kt : ¬ x = y → zV E wd nL S tgt lv (st)) (kf : x = y → zV E wd nL S n lv (st)) : zV E wd nL S pc lv (.int y :: .int x :: st) := by
  subst hn; exact fun H locs ls hP hD hS hl => lv_icmp_ne C0.1 C0.2.1 hdg ht (fun h => kt h H locs ls hP hD hS hl) (fun h => kf h H locs ls hP hD hS hl)
theorem zV_icmp_lt (C0 : zCx E rm cc nL own Ts tys Nw) {x y : Int32} {off : Int} (hdg : decode cc pc = .ok (.if_icmp .lt off, 3)) (ht : (pc : Int) + off = (tgt : Int)) (hn : pc + 3 = n) (kt : x < y → zV E wd nL S tgt lv (st)) (kf : ¬ x < y → zV E wd nL S n lv (st)) : zV E wd nL S pc lv (.int y :: .int x :: st) := by
  subst hn; exact fun H locs ls hP hD hS hl => lv_icmp_lt C0.1 C0.2.1 hdg ht (fun h => kt h H locs ls hP hD hS hl) (fun h => kf h H locs ls hP hD hS hl)
theorem zV_icmp_ge (C0 : zCx E rm cc nL own Ts tys Nw) {x y : Int32} {off : Int} (hdg : decode cc pc = .ok (.if_icmp .ge off, 3)) (ht : (pc : Int) + off = (tgt : Int)) (hn : pc + 3 = n) (kt : y ≤ x → zV E wd nL S tgt lv (st)) (kf : ¬ y ≤ x → zV E wd nL S n lv (st)) : zV E wd nL S pc lv (.int y :: .int x :: st) := by
  subst hn; exact fun H locs ls hP hD hS hl => lv_icmp_ge C0.1 C0.2.1 hdg ht (fun h => kt h H locs ls hP hD hS hl) (fun h => kf h H locs ls hP hD hS hl)
theorem zV_icmp_gt (C0 : zCx E rm cc nL own Ts tys Nw) {x y : Int32} {off : Int} (hdg : decode cc pc = .ok (.if_icmp .gt off, 3)) (ht : (pc : Int) + off = (tgt : Int)) (hn : pc + 3 = n) (kt : y < x → zV E wd nL S tgt lv (st)) (kf : ¬ y < x → zV E wd nL S n lv (st)) : zV E wd nL S pc lv (.int y :: .int x :: st) := by
  subst hn; exact fun H locs ls hP hD hS hl => lv_icmp_gt C0.1 C0.2.1 hdg ht (fun h => kt h H locs ls hP hD hS hl) (fun h => kf h H locs ls hP hD hS hl)
theorem zV_icmp_le (C0 : zCx E rm cc nL own Ts tys Nw) {x y : Int32} {off : Int} (hdg : decode cc pc = .ok (.if_icmp .le off, 3)) (ht : (pc : Int) + off = (tgt : Int)) (hn : pc + 3 = n) (kt : x ≤ y → zV E wd nL S tgt lv (st)) (kf : ¬ x ≤ y → zV E wd nL S n lv (st)) : zV E wd nL S pc lv (.int y :: .int x :: st) := by
  subst hn; exact fun H locs ls hP hD hS hl => lv_icmp_le C0.1 C0.2.1 hdg ht (fun h => kt h H locs ls hP hD hS hl) (fun h => kf h H locs ls hP hD hS hl)
theorem zV_goto (C0 : zCx E rm cc nL own Ts tys Nw) {off : Int} (hdg : decode cc pc = .ok (.goto off, 3)) (ht : (pc : Int) + off = (tgt : Int)) (k : zV E wd nL S tgt lv (st)) : zV E wd nL S pc lv (st) := fun H locs ls hP hD hS hl => lv_goto C0.1 C0.2.1 hdg ht (k H locs ls hP hD hS hl)
theorem zV_lookup (C0 : zCx E rm cc nL own Ts tys Nw) {dflt : Int} {ps : Array (Int × Int)} {len : Nat} {x : Int32} {off : Int} (hdg : decode cc pc = .ok (.lookupswitch dflt ps, len)) (hp : (ps.toList.zip (ps.toList.drop 1)).all (fun (a, next) => a.1 < next.1) = true) (ho : Op.lookupswitch.offset ps.toList dflt x.toInt = off) (ht : (pc : Int) + off = (tgt : Int)) (k : zV E wd nL S tgt lv (st)) : zV E wd nL S pc lv (.int x :: st) := fun H locs ls hP hD hS hl => lv_lookup C0.1 C0.2.1 hdg hp ho ht (k H locs ls hP hD hS hl)
theorem zV_tableOut (C0 : zCx E rm cc nL own Ts tys Nw) {dflt lo hi : Int} {offs : Array Int} {len : Nat} {x : Int32} (hdg : decode cc pc = .ok (.tableswitch dflt lo hi offs, len)) (h : x.toInt < lo ∨ hi < x.toInt) (ht : (pc : Int) + dflt = (tgt : Int)) (k : zV E wd nL S tgt lv (st)) : zV E wd nL S pc lv (.int x :: st) := fun H locs ls hP hD hS hl => lv_tableOut C0.1 C0.2.1 hdg h ht (k H locs ls hP hD hS hl)
theorem zV_tableIn (C0 : zCx E rm cc nL own Ts tys Nw) {dflt lo hi : Int} {offs : Array Int} {len : Nat} {x : Int32} {off : Int} (hdg : decode cc pc = .ok (.tableswitch dflt lo hi offs, len)) (h1 : ¬ x.toInt < lo) (h2 : ¬ hi < x.toInt) (ho : offs[(x.toInt - lo).toNat]? = some off) (ht : (pc : Int) + off = (tgt : Int)) (k : zV E wd nL S tgt lv (st)) : zV E wd nL S pc lv (.int x :: st) := fun H locs ls hP hD hS hl => lv_tableIn C0.1 C0.2.1 hdg h1 h2 ho ht (k H locs ls hP hD hS hl)
theorem zV_sub (ks : List Nat) {lv2 : List (Nat × Value)} (hl2 : lv_pick lv ks = lv2) (k : zV E wd nL S pc lv2 st) : zV E wd nL S pc lv st := fun H locs ls hP hD hS hl => k H locs ls hP hD hS (lv_sub hl ks hl2)
theorem zV_S {S2 : σ} (h : wd S2 = wd S) (k : zV E wd nL S2 pc lv st) : zV E wd nL S pc lv st := fun H locs ls hP hD hS hl => k H locs ls (by rw [h]; exact hP) (by rw [h]; exact hD) hS hl
theorem zV_mmax (C0 : zCx E rm cc nL own Ts tys Nw) {x y : Int32} {idx : Nat} (hdg : decode cc pc = .ok (.invokestatic idx, 3)) (h1 : Cond.methodLink own idx Lib.Math.max.name ∈ Ts) (h2 : Cond.static Lib.Math.max.name ∈ Ts) (h3 : Cond.initialized "java/lang/Math" ∈ Ts) (h4 : Cond.code Lib.Math.max.name Lib.Math.max.code 2 (some .int) ∈ Ts) (hf : 1 ≤ rm.frames) (hr : (st.map fun v => v.category).sum + 13 ≤ rm.locals) (hn : pc + 3 = n) (k : zV E wd nL S n lv (.int (if x < y then y else x) :: st)) : zV E wd nL S pc lv (.int y :: .int x :: st) := by
  subst hn; exact fun H locs ls hP hD hS hl => va_mmax C0.1 C0.2.1 (C0.2.2.1.trans hl.1.symm) C0.2.2.2.1 (C0.2.2.2.2.1 _ h1) (C0.2.2.2.2.1 _ h2) (C0.2.2.2.2.1 _ h3) (C0.2.2.2.2.1 _ h4) (C0.2.2.2.2.2.2.2.2.2 ▸ hf) (C0.2.2.2.2.2.2.2.2.2 ▸ hr) (Nat.zero_le _) (Nat.zero_le _) hdg (k H locs ls hP hD hS hl)
theorem zV_mmin (C0 : zCx E rm cc nL own Ts tys Nw) {x y : Int32} {idx : Nat} (hdg : decode cc pc = .ok (.invokestatic idx, 3)) (h1 : Cond.methodLink own idx Lib.Math.min.name ∈ Ts) (h2 : Cond.static Lib.Math.min.name ∈ Ts) (h3 : Cond.initialized "java/lang/Math" ∈ Ts) (h4 : Cond.code Lib.Math.min.name Lib.Math.min.code 2 (some .int) ∈ Ts) (hf : 1 ≤ rm.frames) (hr : (st.map fun v => v.category).sum + 13 ≤ rm.locals) (hn : pc + 3 = n) (k : zV E wd nL S n lv (.int (if y < x then y else x) :: st)) : zV E wd nL S pc lv (.int y :: .int x :: st) := by
  subst hn; exact fun H locs ls hP hD hS hl => va_mmin C0.1 C0.2.1 (C0.2.2.1.trans hl.1.symm) C0.2.2.2.1 (C0.2.2.2.2.1 _ h1) (C0.2.2.2.2.1 _ h2) (C0.2.2.2.2.1 _ h3) (C0.2.2.2.2.1 _ h4) (C0.2.2.2.2.2.2.2.2.2 ▸ hf) (C0.2.2.2.2.2.2.2.2.2 ▸ hr) (Nat.zero_le _) (Nat.zero_le _) hdg (k H locs ls hP hD hS hl)
theorem zV_mmin_long (C0 : zCx E rm cc nL own Ts tys Nw) {x y : Int64} {idx : Nat} (hdg : decode cc pc = .ok (.invokestatic idx, 3)) (h1 : Cond.methodLink own idx Lib.MathLoose.min_long.x ∈ Ts) (h2 : Cond.static Lib.MathLoose.min_long.x ∈ Ts) (h3 : Cond.initialized "java/lang/Math" ∈ Ts) (h4 : Cond.code Lib.MathLoose.min_long.x Lib.MathLoose.min_long.code 4 (some .long) ∈ Ts) (hf : 1 ≤ rm.frames) (hr : (st.map fun v => v.category).sum + 15 ≤ rm.locals) (hn : pc + 3 = n) (k : zV E wd nL S n lv (.long (if y < x then y else x) :: st)) : zV E wd nL S pc lv (.long y :: .long x :: st) := by
  subst hn; exact fun H locs ls hP hD hS hl => va_mmin_long C0.1 C0.2.1 (C0.2.2.1.trans hl.1.symm) C0.2.2.2.1 (C0.2.2.2.2.1 _ h1) (C0.2.2.2.2.1 _ h2) (C0.2.2.2.2.1 _ h3) (C0.2.2.2.2.1 _ h4) (C0.2.2.2.2.2.2.2.2.2 ▸ hf) (C0.2.2.2.2.2.2.2.2.2 ▸ hr) (Nat.zero_le _) (Nat.zero_le _) hdg (k H locs ls hP hD hS hl)
theorem zV_get (C0 : zCx E rm cc nL own Ts tys Nw) {C ref : String} {T : u_T} {N ci idx : Nat} (hin : ∀ w ∈ u_ws C T N, w ∈ Ts) (q0 : Nat) {a : Nat} {fs : List Value} (he : (wd S)[q0]? = some (a, .inr (ci, fs))) (hc : vwCl[ci]? = some (C, T, N)) (f : Nat) (hk : f < N) (hw : Cond.fieldLink own idx ref (T f).2.1 (T f).2.2.1 ∈ Ts) (hs : ref = (T f).1) {v : Value} (hv : fs[f]? = some v) (hdg : decode cc pc = .ok (.getfield idx, 3)) (hn : pc + 3 = n) (k : zV E wd nL S n lv (v :: st)) : zV E wd nL S pc lv (.ref a :: st) := by
  subst hn; exact fun H locs ls hP hD hS hl => va_get C0.1 C0.2.1 C0.2.2.2.2.1 hin C0.2.2.2.1 C0.2.2.2.2.2.1 hP q0 he hc f hk (C0.2.2.2.2.1 _ hw) (fun _ h9 => by rw [hs]; exact h9) hv hdg (k H locs ls hP hD hS hl)
theorem zV_put (C0 : zCx E rm cc nL own Ts tys Nw) {C ref : String} {T : u_T} {N ci idx : Nat} (hin : ∀ w ∈ u_ws C T N, w ∈ Ts) (q0 : Nat) {a : Nat} {fs : List Value} (he : (wd S)[q0]? = some (a, .inr (ci, fs))) (hc : vwCl[ci]? = some (C, T, N)) (f : Nat) (hk : f < N) (hw : Cond.fieldLink own idx ref (T f).2.1 (T f).2.2.1 ∈ Ts) (hs : ref = (T f).1) (ty0 : Nat → FieldType) (hty : ∀ k, k < N → parseFieldDescriptor (T k).2.2.1 = some (ty0 k)) (hnm : ∀ a, a < N → ∀ b, b < N → a ≠ b → (T a).2.1 ≠ (T b).2.1) (hfin : (T f).2.2.2 = false) {ty : FieldType} {v : Value} (hd : parseFieldDescriptor (T f).2.2.1 = some ty) (hnw : narrow ty v = v) (hfit : fits ty v = true) (hlen : f < fs.length) (S2 : σ) (hS2 : (wd S).set q0 (a, .inr (ci, fs.set f v)) = wd S2) (hdg : decode cc pc = .ok (.putfield idx, 3)) (hn : pc + 3 = n) (k : zV E wd nL S2 n lv (st)) : zV E wd nL S pc lv (v :: .ref a :: st) := by
  subst hn; exact fun H locs ls hP hD hS hl => va_put C0.1 C0.2.1 C0.2.2.2.2.1 hin ty0 hty hnm C0.2.2.2.1 C0.2.2.2.2.2.1 hP hD hS q0 he hc f hk (C0.2.2.2.2.1 _ hw) (fun _ h9 => by rw [hs]; exact h9) hfin hd hnw hfit hlen hdg (fun H1 locs1 hP1 hD1 hS1 => k H1 locs1 ls (hS2 ▸ hP1) (hS2 ▸ hD1) hS1 hl)
theorem zV_getN (C0 : zCx E rm cc nL own Ts tys Nw) {C ref : String} {T : u_T} {N ci idx : Nat} (hin : ∀ w ∈ u_ws C T N, w ∈ Ts) (q0 : Nat) {a : Nat} {fs : List Value} (he : (wd S)[q0]? = some (a, .inr (ci, fs))) (hc : vwCl[ci]? = some (C, T, N)) (f : Nat) (hk : f < N) {host : String} (hw : Nw (es E) → (Cond.fieldLinkNest own idx ref (T f).2.1 (T f).2.2.1 host).before (ea E) (es E) = true) (hs : ref = (T f).1) {v : Value} (hv : fs[f]? = some v) (hdg : decode cc pc = .ok (.getfield idx, 3)) (hn : pc + 3 = n) (k : zV E wd nL S n lv (v :: st)) : zV E wd nL S pc lv (.ref a :: st) := by
  subst hn; exact fun H locs ls hP hD hS hl => va_getN C0.1 C0.2.1 C0.2.2.2.2.1 hin C0.2.2.2.1 C0.2.2.2.2.2.1 hP q0 he hc f hk (hw C0.2.2.2.2.2.2.2.1) (fun _ h9 => by rw [hs]; exact h9) hv hdg (k H locs ls hP hD hS hl)
theorem zV_putN (C0 : zCx E rm cc nL own Ts tys Nw) {C ref : String} {T : u_T} {N ci idx : Nat} (hin : ∀ w ∈ u_ws C T N, w ∈ Ts) (q0 : Nat) {a : Nat} {fs : List Value} (he : (wd S)[q0]? = some (a, .inr (ci, fs))) (hc : vwCl[ci]? = some (C, T, N)) (f : Nat) (hk : f < N) {host : String} (hw : Nw (es E) → (Cond.fieldLinkNest own idx ref (T f).2.1 (T f).2.2.1 host).before (ea E) (es E) = true) (hs : ref = (T f).1) (ty0 : Nat → FieldType) (hty : ∀ k, k < N → parseFieldDescriptor (T k).2.2.1 = some (ty0 k)) (hnm : ∀ a, a < N → ∀ b, b < N → a ≠ b → (T a).2.1 ≠ (T b).2.1) (hfin : (T f).2.2.2 = false) {ty : FieldType} {v : Value} (hd : parseFieldDescriptor (T f).2.2.1 = some ty) (hnw : narrow ty v = v) (hfit : fits ty v = true) (hlen : f < fs.length) (S2 : σ) (hS2 : (wd S).set q0 (a, .inr (ci, fs.set f v)) = wd S2) (hdg : decode cc pc = .ok (.putfield idx, 3)) (hn : pc + 3 = n) (k : zV E wd nL S2 n lv (st)) : zV E wd nL S pc lv (v :: .ref a :: st) := by
  subst hn; exact fun H locs ls hP hD hS hl => va_putN C0.1 C0.2.1 C0.2.2.2.2.1 hin ty0 hty hnm C0.2.2.2.1 C0.2.2.2.2.2.1 hP hD hS q0 he hc f hk (hw C0.2.2.2.2.2.2.2.1) (fun _ h9 => by rw [hs]; exact h9) hfin hd hnw hfit hlen hdg (fun H1 locs1 hP1 hD1 hS1 => k H1 locs1 ls (hS2 ▸ hP1) (hS2 ▸ hD1) hS1 hl)
theorem zV_iald (C0 : zCx E rm cc nL own Ts tys Nw) (q0 t0 : Nat) {a : Nat} {cA : ClassId} {sz : Nat} {f : Nat → Int32} (ha : (wd S)[q0]? = some (a, .inl (cA, sz, .inl f))) (ht : tys[t0]? = some (cA, .int)) {i : Int32} (hin : vp_in i sz) (hdg : decode cc pc = .ok (.iaload, 1)) (hn : pc + 1 = n) (k : zV E wd nL S n lv (.int (f i.toNatClampNeg) :: st)) : zV E wd nL S pc lv (.int i :: .ref a :: st) := by
  subst hn; exact fun H locs ls hP hD hS hl => va_iald C0.1 C0.2.1 C0.2.2.2.2.2.1 hP q0 t0 ha ht hin hdg (k H locs ls hP hD hS hl)
theorem zV_zald (C0 : zCx E rm cc nL own Ts tys Nw) (q0 t0 : Nat) {a : Nat} {cA : ClassId} {sz : Nat} {f : Nat → Int32} (ha : (wd S)[q0]? = some (a, .inl (cA, sz, .inl f))) (ht : tys[t0]? = some (cA, .boolean)) {i : Int32} (hin : vp_in i sz) (hdg : decode cc pc = .ok (.baload, 1)) (hn : pc + 1 = n) (k : zV E wd nL S n lv (.int (f i.toNatClampNeg) :: st)) : zV E wd nL S pc lv (.int i :: .ref a :: st) := by
  subst hn; exact fun H locs ls hP hD hS hl => va_zald C0.1 C0.2.1 C0.2.2.2.2.2.1 hP q0 t0 ha ht hin hdg (k H locs ls hP hD hS hl)
theorem zV_iast (C0 : zCx E rm cc nL own Ts tys Nw) (q0 t0 : Nat) {a : Nat} {cA : ClassId} {sz : Nat} {f : Nat → Int32} (ha : (wd S)[q0]? = some (a, .inl (cA, sz, .inl f))) (ht : tys[t0]? = some (cA, .int)) {i x : Int32} (hin : vp_in i sz) (S2 : σ) (hS2 : (wd S).set q0 (a, .inl (cA, sz, .inl (upd f i.toNatClampNeg x))) = wd S2) (hdg : decode cc pc = .ok (.iastore, 1)) (hn : pc + 1 = n) (k : zV E wd nL S2 n lv (st)) : zV E wd nL S pc lv (.int x :: .int i :: .ref a :: st) := by
  subst hn; exact fun H locs ls hP hD hS hl => va_iast C0.1 C0.2.1 C0.2.2.2.2.2.1 hP hD hS q0 t0 ha ht hin hdg (fun H1 locs1 hP1 hD1 hS1 => k H1 locs1 ls (hS2 ▸ hP1) (hS2 ▸ hD1) hS1 hl)
theorem zV_zast (C0 : zCx E rm cc nL own Ts tys Nw) (q0 t0 : Nat) {a : Nat} {cA : ClassId} {sz : Nat} {f : Nat → Int32} (ha : (wd S)[q0]? = some (a, .inl (cA, sz, .inl f))) (ht : tys[t0]? = some (cA, .boolean)) {i x : Int32} (hin : vp_in i sz) (S2 : σ) (hS2 : (wd S).set q0 (a, .inl (cA, sz, .inl (upd f i.toNatClampNeg (vp_nar .boolean x)))) = wd S2) (hdg : decode cc pc = .ok (.bastore, 1)) (hn : pc + 1 = n) (k : zV E wd nL S2 n lv (st)) : zV E wd nL S pc lv (.int x :: .int i :: .ref a :: st) := by
  subst hn; exact fun H locs ls hP hD hS hl => va_zast C0.1 C0.2.1 C0.2.2.2.2.2.1 hP hD hS q0 t0 ha ht hin hdg (fun H1 locs1 hP1 hD1 hS1 => k H1 locs1 ls (hS2 ▸ hP1) (hS2 ▸ hD1) hS1 hl)
theorem zV_alen (C0 : zCx E rm cc nL own Ts tys Nw) (q0 t0 : Nat) {a : Nat} {cA : ClassId} {x : vp_A} (ha : (wd S)[q0]? = some (a, .inl (cA, x))) {ty : FieldType} (ht : tys[t0]? = some (cA, ty)) {v : Int32} (hv : Int32.ofNat x.1 = v) (hdg : decode cc pc = .ok (.arraylength, 1)) (hn : pc + 1 = n) (k : zV E wd nL S n lv (.int v :: st)) : zV E wd nL S pc lv (.ref a :: st) := by
  subst hn; exact fun H locs ls hP hD hS hl => va_alen C0.1 C0.2.1 C0.2.2.2.2.2.1 hP q0 t0 ha ht hv hdg (k H locs ls hP hD hS hl)
end ZV
end
section
/-! ===== contracts over an abstract state, their entry, and calls of them ===== -/
def zB (D : va_G) (tys : List (ClassId × FieldType)) {σ : Type} (wd : σ → va_W) (A : Nat → Prop) (S : σ) (t : State) : Prop := va_P D vwCl (wd S) t.heap ∧ va_K D vwCl tys t ∧ va_D A (wd S)
def zPre (D : va_G) (tys : List (ClassId × FieldType)) (Nw : State → Prop) {σ : Type} (wd : σ → va_W) (S : σ) (sz : Nat) (U : State) : Prop := U.heap.size = sz ∧ va_P D vwCl (wd S) U.heap ∧ va_K D vwCl tys U ∧ va_D (fun _ => True) (wd S) ∧ Nw U
def zRm (f k : Nat) : Room := { frames := f, cells := 0, slots := 0, locals := k }
theorem zfree {A : Nat → Prop} {ws : va_W} {H0 H : Heap} {locs : List Loc} (hD : va_D A ws) (hS : va_S A H0 H locs) (hA : ∀ q : Nat, H0.size ≤ q → A q) : ∀ q : Nat, va_A ws H.size q → A q := by
  intro q h
  rcases h with ⟨k, e, h⟩ | h
  · exact hD.2 k (q, e) h
  · exact hA q (Nat.le_trans hS.1 h)
theorem zblind {D : va_G} {tys : List (ClassId × FieldType)} {Nw : State → Prop} {σ : Type} {wd : σ → va_W} {S : σ} {sz : Nat} {av : List Value} (hN : zNwOk Nw) : FrameBlind (va_Pc av (zPre D tys Nw wd S sz)) := by
  intro a U g mk q
  obtain ⟨h0, h1, h2, h3, h4, h5⟩ := q
  exact ⟨h0, h1, h2, va_K.moved (u := U) (U := U.calling g mk a) (Vm.Alike.refl U.vm) h3, h4, hN.1 U (U.calling g mk a) rfl h5⟩
theorem zlt {D : va_G} {ws : va_W} {H : Heap} (hP : va_P D vwCl ws H) {k : Nat} {q : Nat × va_E} (hk : ws[k]? = some q) : q.1 < H.size := by
  have h := hP k q hk
  obtain ⟨a, e⟩ := q
  cases e with
  | inl x => exact (Array.getElem?_eq_some_iff.mp (show H[a]? = some _ from h)).1
  | inr o =>
    obtain ⟨r, h1, cell, h2, h3⟩ := h
    exact (Array.getElem?_eq_some_iff.mp h2).1
theorem zkeep {D : va_G} {ws : va_W} {H H1 : Heap} (hP : va_P D vwCl ws H) (hk : ∀ q : Nat, q < H.size → ¬ va_A [] H.size q → H1[q]? = H[q]?) : va_P D vwCl ws H1 := by
  refine hP.kept (fun k q h => ?_)
  have hlt := zlt hP h
  refine hk q.1 hlt (fun hq => ?_)
  rcases hq with ⟨k, e, h⟩ | h
  · simp at h
  · exact absurd h (Nat.not_le.mpr hlt)
def zI (l : Launch) (y : MethodName) (ws : List Cond) (rm : Room) (D : va_G) (tys : List (ClassId × FieldType)) (Nw : State → Prop) {σ : Type} (wd : σ → va_W) (av : List Value) (S : σ) (z : Int32 × σ) : Prop := ∀ sz : Nat, Met l y ws rm (va_Pc av (zPre D tys Nw wd S sz)) (va_Qi (fun (r : Int32) (u : σ) => r = z.1 ∧ u = z.2) (zB D tys wd (va_A (wd S) sz)) (va_A (wd S) sz)) 0 0 (va_A (wd S) sz)
def zJ (l : Launch) (y : MethodName) (ws : List Cond) (rm : Room) (D : va_G) (tys : List (ClassId × FieldType)) (Nw : State → Prop) {σ : Type} (wd : σ → va_W) (av : List Value) (S : σ) (z : Int64 × σ) : Prop := ∀ sz : Nat, Met l y ws rm (va_Pc av (zPre D tys Nw wd S sz)) (va_Ql (fun (r : Int64) (u : σ) => r = z.1 ∧ u = z.2) (zB D tys wd (va_A (wd S) sz)) (va_A (wd S) sz)) 0 0 (va_A (wd S) sz)
def zU (l : Launch) (y : MethodName) (ws : List Cond) (rm : Room) (D : va_G) (tys : List (ClassId × FieldType)) (Nw : State → Prop) {σ : Type} (wd : σ → va_W) (av : List Value) (S : σ) (z : σ) : Prop := ∀ sz : Nat, Met l y ws rm (va_Pc av (zPre D tys Nw wd S sz)) (va_Qv (fun (u : σ) => u = z) (zB D tys wd (va_A (wd S) sz)) (va_A (wd S) sz)) 0 0 (va_A (wd S) sz)
def zRI (E : zE) {σ : Type} (wd : σ → va_W) (cc : ByteArray) (ty : FieldType) (z : Int32 × σ) : Prop := ∀ (nL pc : Nat) (lv : List (Nat × Value)), narrow ty (.int z.1) = .int z.1 → decode cc pc = .ok (.ireturn, 1) → zV E wd nL z.2 pc lv [.int z.1]
def zRJ (E : zE) {σ : Type} (wd : σ → va_W) (cc : ByteArray) (z : Int64 × σ) : Prop := ∀ (nL pc : Nat) (lv : List (Nat × Value)), decode cc pc = .ok (.lreturn, 1) → zV E wd nL z.2 pc lv [.long z.1]
def zRU (E : zE) {σ : Type} (wd : σ → va_W) (cc : ByteArray) (z : σ) : Prop := ∀ (nL pc : Nat) (lv : List (Nat × Value)), decode cc pc = .ok (.return_, 1) → zV E wd nL z pc lv []
theorem zretI {E : zE} {σ : Type} {wd : σ → va_W} {cc : ByteArray} {ty : FieldType} {z : Int32 × σ} (hR : zRI E wd cc ty z) {v : Int32} {S : σ} (h : some (v, S) = some z) (hn : narrow ty (.int v) = .int v) {nL pc : Nat} {lv : List (Nat × Value)} (hd : decode cc pc = .ok (.ireturn, 1)) : zV E wd nL S pc lv [.int v] := by
  cases h; exact hR nL pc lv hn hd
theorem zretI1 {E : zE} {σ : Type} {wd : σ → va_W} {cc : ByteArray} {ty : FieldType} {r : Int32} {S : σ} (hR : zRI E wd cc ty (r, S)) {v : Int32} (h : some v = some r) (hn : narrow ty (.int v) = .int v) {nL pc : Nat} {lv : List (Nat × Value)} (hd : decode cc pc = .ok (.ireturn, 1)) : zV E wd nL S pc lv [.int v] := by
  cases h; exact hR nL pc lv hn hd
theorem zretJ {E : zE} {σ : Type} {wd : σ → va_W} {cc : ByteArray} {z : Int64 × σ} (hR : zRJ E wd cc z) {v : Int64} {S : σ} (h : some (v, S) = some z) {nL pc : Nat} {lv : List (Nat × Value)} (hd : decode cc pc = .ok (.lreturn, 1)) : zV E wd nL S pc lv [.long v] := by
  cases h; exact hR nL pc lv hd
theorem zretJ1 {E : zE} {σ : Type} {wd : σ → va_W} {cc : ByteArray} {r : Int64} {S : σ} (hR : zRJ E wd cc (r, S)) {v : Int64} (h : some v = some r) {nL pc : Nat} {lv : List (Nat × Value)} (hd : decode cc pc = .ok (.lreturn, 1)) : zV E wd nL S pc lv [.long v] := by
  cases h; exact hR nL pc lv hd
theorem zretU {E : zE} {σ : Type} {wd : σ → va_W} {cc : ByteArray} {z : σ} (hR : zRU E wd cc z) {S : σ} (h : some S = some z) {nL pc : Nat} {lv : List (Nat × Value)} (hd : decode cc pc = .ok (.return_, 1)) : zV E wd nL S pc lv [] := by
  cases h; exact hR nL pc lv hd
theorem zI_of {l : Launch} {y : MethodName} {ws ws' : List Cond} {rm : Room} {D : va_G} {tys : List (ClassId × FieldType)} {Nw : State → Prop} {σ : Type} {wd : σ → va_W} {av : List Value} {S : σ} {z : Int32 × σ} {cc : ByteArray} {maxL : Nat} {ty : FieldType} (hy : plainName y.cls = true) (hw : ws = Cond.code y cc maxL (some ty) :: ws') (hsl : (lg_sl av).length ≤ maxL) (hN : zNwOk Nw)
    (body : ∀ E : zE, el E = l → eD E = D → zCx E rm cc maxL y.cls ws tys Nw → zRI E wd cc ty z → zV E wd maxL S 0 (lv_args 0 av) []) : zI l y ws rm D tys Nw wd av S z := by
  intro sz
  refine Met.ofW hy hw ?_
  intro p e s m args below meth c s₁ B hml hv
  obtain ⟨rfl, rfl, hP, hK, hD0, hNs⟩ := hv
  have hlk := B.notSynchronized
  have hx := B.exec
  have hb := B.bytes
  have hr := B.returns
  rw [lg_entry_eq]
  refine body (p, l, e, (headSpec ws rm).room, s, m, av.toArray, below, meth, c, _, D, va_A (wd S) s.heap.size) rfl rfl ⟨hx, hb, hml, findClass_of_methodNamed B.named, atoms_spec (ws := ws) B.pre, hK, fun q h => Or.inr h, hNs, hN, rfl⟩ ?_ s.heap [] _ hP hD0.self va_S.rf (lv_entry av hsl)
  intro nL pc lv hn hd H locs ls hP1 hD1 hS1 hl1
  exact W.zret hx hb hr hn (fun t ht hW => ⟨⟨z.1, z.2, rfl, ⟨rfl, rfl⟩, by rw [ht]; exact hP1, va_K.moved hW.alike hK, hD1⟩, hS1.F ht⟩) hS1.2.2 hd hlk
theorem zJ_of {l : Launch} {y : MethodName} {ws ws' : List Cond} {rm : Room} {D : va_G} {tys : List (ClassId × FieldType)} {Nw : State → Prop} {σ : Type} {wd : σ → va_W} {av : List Value} {S : σ} {z : Int64 × σ} {cc : ByteArray} {maxL : Nat} (hy : plainName y.cls = true) (hw : ws = Cond.code y cc maxL (some .long) :: ws') (hsl : (lg_sl av).length ≤ maxL) (hN : zNwOk Nw)
    (body : ∀ E : zE, el E = l → eD E = D → zCx E rm cc maxL y.cls ws tys Nw → zRJ E wd cc z → zV E wd maxL S 0 (lv_args 0 av) []) : zJ l y ws rm D tys Nw wd av S z := by
  intro sz
  refine Met.ofW hy hw ?_
  intro p e s m args below meth c s₁ B hml hv
  obtain ⟨rfl, rfl, hP, hK, hD0, hNs⟩ := hv
  have hlk := B.notSynchronized
  have hx := B.exec
  have hb := B.bytes
  have hr := B.returns
  rw [lg_entry_eq]
  refine body (p, l, e, (headSpec ws rm).room, s, m, av.toArray, below, meth, c, _, D, va_A (wd S) s.heap.size) rfl rfl ⟨hx, hb, hml, findClass_of_methodNamed B.named, atoms_spec (ws := ws) B.pre, hK, fun q h => Or.inr h, hNs, hN, rfl⟩ ?_ s.heap [] _ hP hD0.self va_S.rf (lv_entry av hsl)
  intro nL pc lv hd H locs ls hP1 hD1 hS1 hl1
  exact W.lret hx hb hr (fun t ht hW => ⟨⟨z.1, z.2, rfl, ⟨rfl, rfl⟩, by rw [ht]; exact hP1, va_K.moved hW.alike hK, hD1⟩, hS1.F ht⟩) hS1.2.2 hd hlk
theorem zU_of {l : Launch} {y : MethodName} {ws ws' : List Cond} {rm : Room} {D : va_G} {tys : List (ClassId × FieldType)} {Nw : State → Prop} {σ : Type} {wd : σ → va_W} {av : List Value} {S : σ} {z : σ} {cc : ByteArray} {maxL : Nat} (hy : plainName y.cls = true) (hw : ws = Cond.code y cc maxL none :: ws') (hsl : (lg_sl av).length ≤ maxL) (hN : zNwOk Nw)
    (body : ∀ E : zE, el E = l → eD E = D → zCx E rm cc maxL y.cls ws tys Nw → zRU E wd cc z → zV E wd maxL S 0 (lv_args 0 av) []) : zU l y ws rm D tys Nw wd av S z := by
  intro sz
  refine Met.ofW hy hw ?_
  intro p e s m args below meth c s₁ B hml hv
  obtain ⟨rfl, rfl, hP, hK, hD0, hNs⟩ := hv
  have hlk := B.notSynchronized
  have hx := B.exec
  have hb := B.bytes
  have hr := B.returns
  rw [lg_entry_eq]
  refine body (p, l, e, (headSpec ws rm).room, s, m, av.toArray, below, meth, c, _, D, va_A (wd S) s.heap.size) rfl rfl ⟨hx, hb, hml, findClass_of_methodNamed B.named, atoms_spec (ws := ws) B.pre, hK, fun q h => Or.inr h, hNs, hN, rfl⟩ ?_ s.heap [] _ hP hD0.self va_S.rf (lv_entry av hsl)
  intro nL pc lv hd H locs ls hP1 hD1 hS1 hl1
  exact W.vret hx hb hr (fun t ht hW => ⟨⟨z, rfl, rfl, by rw [ht]; exact hP1, va_K.moved hW.alike hK, hD1⟩, hS1.F ht⟩) hS1.2.2 hd hlk
section ZC
variable {E : zE} {rm rm2 : Room} {σ : Type} {wd : σ → va_W} {nL : Nat} {S : σ} {pc n nA : Nat} {lv : List (Nat × Value)} {st st0 : List Value} {cc : ByteArray} {own : String} {Ts : List Cond} {tys : List (ClassId × FieldType)} {Nw : State → Prop} {y : MethodName} {ws ws2 : List Cond} {bytes : ByteArray} {maxL idx : Nat} {ret : Option FieldType}
theorem zV_callVI (C0 : zCx E rm cc nL own Ts tys Nw) {b : Nat} {As : List Value} {r : Int32} {S2 : σ} (hc : zI (el E) y ws rm2 (eD E) tys Nw wd (.ref b :: As) S (r, S2)) (hG : GoodIn Ts (wsV own idx y.cls y ws)) (hw : ws = Cond.code y bytes maxL ret :: ws2) (hd : y.cls ≠ "java/lang/invoke/MethodHandle" ∧ y.cls ≠ "java/lang/invoke/VarHandle" ∧ (parseMethodDescriptor y.desc).map (fun d => d.parameters.length) = some nA) (hn : As.length = nA) (h0 : rm2.cells = 0 ∧ rm2.slots = 0) (hR : rm2.frames + 1 ≤ rm.frames ∧ 8 + (maxL + 11) + rm2.locals ≤ rm.locals) (q0 : Nat) {ci N : Nat} {fs : List Value} {T : u_T} (hq : (wd S)[q0]? = some (b, .inr (ci, fs))) (hcl : vwCl[ci]? = some (y.cls, T, N)) (hst : st0 = As.reverse ++ .ref b :: st) (hW : (st.map fun v => v.category).sum ≤ 8) (hdg : decode cc pc = .ok (.invokevirtual idx, 3)) (hpc : pc + 3 = n) (k : zV E wd nL S2 n lv (.int r :: st)) : zV E wd nL S pc lv st0 := by
  subst hpc
  intro H locs ls hP hD hS hl
  have hF := zfree hD hS C0.2.2.2.2.2.2.1
  refine va_calli (va_runV (As := As) (rest := st) ⟨C0.1, C0.2.1, C0.2.2.1, C0.2.2.2.1, C0.2.2.2.2.1⟩ (hc H.size) (cwV nA C0.2.2.2.2.1 hG hw h0.1 h0.2 ⟨rfl, hd⟩ (C0.2.2.2.2.2.2.2.2.2 ▸ hR)) ⟨zblind C0.2.2.2.2.2.2.2.2.1, va_recv C0.2.2.2.2.2.1 hP hcl hq, fun U hU hW => ⟨rfl, by rw [hU], by rw [hU]; exact hP, va_K.moved hW.alike C0.2.2.2.2.2.1, hD.weaken (fun _ _ _ _ => trivial), C0.2.2.2.2.2.2.2.2.1.2 _ _ hW C0.2.2.2.2.2.2.2.1⟩⟩ rfl hn hl.1 hst (lv_room hW) hdg ⟨Nat.zero_le _, Nat.zero_le _⟩) hS (fun q _ h => hF q h) hF (fun r1 u t H1 locs1 ht hvm hw hB hz1 hk1 hS1 => ?_)
  obtain ⟨rfl, rfl⟩ := hw
  exact k H1 locs1 ls (ht ▸ hB.1) (hB.2.2.weaken (fun _ q _ h => hF q.1 h)) hS1 hl
theorem zV_callSI (C0 : zCx E rm cc nL own Ts tys Nw) {As : List Value} {r : Int32} {S2 : σ} (hc : zI (el E) y ws rm2 (eD E) tys Nw wd As S (r, S2)) (hG : GoodIn Ts (va_wsS own idx y ws)) (hw : ws = Cond.code y bytes maxL ret :: ws2) (hd : y.cls ≠ "java/lang/invoke/MethodHandle" ∧ y.cls ≠ "java/lang/invoke/VarHandle" ∧ (parseMethodDescriptor y.desc).map (fun d => d.parameters.length) = some nA) (hn : As.length = nA) (h0 : rm2.cells = 0 ∧ rm2.slots = 0) (hR : rm2.frames + 1 ≤ rm.frames ∧ 8 + (maxL + 11) + rm2.locals ≤ rm.locals) (hst : st0 = As.reverse ++ st) (hW : (st.map fun v => v.category).sum ≤ 8) (hdg : decode cc pc = .ok (.invokestatic idx, 3)) (hpc : pc + 3 = n) (k : zV E wd nL S2 n lv (.int r :: st)) : zV E wd nL S pc lv st0 := by
  subst hpc
  intro H locs ls hP hD hS hl
  have hF := zfree hD hS C0.2.2.2.2.2.2.1
  refine va_calli (va_runS (As := As) (rest := st) ⟨C0.1, C0.2.1, C0.2.2.1, C0.2.2.2.1, C0.2.2.2.2.1⟩ (hc H.size) (va_cwS nA C0.2.2.2.2.1 hG hw h0.1 h0.2 hd (C0.2.2.2.2.2.2.2.2.2 ▸ hR)) ⟨zblind C0.2.2.2.2.2.2.2.2.1, fun U hU hW => ⟨rfl, by rw [hU], by rw [hU]; exact hP, va_K.moved hW.alike C0.2.2.2.2.2.1, hD.weaken (fun _ _ _ _ => trivial), C0.2.2.2.2.2.2.2.2.1.2 _ _ hW C0.2.2.2.2.2.2.2.1⟩⟩ rfl hn hl.1 hst (lv_room hW) hdg ⟨Nat.zero_le _, Nat.zero_le _⟩) hS (fun q _ h => hF q h) hF (fun r1 u t H1 locs1 ht hvm hw hB hz1 hk1 hS1 => ?_)
  obtain ⟨rfl, rfl⟩ := hw
  exact k H1 locs1 ls (ht ▸ hB.1) (hB.2.2.weaken (fun _ q _ h => hF q.1 h)) hS1 hl
theorem zV_callVJ (C0 : zCx E rm cc nL own Ts tys Nw) {b : Nat} {As : List Value} {r : Int64} {S2 : σ} (hc : zJ (el E) y ws rm2 (eD E) tys Nw wd (.ref b :: As) S (r, S2)) (hG : GoodIn Ts (wsV own idx y.cls y ws)) (hw : ws = Cond.code y bytes maxL ret :: ws2) (hd : y.cls ≠ "java/lang/invoke/MethodHandle" ∧ y.cls ≠ "java/lang/invoke/VarHandle" ∧ (parseMethodDescriptor y.desc).map (fun d => d.parameters.length) = some nA) (hn : As.length = nA) (h0 : rm2.cells = 0 ∧ rm2.slots = 0) (hR : rm2.frames + 1 ≤ rm.frames ∧ 8 + (maxL + 11) + rm2.locals ≤ rm.locals) (q0 : Nat) {ci N : Nat} {fs : List Value} {T : u_T} (hq : (wd S)[q0]? = some (b, .inr (ci, fs))) (hcl : vwCl[ci]? = some (y.cls, T, N)) (hst : st0 = As.reverse ++ .ref b :: st) (hW : (st.map fun v => v.category).sum ≤ 8) (hdg : decode cc pc = .ok (.invokevirtual idx, 3)) (hpc : pc + 3 = n) (k : zV E wd nL S2 n lv (.long r :: st)) : zV E wd nL S pc lv st0 := by
  subst hpc
  intro H locs ls hP hD hS hl
  have hF := zfree hD hS C0.2.2.2.2.2.2.1
  refine va_calll (va_runV (As := As) (rest := st) ⟨C0.1, C0.2.1, C0.2.2.1, C0.2.2.2.1, C0.2.2.2.2.1⟩ (hc H.size) (cwV nA C0.2.2.2.2.1 hG hw h0.1 h0.2 ⟨rfl, hd⟩ (C0.2.2.2.2.2.2.2.2.2 ▸ hR)) ⟨zblind C0.2.2.2.2.2.2.2.2.1, va_recv C0.2.2.2.2.2.1 hP hcl hq, fun U hU hW => ⟨rfl, by rw [hU], by rw [hU]; exact hP, va_K.moved hW.alike C0.2.2.2.2.2.1, hD.weaken (fun _ _ _ _ => trivial), C0.2.2.2.2.2.2.2.2.1.2 _ _ hW C0.2.2.2.2.2.2.2.1⟩⟩ rfl hn hl.1 hst (lv_room hW) hdg ⟨Nat.zero_le _, Nat.zero_le _⟩) hS (fun q _ h => hF q h) hF (fun r1 u t H1 locs1 ht hvm hw hB hz1 hk1 hS1 => ?_)
  obtain ⟨rfl, rfl⟩ := hw
  exact k H1 locs1 ls (ht ▸ hB.1) (hB.2.2.weaken (fun _ q _ h => hF q.1 h)) hS1 hl
theorem zV_callSJ (C0 : zCx E rm cc nL own Ts tys Nw) {As : List Value} {r : Int64} {S2 : σ} (hc : zJ (el E) y ws rm2 (eD E) tys Nw wd As S (r, S2)) (hG : GoodIn Ts (va_wsS own idx y ws)) (hw : ws = Cond.code y bytes maxL ret :: ws2) (hd : y.cls ≠ "java/lang/invoke/MethodHandle" ∧ y.cls ≠ "java/lang/invoke/VarHandle" ∧ (parseMethodDescriptor y.desc).map (fun d => d.parameters.length) = some nA) (hn : As.length = nA) (h0 : rm2.cells = 0 ∧ rm2.slots = 0) (hR : rm2.frames + 1 ≤ rm.frames ∧ 8 + (maxL + 11) + rm2.locals ≤ rm.locals) (hst : st0 = As.reverse ++ st) (hW : (st.map fun v => v.category).sum ≤ 8) (hdg : decode cc pc = .ok (.invokestatic idx, 3)) (hpc : pc + 3 = n) (k : zV E wd nL S2 n lv (.long r :: st)) : zV E wd nL S pc lv st0 := by
  subst hpc
  intro H locs ls hP hD hS hl
  have hF := zfree hD hS C0.2.2.2.2.2.2.1
  refine va_calll (va_runS (As := As) (rest := st) ⟨C0.1, C0.2.1, C0.2.2.1, C0.2.2.2.1, C0.2.2.2.2.1⟩ (hc H.size) (va_cwS nA C0.2.2.2.2.1 hG hw h0.1 h0.2 hd (C0.2.2.2.2.2.2.2.2.2 ▸ hR)) ⟨zblind C0.2.2.2.2.2.2.2.2.1, fun U hU hW => ⟨rfl, by rw [hU], by rw [hU]; exact hP, va_K.moved hW.alike C0.2.2.2.2.2.1, hD.weaken (fun _ _ _ _ => trivial), C0.2.2.2.2.2.2.2.2.1.2 _ _ hW C0.2.2.2.2.2.2.2.1⟩⟩ rfl hn hl.1 hst (lv_room hW) hdg ⟨Nat.zero_le _, Nat.zero_le _⟩) hS (fun q _ h => hF q h) hF (fun r1 u t H1 locs1 ht hvm hw hB hz1 hk1 hS1 => ?_)
  obtain ⟨rfl, rfl⟩ := hw
  exact k H1 locs1 ls (ht ▸ hB.1) (hB.2.2.weaken (fun _ q _ h => hF q.1 h)) hS1 hl
theorem zV_callVU (C0 : zCx E rm cc nL own Ts tys Nw) {b : Nat} {As : List Value} {S2 : σ} (hc : zU (el E) y ws rm2 (eD E) tys Nw wd (.ref b :: As) S S2) (hG : GoodIn Ts (wsV own idx y.cls y ws)) (hw : ws = Cond.code y bytes maxL ret :: ws2) (hd : y.cls ≠ "java/lang/invoke/MethodHandle" ∧ y.cls ≠ "java/lang/invoke/VarHandle" ∧ (parseMethodDescriptor y.desc).map (fun d => d.parameters.length) = some nA) (hn : As.length = nA) (h0 : rm2.cells = 0 ∧ rm2.slots = 0) (hR : rm2.frames + 1 ≤ rm.frames ∧ 8 + (maxL + 11) + rm2.locals ≤ rm.locals) (q0 : Nat) {ci N : Nat} {fs : List Value} {T : u_T} (hq : (wd S)[q0]? = some (b, .inr (ci, fs))) (hcl : vwCl[ci]? = some (y.cls, T, N)) (hst : st0 = As.reverse ++ .ref b :: st) (hW : (st.map fun v => v.category).sum ≤ 8) (hdg : decode cc pc = .ok (.invokevirtual idx, 3)) (hpc : pc + 3 = n) (k : zV E wd nL S2 n lv (st)) : zV E wd nL S pc lv st0 := by
  subst hpc
  intro H locs ls hP hD hS hl
  have hF := zfree hD hS C0.2.2.2.2.2.2.1
  refine va_callv (va_runV (As := As) (rest := st) ⟨C0.1, C0.2.1, C0.2.2.1, C0.2.2.2.1, C0.2.2.2.2.1⟩ (hc H.size) (cwV nA C0.2.2.2.2.1 hG hw h0.1 h0.2 ⟨rfl, hd⟩ (C0.2.2.2.2.2.2.2.2.2 ▸ hR)) ⟨zblind C0.2.2.2.2.2.2.2.2.1, va_recv C0.2.2.2.2.2.1 hP hcl hq, fun U hU hW => ⟨rfl, by rw [hU], by rw [hU]; exact hP, va_K.moved hW.alike C0.2.2.2.2.2.1, hD.weaken (fun _ _ _ _ => trivial), C0.2.2.2.2.2.2.2.2.1.2 _ _ hW C0.2.2.2.2.2.2.2.1⟩⟩ rfl hn hl.1 hst (lv_room hW) hdg ⟨Nat.zero_le _, Nat.zero_le _⟩) hS (fun q _ h => hF q h) hF (fun u t H1 locs1 ht hvm hw hB hz1 hk1 hS1 => ?_)
  have hw : u = S2 := hw
  subst hw
  exact k H1 locs1 ls (ht ▸ hB.1) (hB.2.2.weaken (fun _ q _ h => hF q.1 h)) hS1 hl
theorem zV_callSU (C0 : zCx E rm cc nL own Ts tys Nw) {As : List Value} {S2 : σ} (hc : zU (el E) y ws rm2 (eD E) tys Nw wd As S S2) (hG : GoodIn Ts (va_wsS own idx y ws)) (hw : ws = Cond.code y bytes maxL ret :: ws2) (hd : y.cls ≠ "java/lang/invoke/MethodHandle" ∧ y.cls ≠ "java/lang/invoke/VarHandle" ∧ (parseMethodDescriptor y.desc).map (fun d => d.parameters.length) = some nA) (hn : As.length = nA) (h0 : rm2.cells = 0 ∧ rm2.slots = 0) (hR : rm2.frames + 1 ≤ rm.frames ∧ 8 + (maxL + 11) + rm2.locals ≤ rm.locals) (hst : st0 = As.reverse ++ st) (hW : (st.map fun v => v.category).sum ≤ 8) (hdg : decode cc pc = .ok (.invokestatic idx, 3)) (hpc : pc + 3 = n) (k : zV E wd nL S2 n lv (st)) : zV E wd nL S pc lv st0 := by
  subst hpc
  intro H locs ls hP hD hS hl
  have hF := zfree hD hS C0.2.2.2.2.2.2.1
  refine va_callv (va_runS (As := As) (rest := st) ⟨C0.1, C0.2.1, C0.2.2.1, C0.2.2.2.1, C0.2.2.2.2.1⟩ (hc H.size) (va_cwS nA C0.2.2.2.2.1 hG hw h0.1 h0.2 hd (C0.2.2.2.2.2.2.2.2.2 ▸ hR)) ⟨zblind C0.2.2.2.2.2.2.2.2.1, fun U hU hW => ⟨rfl, by rw [hU], by rw [hU]; exact hP, va_K.moved hW.alike C0.2.2.2.2.2.1, hD.weaken (fun _ _ _ _ => trivial), C0.2.2.2.2.2.2.2.2.1.2 _ _ hW C0.2.2.2.2.2.2.2.1⟩⟩ rfl hn hl.1 hst (lv_room hW) hdg ⟨Nat.zero_le _, Nat.zero_le _⟩) hS (fun q _ h => hF q h) hF (fun u t H1 locs1 ht hvm hw hB hz1 hk1 hS1 => ?_)
  have hw : u = S2 := hw
  subst hw
  exact k H1 locs1 ls (ht ▸ hB.1) (hB.2.2.weaken (fun _ q _ h => hF q.1 h)) hS1 hl
theorem zV_callS0 (C0 : zCx E rm cc nL own Ts tys Nw) {As : List Value} {r : Int32} (hc : zI (el E) y ws rm2 (eD E) tys Nw (fun _ : Unit => []) As () (r, ())) (hG : GoodIn Ts (va_wsS own idx y ws)) (hw : ws = Cond.code y bytes maxL ret :: ws2) (hd : y.cls ≠ "java/lang/invoke/MethodHandle" ∧ y.cls ≠ "java/lang/invoke/VarHandle" ∧ (parseMethodDescriptor y.desc).map (fun d => d.parameters.length) = some nA) (hn : As.length = nA) (h0 : rm2.cells = 0 ∧ rm2.slots = 0) (hR : rm2.frames + 1 ≤ rm.frames ∧ 8 + (maxL + 11) + rm2.locals ≤ rm.locals) (hst : st0 = As.reverse ++ st) (hW : (st.map fun v => v.category).sum ≤ 8) (hdg : decode cc pc = .ok (.invokestatic idx, 3)) (hpc : pc + 3 = n) (k : zV E wd nL S n lv (.int r :: st)) : zV E wd nL S pc lv st0 := by
  subst hpc
  intro H locs ls hP hD hS hl
  have hF : ∀ q : Nat, va_A [] H.size q → eA E q := zfree (ws := []) ⟨fun i j p q h => by simp at h, fun k q h => by simp at h⟩ hS C0.2.2.2.2.2.2.1
  refine va_calli (va_runS (As := As) (rest := st) ⟨C0.1, C0.2.1, C0.2.2.1, C0.2.2.2.1, C0.2.2.2.2.1⟩ (hc H.size) (va_cwS nA C0.2.2.2.2.1 hG hw h0.1 h0.2 hd (C0.2.2.2.2.2.2.2.2.2 ▸ hR)) ⟨zblind C0.2.2.2.2.2.2.2.2.1, fun U hU hW => ⟨rfl, by rw [hU], fun k q h => by simp at h, va_K.moved hW.alike C0.2.2.2.2.2.1, ⟨fun i j p q h => by simp at h, fun k q h => by simp at h⟩, C0.2.2.2.2.2.2.2.2.1.2 _ _ hW C0.2.2.2.2.2.2.2.1⟩⟩ rfl hn hl.1 hst (lv_room hW) hdg ⟨Nat.zero_le _, Nat.zero_le _⟩) hS (fun q _ h => hF q h) hF (fun r u t H1 locs1 ht hvm hw hB hz1 hk1 hS1 => ?_)
  obtain ⟨rfl, -⟩ := hw
  exact k H1 locs1 ls (zkeep hP hk1) hD hS1 hl
theorem zV_callSN0 (C0 : zCx E rm cc nL own Ts tys Nw) {host : String} {As : List Value} {r : Int32} (hc : zI (el E) y ws rm2 (eD E) tys Nw (fun _ : Unit => []) As () (r, ())) (hG : GoodIn Ts ws) (hw : ws = Cond.code y bytes maxL ret :: ws2) (hl0 : Nw (es E) → va_Nw (.methodLinkNest own idx y host) (es E)) (hsw : Cond.static y ∈ Ts) (hini : Cond.initialized y.cls ∈ Ts) (hd : y.cls ≠ "java/lang/invoke/MethodHandle" ∧ y.cls ≠ "java/lang/invoke/VarHandle" ∧ (parseMethodDescriptor y.desc).map (fun d => d.parameters.length) = some nA) (hn : As.length = nA) (h0 : rm2.cells = 0 ∧ rm2.slots = 0) (hR : rm2.frames + 1 ≤ rm.frames ∧ 8 + (maxL + 11) + rm2.locals ≤ rm.locals) (hst : st0 = As.reverse ++ st) (hW : (st.map fun v => v.category).sum ≤ 8) (hdg : decode cc pc = .ok (.invokestatic idx, 3)) (hpc : pc + 3 = n) (k : zV E wd nL S n lv (.int r :: st)) : zV E wd nL S pc lv st0 := by
  subst hpc
  intro H locs ls hP hD hS hl
  have hF : ∀ q : Nat, va_A [] H.size q → eA E q := zfree (ws := []) ⟨fun i j p q h => by simp at h, fun k q h => by simp at h⟩ hS C0.2.2.2.2.2.2.1
  refine va_calli (va_runSN (As := As) (rest := st) ⟨C0.1, C0.2.1, C0.2.2.1, C0.2.2.2.1, C0.2.2.2.2.1⟩ (hc H.size) ⟨va_cnB nA C0.2.2.2.2.1 hG hw h0.1 h0.2 (hl0 C0.2.2.2.2.2.2.2.1) (C0.2.2.2.2.1 _ hini) hd (C0.2.2.2.2.2.2.2.2.2 ▸ hR), C0.2.2.2.2.1 _ hsw, trivial⟩ ⟨zblind C0.2.2.2.2.2.2.2.2.1, fun U hU hW => ⟨rfl, by rw [hU], fun k q h => by simp at h, va_K.moved hW.alike C0.2.2.2.2.2.1, ⟨fun i j p q h => by simp at h, fun k q h => by simp at h⟩, C0.2.2.2.2.2.2.2.2.1.2 _ _ hW C0.2.2.2.2.2.2.2.1⟩⟩ rfl hn hl.1 hst (lv_room hW) hdg ⟨Nat.zero_le _, Nat.zero_le _⟩) hS (fun q _ h => hF q h) hF (fun r u t H1 locs1 ht hvm hw hB hz1 hk1 hS1 => ?_)
  obtain ⟨rfl, -⟩ := hw
  exact k H1 locs1 ls (zkeep hP hk1) hD hS1 hl
end ZC
end
section
/-! ===== the worlds: S.1 the int fields, S.2.1 the seed, S.2.2 the arrays (by number); q the object, ad the addresses ===== -/
abbrev zS : Type := (Nat → Int32) × Int64 × (Nat → Nat → Int32)
def zur (a : Nat → Nat → Int32) (k : Nat) (row : Nat → Int32) : Nat → Nat → Int32 := fun j => if j = k then row else a j
abbrev zty (cI cZ : ClassId) : List (ClassId × FieldType) := [(cI, .int), (cZ, .boolean)]
abbrev zin (i : Int32) (n : Nat) : Prop := ¬ (i < 0 ∨ n ≤ i.toNatClampNeg)
abbrev zb (v : Int32) : Prop := v = 0 ∨ v = 1
theorem znz {v : Int32} (h : zb v) : narrow .boolean (.int v) = .int v := by rcases h with rfl | rfl <;> rfl
def zlet {α β : Type} (a : α) (f : α → Option β) : Option β := f a
theorem zlet_of {α β : Type} {a y : α} {f : α → Option β} {z : β} (e : y = a) (h : zlet a f = some z) : f y = some z := by rw [e]; exact h
def zsum {ρ ε : Type} (y : ρ ⊕ ε) (f : ε → Option ρ) : Option ρ := match y with
  | .inl r => some r
  | .inr e => f e
def zNwL : List Cond := [.fieldLinkNest "LeggedThrough" 48 "LeggedThrough$Text" "length" "I" "LeggedThrough", .fieldLinkNest "LeggedThrough" 71 "LeggedThrough$Plan" "steps" "I" "LeggedThrough", .fieldLinkNest "LeggedThrough" 65 "LeggedThrough$Plan" "leggers" "I" "LeggedThrough", .fieldLinkNest "LeggedThrough" 68 "LeggedThrough$Plan" "boats" "I" "LeggedThrough", .fieldLinkNest "LeggedThrough" 100 "LeggedThrough$State" "tired" "I" "LeggedThrough", .fieldLinkNest "LeggedThrough" 74 "LeggedThrough$State" "through" "I" "LeggedThrough", .fieldLinkNest "LeggedThrough" 77 "LeggedThrough$State" "clock" "I" "LeggedThrough", .fieldLinkNest "LeggedThrough" 80 "LeggedThrough$Acts" "many" "I" "LeggedThrough", .methodLinkNest "LeggedThrough" 9 ⟨"LeggedThrough$Text", "<init>", "()V"⟩ "LeggedThrough", .methodLinkNest "LeggedThrough" 18 ⟨"LeggedThrough$Plan", "<init>", "()V"⟩ "LeggedThrough", .methodLinkNest "LeggedThrough" 25 ⟨"LeggedThrough$State", "<init>", "()V"⟩ "LeggedThrough", .methodLinkNest "LeggedThrough" 32 ⟨"LeggedThrough$Acts", "<init>", "()V"⟩ "LeggedThrough", .methodLinkNest "LeggedThrough$State" 24 ⟨"LeggedThrough", "groundIn", "(II)I"⟩ "LeggedThrough"]
def zNw (U : State) : Prop := ∀ w ∈ zNwL, va_Nw w U
theorem zNw_ok : zNwOk zNw := by
  constructor
  · intro u U h hu w hw
    have ht : ∀ w ∈ zNwL, w.onTables = true := by decide +kernel
    exact va_Nw.same (ht w hw) h.symm (hu w hw)
  · intro u U h hu w hw
    have hw2 := hu w hw
    simp only [zNwL, List.mem_cons, List.not_mem_nil, or_false] at hw
    rcases hw with rfl | rfl | rfl | rfl | rfl | rfl | rfl | rfl | rfl | rfl | rfl | rfl | rfl <;> first | exact va_Nw.warmF h hw2 | exact va_Nw.warmM h hw2
def mF (ad : Nat → Nat) (S : zS) : List Value := [.int (S.1 0), .ref (ad 1), .int (S.1 2), .int (S.1 3), .int (S.1 4), .int (S.1 5), .ref (ad 6), .int (S.1 7), .ref (ad 8), .int (S.1 9), .int (S.1 10), .ref (ad 11), .int (S.1 12), .ref (ad 13), .ref (ad 14), .ref (ad 15), .ref (ad 16), .ref (ad 17), .int (S.1 18), .ref (ad 19), .ref (ad 20), .int (S.1 21), .ref (ad 22), .ref (ad 23), .long S.2.1, .int (S.1 25), .int (S.1 26), .int (S.1 27), .int (S.1 28), .int (S.1 29), .int (S.1 30), .int (S.1 31), .int (S.1 32), .ref (ad 33), .ref (ad 34), .ref (ad 35), .int (S.1 36)]
def wM (cI cZ : ClassId) (q : Nat) (ad : Nat → Nat) (S : zS) : va_W := [(q, .inr (5, mF ad S)), (ad 1, .inl (cI, 40, .inl (S.2.2 1))), (ad 6, .inl (cI, 4, .inl (S.2.2 6))), (ad 8, .inl (cI, 3, .inl (S.2.2 8))), (ad 11, .inl (cI, 20, .inl (S.2.2 11))), (ad 13, .inl (cI, 3, .inl (S.2.2 13))), (ad 14, .inl (cI, 22, .inl (S.2.2 14))), (ad 15, .inl (cI, 22, .inl (S.2.2 15))), (ad 16, .inl (cI, 22, .inl (S.2.2 16))), (ad 17, .inl (cI, 308, .inl (S.2.2 17))), (ad 19, .inl (cI, 44, .inl (S.2.2 19))), (ad 20, .inl (cZ, 2, .inl (S.2.2 20))), (ad 22, .inl (cI, 6, .inl (S.2.2 22))), (ad 23, .inl (cI, 6, .inl (S.2.2 23))), (ad 33, .inl (cI, 16, .inl (S.2.2 33))), (ad 34, .inl (cI, 6, .inl (S.2.2 34))), (ad 35, .inl (cI, 6, .inl (S.2.2 35)))]
theorem wM_f0 (cI cZ : ClassId) (q : Nat) (ad : Nat → Nat) (S : zS) (x : Int32) : (wM cI cZ q ad S).set 0 (q, .inr (5, (mF ad S).set 0 (.int x))) = wM cI cZ q ad (upd S.1 0 x, S.2) := rfl
theorem wM_f2 (cI cZ : ClassId) (q : Nat) (ad : Nat → Nat) (S : zS) (x : Int32) : (wM cI cZ q ad S).set 0 (q, .inr (5, (mF ad S).set 2 (.int x))) = wM cI cZ q ad (upd S.1 2 x, S.2) := rfl
theorem wM_f3 (cI cZ : ClassId) (q : Nat) (ad : Nat → Nat) (S : zS) (x : Int32) : (wM cI cZ q ad S).set 0 (q, .inr (5, (mF ad S).set 3 (.int x))) = wM cI cZ q ad (upd S.1 3 x, S.2) := rfl
theorem wM_f4 (cI cZ : ClassId) (q : Nat) (ad : Nat → Nat) (S : zS) (x : Int32) : (wM cI cZ q ad S).set 0 (q, .inr (5, (mF ad S).set 4 (.int x))) = wM cI cZ q ad (upd S.1 4 x, S.2) := rfl
theorem wM_f5 (cI cZ : ClassId) (q : Nat) (ad : Nat → Nat) (S : zS) (x : Int32) : (wM cI cZ q ad S).set 0 (q, .inr (5, (mF ad S).set 5 (.int x))) = wM cI cZ q ad (upd S.1 5 x, S.2) := rfl
theorem wM_f7 (cI cZ : ClassId) (q : Nat) (ad : Nat → Nat) (S : zS) (x : Int32) : (wM cI cZ q ad S).set 0 (q, .inr (5, (mF ad S).set 7 (.int x))) = wM cI cZ q ad (upd S.1 7 x, S.2) := rfl
theorem wM_f9 (cI cZ : ClassId) (q : Nat) (ad : Nat → Nat) (S : zS) (x : Int32) : (wM cI cZ q ad S).set 0 (q, .inr (5, (mF ad S).set 9 (.int x))) = wM cI cZ q ad (upd S.1 9 x, S.2) := rfl
theorem wM_f10 (cI cZ : ClassId) (q : Nat) (ad : Nat → Nat) (S : zS) (x : Int32) : (wM cI cZ q ad S).set 0 (q, .inr (5, (mF ad S).set 10 (.int x))) = wM cI cZ q ad (upd S.1 10 x, S.2) := rfl
theorem wM_f12 (cI cZ : ClassId) (q : Nat) (ad : Nat → Nat) (S : zS) (x : Int32) : (wM cI cZ q ad S).set 0 (q, .inr (5, (mF ad S).set 12 (.int x))) = wM cI cZ q ad (upd S.1 12 x, S.2) := rfl
theorem wM_f18 (cI cZ : ClassId) (q : Nat) (ad : Nat → Nat) (S : zS) (x : Int32) : (wM cI cZ q ad S).set 0 (q, .inr (5, (mF ad S).set 18 (.int x))) = wM cI cZ q ad (upd S.1 18 x, S.2) := rfl
theorem wM_f21 (cI cZ : ClassId) (q : Nat) (ad : Nat → Nat) (S : zS) (x : Int32) : (wM cI cZ q ad S).set 0 (q, .inr (5, (mF ad S).set 21 (.int x))) = wM cI cZ q ad (upd S.1 21 x, S.2) := rfl
theorem wM_f24 (cI cZ : ClassId) (q : Nat) (ad : Nat → Nat) (S : zS) (x : Int64) : (wM cI cZ q ad S).set 0 (q, .inr (5, (mF ad S).set 24 (.long x))) = wM cI cZ q ad (S.1, x, S.2.2) := rfl
theorem wM_f25 (cI cZ : ClassId) (q : Nat) (ad : Nat → Nat) (S : zS) (x : Int32) : (wM cI cZ q ad S).set 0 (q, .inr (5, (mF ad S).set 25 (.int x))) = wM cI cZ q ad (upd S.1 25 x, S.2) := rfl
theorem wM_f26 (cI cZ : ClassId) (q : Nat) (ad : Nat → Nat) (S : zS) (x : Int32) : (wM cI cZ q ad S).set 0 (q, .inr (5, (mF ad S).set 26 (.int x))) = wM cI cZ q ad (upd S.1 26 x, S.2) := rfl
theorem wM_f27 (cI cZ : ClassId) (q : Nat) (ad : Nat → Nat) (S : zS) (x : Int32) : (wM cI cZ q ad S).set 0 (q, .inr (5, (mF ad S).set 27 (.int x))) = wM cI cZ q ad (upd S.1 27 x, S.2) := rfl
theorem wM_f28 (cI cZ : ClassId) (q : Nat) (ad : Nat → Nat) (S : zS) (x : Int32) : (wM cI cZ q ad S).set 0 (q, .inr (5, (mF ad S).set 28 (.int x))) = wM cI cZ q ad (upd S.1 28 x, S.2) := rfl
theorem wM_f29 (cI cZ : ClassId) (q : Nat) (ad : Nat → Nat) (S : zS) (x : Int32) : (wM cI cZ q ad S).set 0 (q, .inr (5, (mF ad S).set 29 (.int x))) = wM cI cZ q ad (upd S.1 29 x, S.2) := rfl
theorem wM_f30 (cI cZ : ClassId) (q : Nat) (ad : Nat → Nat) (S : zS) (x : Int32) : (wM cI cZ q ad S).set 0 (q, .inr (5, (mF ad S).set 30 (.int x))) = wM cI cZ q ad (upd S.1 30 x, S.2) := rfl
theorem wM_f31 (cI cZ : ClassId) (q : Nat) (ad : Nat → Nat) (S : zS) (x : Int32) : (wM cI cZ q ad S).set 0 (q, .inr (5, (mF ad S).set 31 (.int x))) = wM cI cZ q ad (upd S.1 31 x, S.2) := rfl
theorem wM_f32 (cI cZ : ClassId) (q : Nat) (ad : Nat → Nat) (S : zS) (x : Int32) : (wM cI cZ q ad S).set 0 (q, .inr (5, (mF ad S).set 32 (.int x))) = wM cI cZ q ad (upd S.1 32 x, S.2) := rfl
theorem wM_f36 (cI cZ : ClassId) (q : Nat) (ad : Nat → Nat) (S : zS) (x : Int32) : (wM cI cZ q ad S).set 0 (q, .inr (5, (mF ad S).set 36 (.int x))) = wM cI cZ q ad (upd S.1 36 x, S.2) := rfl
theorem wM_a1 (cI cZ : ClassId) (q : Nat) (ad : Nat → Nat) (S : zS) (r : Nat → Int32) : (wM cI cZ q ad S).set 1 (ad 1, .inl (cI, 40, .inl r)) = wM cI cZ q ad (S.1, S.2.1, zur S.2.2 1 r) := rfl
theorem wM_a6 (cI cZ : ClassId) (q : Nat) (ad : Nat → Nat) (S : zS) (r : Nat → Int32) : (wM cI cZ q ad S).set 2 (ad 6, .inl (cI, 4, .inl r)) = wM cI cZ q ad (S.1, S.2.1, zur S.2.2 6 r) := rfl
theorem wM_a8 (cI cZ : ClassId) (q : Nat) (ad : Nat → Nat) (S : zS) (r : Nat → Int32) : (wM cI cZ q ad S).set 3 (ad 8, .inl (cI, 3, .inl r)) = wM cI cZ q ad (S.1, S.2.1, zur S.2.2 8 r) := rfl
theorem wM_a11 (cI cZ : ClassId) (q : Nat) (ad : Nat → Nat) (S : zS) (r : Nat → Int32) : (wM cI cZ q ad S).set 4 (ad 11, .inl (cI, 20, .inl r)) = wM cI cZ q ad (S.1, S.2.1, zur S.2.2 11 r) := rfl
theorem wM_a13 (cI cZ : ClassId) (q : Nat) (ad : Nat → Nat) (S : zS) (r : Nat → Int32) : (wM cI cZ q ad S).set 5 (ad 13, .inl (cI, 3, .inl r)) = wM cI cZ q ad (S.1, S.2.1, zur S.2.2 13 r) := rfl
theorem wM_a14 (cI cZ : ClassId) (q : Nat) (ad : Nat → Nat) (S : zS) (r : Nat → Int32) : (wM cI cZ q ad S).set 6 (ad 14, .inl (cI, 22, .inl r)) = wM cI cZ q ad (S.1, S.2.1, zur S.2.2 14 r) := rfl
theorem wM_a15 (cI cZ : ClassId) (q : Nat) (ad : Nat → Nat) (S : zS) (r : Nat → Int32) : (wM cI cZ q ad S).set 7 (ad 15, .inl (cI, 22, .inl r)) = wM cI cZ q ad (S.1, S.2.1, zur S.2.2 15 r) := rfl
theorem wM_a16 (cI cZ : ClassId) (q : Nat) (ad : Nat → Nat) (S : zS) (r : Nat → Int32) : (wM cI cZ q ad S).set 8 (ad 16, .inl (cI, 22, .inl r)) = wM cI cZ q ad (S.1, S.2.1, zur S.2.2 16 r) := rfl
theorem wM_a17 (cI cZ : ClassId) (q : Nat) (ad : Nat → Nat) (S : zS) (r : Nat → Int32) : (wM cI cZ q ad S).set 9 (ad 17, .inl (cI, 308, .inl r)) = wM cI cZ q ad (S.1, S.2.1, zur S.2.2 17 r) := rfl
theorem wM_a19 (cI cZ : ClassId) (q : Nat) (ad : Nat → Nat) (S : zS) (r : Nat → Int32) : (wM cI cZ q ad S).set 10 (ad 19, .inl (cI, 44, .inl r)) = wM cI cZ q ad (S.1, S.2.1, zur S.2.2 19 r) := rfl
theorem wM_a20 (cI cZ : ClassId) (q : Nat) (ad : Nat → Nat) (S : zS) (r : Nat → Int32) : (wM cI cZ q ad S).set 11 (ad 20, .inl (cZ, 2, .inl r)) = wM cI cZ q ad (S.1, S.2.1, zur S.2.2 20 r) := rfl
theorem wM_a22 (cI cZ : ClassId) (q : Nat) (ad : Nat → Nat) (S : zS) (r : Nat → Int32) : (wM cI cZ q ad S).set 12 (ad 22, .inl (cI, 6, .inl r)) = wM cI cZ q ad (S.1, S.2.1, zur S.2.2 22 r) := rfl
theorem wM_a23 (cI cZ : ClassId) (q : Nat) (ad : Nat → Nat) (S : zS) (r : Nat → Int32) : (wM cI cZ q ad S).set 13 (ad 23, .inl (cI, 6, .inl r)) = wM cI cZ q ad (S.1, S.2.1, zur S.2.2 23 r) := rfl
theorem wM_a33 (cI cZ : ClassId) (q : Nat) (ad : Nat → Nat) (S : zS) (r : Nat → Int32) : (wM cI cZ q ad S).set 14 (ad 33, .inl (cI, 16, .inl r)) = wM cI cZ q ad (S.1, S.2.1, zur S.2.2 33 r) := rfl
theorem wM_a34 (cI cZ : ClassId) (q : Nat) (ad : Nat → Nat) (S : zS) (r : Nat → Int32) : (wM cI cZ q ad S).set 15 (ad 34, .inl (cI, 6, .inl r)) = wM cI cZ q ad (S.1, S.2.1, zur S.2.2 34 r) := rfl
theorem wM_a35 (cI cZ : ClassId) (q : Nat) (ad : Nat → Nat) (S : zS) (r : Nat → Int32) : (wM cI cZ q ad S).set 16 (ad 35, .inl (cI, 6, .inl r)) = wM cI cZ q ad (S.1, S.2.1, zur S.2.2 35 r) := rfl
abbrev mok (k : Nat) : Prop := k = 14 ∨ k = 15 ∨ k = 16
theorem wM_at (cI cZ : ClassId) (q : Nat) (ad : Nat → Nat) (S : zS) {k : Nat} (hk : mok k) : (wM cI cZ q ad S)[k - 8]? = some (ad k, .inl (cI, 22, .inl (S.2.2 k))) := by rcases hk with rfl | rfl | rfl <;> rfl
theorem wM_as (cI cZ : ClassId) (q : Nat) (ad : Nat → Nat) (S : zS) {k : Nat} (hk : mok k) (r : Nat → Int32) : (wM cI cZ q ad S).set (k - 8) (ad k, .inl (cI, 22, .inl r)) = wM cI cZ q ad (S.1, S.2.1, zur S.2.2 k r) := by rcases hk with rfl | rfl | rfl <;> rfl
def xF (ad : Nat → Nat) (S : zS) : List Value := [.ref (ad 0), .ref (ad 1), .ref (ad 2), .ref (ad 3), .ref (ad 4), .ref (ad 5), .int (S.1 6), .int (S.1 7), .int (S.1 8), .long S.2.1]
def xT (ad : Nat → Nat) (S : zS) : List Value := [.ref (ad 6), .int (S.1 9)]
def xP (S : zS) : List Value := [.int (S.1 10), .int (S.1 11), .int (S.1 12), .int (S.1 13), .int (S.1 14)]
def xS (S : zS) : List Value := [.int (S.1 15), .int (S.1 16), .int (S.1 17), .int (S.1 18)]
def xA (ad : Nat → Nat) (S : zS) : List Value := [.ref (ad 7), .int (S.1 19), .int (S.1 20)]
def wC (cI : ClassId) (q : Nat) (ad : Nat → Nat) (S : zS) : va_W := [(q, .inr (4, xF ad S)), (ad 0, .inr (3, xT ad S)), (ad 1, .inr (1, xP S)), (ad 2, .inr (2, xS S)), (ad 3, .inr (0, xA ad S)), (ad 4, .inl (cI, 8, .inl (S.2.2 4))), (ad 5, .inl (cI, 4, .inl (S.2.2 5))), (ad 6, .inl (cI, 40, .inl (S.2.2 6))), (ad 7, .inl (cI, 56, .inl (S.2.2 7)))]
theorem wC_f6 (cI : ClassId) (q : Nat) (ad : Nat → Nat) (S : zS) (x : Int32) : (wC cI q ad S).set 0 (q, .inr (4, (xF ad S).set 6 (.int x))) = wC cI q ad (upd S.1 6 x, S.2) := rfl
theorem wC_f7 (cI : ClassId) (q : Nat) (ad : Nat → Nat) (S : zS) (x : Int32) : (wC cI q ad S).set 0 (q, .inr (4, (xF ad S).set 7 (.int x))) = wC cI q ad (upd S.1 7 x, S.2) := rfl
theorem wC_f8 (cI : ClassId) (q : Nat) (ad : Nat → Nat) (S : zS) (x : Int32) : (wC cI q ad S).set 0 (q, .inr (4, (xF ad S).set 8 (.int x))) = wC cI q ad (upd S.1 8 x, S.2) := rfl
theorem wC_f9 (cI : ClassId) (q : Nat) (ad : Nat → Nat) (S : zS) (x : Int32) : (wC cI q ad S).set 1 (ad 0, .inr (3, (xT ad S).set 1 (.int x))) = wC cI q ad (upd S.1 9 x, S.2) := rfl
theorem wC_f10 (cI : ClassId) (q : Nat) (ad : Nat → Nat) (S : zS) (x : Int32) : (wC cI q ad S).set 2 (ad 1, .inr (1, (xP S).set 0 (.int x))) = wC cI q ad (upd S.1 10 x, S.2) := rfl
theorem wC_f11 (cI : ClassId) (q : Nat) (ad : Nat → Nat) (S : zS) (x : Int32) : (wC cI q ad S).set 2 (ad 1, .inr (1, (xP S).set 1 (.int x))) = wC cI q ad (upd S.1 11 x, S.2) := rfl
theorem wC_f12 (cI : ClassId) (q : Nat) (ad : Nat → Nat) (S : zS) (x : Int32) : (wC cI q ad S).set 2 (ad 1, .inr (1, (xP S).set 2 (.int x))) = wC cI q ad (upd S.1 12 x, S.2) := rfl
theorem wC_f13 (cI : ClassId) (q : Nat) (ad : Nat → Nat) (S : zS) (x : Int32) : (wC cI q ad S).set 2 (ad 1, .inr (1, (xP S).set 3 (.int x))) = wC cI q ad (upd S.1 13 x, S.2) := rfl
theorem wC_f14 (cI : ClassId) (q : Nat) (ad : Nat → Nat) (S : zS) (x : Int32) : (wC cI q ad S).set 2 (ad 1, .inr (1, (xP S).set 4 (.int x))) = wC cI q ad (upd S.1 14 x, S.2) := rfl
theorem wC_f15 (cI : ClassId) (q : Nat) (ad : Nat → Nat) (S : zS) (x : Int32) : (wC cI q ad S).set 3 (ad 2, .inr (2, (xS S).set 0 (.int x))) = wC cI q ad (upd S.1 15 x, S.2) := rfl
theorem wC_f16 (cI : ClassId) (q : Nat) (ad : Nat → Nat) (S : zS) (x : Int32) : (wC cI q ad S).set 3 (ad 2, .inr (2, (xS S).set 1 (.int x))) = wC cI q ad (upd S.1 16 x, S.2) := rfl
theorem wC_f17 (cI : ClassId) (q : Nat) (ad : Nat → Nat) (S : zS) (x : Int32) : (wC cI q ad S).set 3 (ad 2, .inr (2, (xS S).set 2 (.int x))) = wC cI q ad (upd S.1 17 x, S.2) := rfl
theorem wC_f18 (cI : ClassId) (q : Nat) (ad : Nat → Nat) (S : zS) (x : Int32) : (wC cI q ad S).set 3 (ad 2, .inr (2, (xS S).set 3 (.int x))) = wC cI q ad (upd S.1 18 x, S.2) := rfl
theorem wC_f19 (cI : ClassId) (q : Nat) (ad : Nat → Nat) (S : zS) (x : Int32) : (wC cI q ad S).set 4 (ad 3, .inr (0, (xA ad S).set 1 (.int x))) = wC cI q ad (upd S.1 19 x, S.2) := rfl
theorem wC_f20 (cI : ClassId) (q : Nat) (ad : Nat → Nat) (S : zS) (x : Int32) : (wC cI q ad S).set 4 (ad 3, .inr (0, (xA ad S).set 2 (.int x))) = wC cI q ad (upd S.1 20 x, S.2) := rfl
theorem wC_f100 (cI : ClassId) (q : Nat) (ad : Nat → Nat) (S : zS) (x : Int64) : (wC cI q ad S).set 0 (q, .inr (4, (xF ad S).set 9 (.long x))) = wC cI q ad (S.1, x, S.2.2) := rfl
theorem wC_a4 (cI : ClassId) (q : Nat) (ad : Nat → Nat) (S : zS) (r : Nat → Int32) : (wC cI q ad S).set 5 (ad 4, .inl (cI, 8, .inl r)) = wC cI q ad (S.1, S.2.1, zur S.2.2 4 r) := rfl
theorem wC_a5 (cI : ClassId) (q : Nat) (ad : Nat → Nat) (S : zS) (r : Nat → Int32) : (wC cI q ad S).set 6 (ad 5, .inl (cI, 4, .inl r)) = wC cI q ad (S.1, S.2.1, zur S.2.2 5 r) := rfl
theorem wC_a6 (cI : ClassId) (q : Nat) (ad : Nat → Nat) (S : zS) (r : Nat → Int32) : (wC cI q ad S).set 7 (ad 6, .inl (cI, 40, .inl r)) = wC cI q ad (S.1, S.2.1, zur S.2.2 6 r) := rfl
theorem wC_a7 (cI : ClassId) (q : Nat) (ad : Nat → Nat) (S : zS) (r : Nat → Int32) : (wC cI q ad S).set 8 (ad 7, .inl (cI, 56, .inl r)) = wC cI q ad (S.1, S.2.1, zur S.2.2 7 r) := rfl
abbrev xok (k : Nat) : Prop := k = 4 ∨ k = 5 ∨ k = 7
def xlen (k : Nat) : Nat := if k = 4 then 8 else if k = 5 then 4 else 56
theorem wC_at (cI : ClassId) (q : Nat) (ad : Nat → Nat) (S : zS) {k : Nat} (hk : xok k) : (wC cI q ad S)[k + 1]? = some (ad k, .inl (cI, xlen k, .inl (S.2.2 k))) := by rcases hk with rfl | rfl | rfl <;> rfl
theorem wC_as (cI : ClassId) (q : Nat) (ad : Nat → Nat) (S : zS) {k : Nat} (hk : xok k) (r : Nat → Int32) : (wC cI q ad S).set (k + 1) (ad k, .inl (cI, xlen k, .inl r)) = wC cI q ad (S.1, S.2.1, zur S.2.2 k r) := by rcases hk with rfl | rfl | rfl <;> rfl
theorem zV_topi {E : zE} {σ : Type} {wd : σ → va_W} {nL : Nat} {S : σ} {pc : Nat} {lv : List (Nat × Value)} {st : List Value} {x : Int32} (k : ∀ y : Int32, y = x → zV E wd nL S pc lv (.int y :: st)) : zV E wd nL S pc lv (.int x :: st) := k x rfl
theorem zV_topl {E : zE} {σ : Type} {wd : σ → va_W} {nL : Nat} {S : σ} {pc : Nat} {lv : List (Nat × Value)} {st : List Value} {x : Int64} (k : ∀ y : Int64, y = x → zV E wd nL S pc lv (.long y :: st)) : zV E wd nL S pc lv (.long x :: st) := k x rfl
end
