/-! ===== bits of ints; two bits of an int as a figure ===== -/
def bt (x : Int32) (i : Nat) : Bool := x.toBitVec.getLsbD i
theorem bt_ext {x y : Int32} (h : ∀ i, i < 32 → bt x i = bt y i) : x = y := Int32.toBitVec_inj.mp (BitVec.eq_of_getLsbD_eq (fun i hi => h i hi))
theorem bt_or (x y : Int32) (i : Nat) : bt (x ||| y) i = (bt x i || bt y i) := by unfold bt; rw [Int32.toBitVec_or, BitVec.getLsbD_or]
theorem bt_and (x y : Int32) (i : Nat) : bt (x &&& y) i = (bt x i && bt y i) := by unfold bt; rw [Int32.toBitVec_and, BitVec.getLsbD_and]
theorem bt_xor (x y : Int32) (i : Nat) : bt (x ^^^ y) i = (bt x i ^^ bt y i) := by unfold bt; rw [Int32.toBitVec_xor, BitVec.getLsbD_xor]
theorem bt_big {x : Int32} {i : Nat} (h : 32 ≤ i) : bt x i = false := BitVec.getLsbD_of_ge _ _ h
theorem bt_m1 : ∀ i, i < 32 → bt (-1) i = true := by decide +kernel
theorem bt_0 (i : Nat) : bt 0 i = false := BitVec.getLsbD_zero
theorem bt_3 (i : Nat) : bt 3 i = decide (i < 2) := by
  by_cases h : i < 32
  · revert h; revert i; decide +kernel
  · rw [bt_big (by omega)]; simp; omega
theorem bt_1 (i : Nat) : bt 1 i = decide (i = 0) := by
  by_cases h : i < 32
  · revert h; revert i; decide +kernel
  · rw [bt_big (by omega)]; simp; omega
theorem bt_15 (i : Nat) : bt 15 i = decide (i < 4) := by
  by_cases h : i < 32
  · revert h; revert i; decide +kernel
  · rw [bt_big (by omega)]; simp; omega
theorem ushr_amt : ∀ n : Nat, n < 32 → ((Int32.ofNat n).toUInt32 &&& Int32.toUInt32 31).toBitVec.toNat % 32 = n := by decide +kernel
theorem shl_amt : ∀ n : Nat, n < 32 → ((Int32.ofNat n &&& 31).toBitVec.smod 32).toNat = n := by decide +kernel
theorem tN_lt32 {s : Int32} (h1 : s < 32) : s.toNatClampNeg < 32 := toN_lt (n := 32) 32 rfl (by decide) h1 (by decide)
theorem bt_ushr (x : Int32) {s : Int32} (h0 : 0 ≤ s) (h1 : s < 32) (i : Nat) : bt (zushr x s) i = bt x (s.toNatClampNeg + i) := by
  have hn := tN_lt32 h1
  have e := ofN_toN h0
  generalize s.toNatClampNeg = n at *
  subst e
  unfold bt zushr
  show ((x.toUInt32 >>> ((Int32.ofNat n).toUInt32 &&& Int32.toUInt32 31)).toBitVec).getLsbD i = _
  rw [UInt32.toBitVec_shiftRight]
  rw [BitVec.ushiftRight_eq', BitVec.getLsbD_ushiftRight]
  congr 1
  have := ushr_amt n hn
  have e2 : (((Int32.ofNat n).toUInt32 &&& Int32.toUInt32 31).toBitVec % 32).toNat = n := by
    rw [BitVec.toNat_umod]; exact this
  rw [e2]
theorem bt_shl (x : Int32) {s : Int32} (h0 : 0 ≤ s) (h1 : s < 32) {i : Nat} (hi : i < 32) : bt (zshl x s) i = (decide (s.toNatClampNeg ≤ i) && bt x (i - s.toNatClampNeg)) := by
  have hn := tN_lt32 h1
  have e := ofN_toN h0
  generalize s.toNatClampNeg = n at *
  subst e
  unfold bt zshl
  rw [Int32.toBitVec_shiftLeft]
  rw [BitVec.shiftLeft_eq', BitVec.getLsbD_shiftLeft]
  have := shl_amt n hn
  rw [this]
  by_cases h : n ≤ i
  · simp [h, hi, Nat.not_lt.mpr h]
  · simp [h, hi, Nat.lt_of_not_le h]
/-- two bits of w from n on -/
def fl (w : Int32) (n : Nat) : Int32 := if bt w (n + 1) then (if bt w n then 3 else 2) else (if bt w n then 1 else 0)
theorem fl_b (w : Int32) (n : Nat) : 0 ≤ fl w n ∧ fl w n < 4 := by unfold fl; split <;> split <;> decide
theorem fl_cong {w v : Int32} {n m : Nat} (h0 : bt w n = bt v m) (h1 : bt w (n + 1) = bt v (m + 1)) : fl w n = fl v m := by unfold fl; rw [h0, h1]
theorem bt_fl (w : Int32) (n i : Nat) (hi : i < 2) : bt (fl w n) i = bt w (n + i) := by
  unfold fl
  rcases (by omega : i = 0 ∨ i = 1) with rfl | rfl
  · show bt _ 0 = bt w n
    cases bt w (n + 1) <;> cases bt w n <;> decide
  · cases h : bt w (n + 1) <;> cases bt w n <;> decide
theorem fl_self : ∀ {v : Int32}, 0 ≤ v → v < 4 → fl v 0 = v := by
  intro v h0 h1
  rcases i4 h0 h1 with rfl | rfl | rfl | rfl <;> decide
theorem bt_fl_hi (w : Int32) (n : Nat) : ∀ i, 2 ≤ i → bt (fl w n) i = false := by
  intro i hi
  by_cases h : i < 32
  · unfold fl
    have q : ∀ i, i < 32 → 2 ≤ i → bt 0 i = false ∧ bt 1 i = false ∧ bt 2 i = false ∧ bt 3 i = false := by decide +kernel
    obtain ⟨q0, q1, q2, q3⟩ := q i h hi
    split <;> split <;> assumption
  · exact bt_big (by omega)
theorem and3_fl (x : Int32) : x &&& 3 = fl x 0 := by
  apply bt_ext
  intro i hi
  rw [bt_and, bt_3]
  by_cases h : i < 2
  · rw [bt_fl _ _ _ h]; simp [h]
  · rw [bt_fl_hi _ _ _ (by omega)]; simp [h]
theorem fl_ushr (w : Int32) {s : Int32} (h0 : 0 ≤ s) (h1 : s < 32) (n : Nat) : fl (zushr w s) n = fl w (s.toNatClampNeg + n) := fl_cong (bt_ushr w h0 h1 n) (by rw [bt_ushr w h0 h1]; congr 1)
theorem tN_2 {g : Int32} (h0 : 0 ≤ g) (h1 : g < 4) : 0 ≤ 2 * g ∧ 2 * g < 32 ∧ (2 * g).toNatClampNeg = 2 * g.toNatClampNeg := by
  rcases i4 h0 h1 with rfl | rfl | rfl | rfl <;> decide
theorem tN_8 {g : Int32} (h0 : 0 ≤ g) (h1 : g < 4) : 0 ≤ 8 * g ∧ 8 * g < 32 ∧ (8 * g).toNatClampNeg = 8 * g.toNatClampNeg := by
  rcases i4 h0 h1 with rfl | rfl | rfl | rfl <;> decide
theorem tN_4 {g : Int32} (h0 : 0 ≤ g) (h1 : g < 4) : 0 ≤ 4 * g ∧ 4 * g < 32 ∧ (4 * g).toNatClampNeg = 4 * g.toNatClampNeg := by
  rcases i4 h0 h1 with rfl | rfl | rfl | rfl <;> decide
theorem tN_82 {g k : Int32} (h0 : 0 ≤ g) (h1 : g < 4) (h2 : 0 ≤ k) (h3 : k < 4) : 0 ≤ 8 * g + 2 * k ∧ 8 * g + 2 * k < 32 ∧ (8 * g + 2 * k).toNatClampNeg = 8 * g.toNatClampNeg + 2 * k.toNatClampNeg := by
  rcases i4 h0 h1 with rfl | rfl | rfl | rfl <;> rcases i4 h2 h3 with rfl | rfl | rfl | rfl <;> decide
theorem tN_c {g : Int32} (h0 : 0 ≤ g) (h1 : g < 4) : g.toNatClampNeg < 4 := toN_lt (n := 4) 4 rfl (by decide) h1 (by decide)
theorem gr_fl (w : Int32) {g k : Int32} (h0 : 0 ≤ g) (h1 : g < 4) (h2 : 0 ≤ k) (h3 : k < 4) : gr w g k = fl w (8 * g.toNatClampNeg + 2 * k.toNatClampNeg) := by
  unfold gr
  have a := tN_8 h0 h1
  have b := tN_2 h2 h3
  rw [and3_fl, fl_ushr _ b.1 b.2.1, fl_ushr _ a.1 a.2.1, a.2.2, b.2.2]
  congr 1
theorem td_fl (w : Int32) {g : Int32} (h0 : 0 ≤ g) (h1 : g < 4) : td w g = fl w (2 * g.toNatClampNeg) := by
  unfold td
  have b := tN_2 h0 h1
  rw [and3_fl, fl_ushr _ b.1 b.2.1, b.2.2]
  congr 1
/-- a figure laid over two bits -/
def lay (w v s : Int32) : Int32 := (w &&& ((zshl 3 s) ^^^ (-1))) ||| (zshl v s)
theorem bt_lay (w v : Int32) {s : Int32} (h0 : 0 ≤ s) (h1 : s < 32) (hv : 0 ≤ v) (hv2 : v < 4) {i : Nat} (hi : i < 32) : bt (lay w v s) i = if s.toNatClampNeg ≤ i ∧ i < s.toNatClampNeg + 2 then bt v (i - s.toNatClampNeg) else bt w i := by
  unfold lay
  rw [bt_or, bt_and, bt_xor, bt_m1 i hi, bt_shl _ h0 h1 hi, bt_shl _ h0 h1 hi, bt_3]
  generalize s.toNatClampNeg = n
  by_cases a : n ≤ i
  · by_cases b : i < n + 2
    · have : i - n < 2 := by omega
      simp [a, b, this]
    · have c : ¬ i - n < 2 := by omega
      have d : bt v (i - n) = false := by
        have := bt_fl_hi v 0 (i - n) (by omega)
        rwa [fl_self hv hv2] at this
      simp [a, b, c, d]
  · simp [a]
theorem fl_lay (w v : Int32) {s : Int32} (h0 : 0 ≤ s) (h1 : s < 31) (hv : 0 ≤ v) (hv2 : v < 4) {n : Nat} (hn : n < 31) (h : n = s.toNatClampNeg ∨ n + 2 ≤ s.toNatClampNeg ∨ s.toNatClampNeg + 2 ≤ n) : fl (lay w v s) n = if n = s.toNatClampNeg then v else fl w n := by
  have h1' : s < 32 := by grind
  by_cases a : n = s.toNatClampNeg
  · rw [if_pos a, ← fl_self hv hv2]
    apply fl_cong
    · rw [bt_lay _ _ h0 h1' (by rw [fl_self hv hv2]; exact hv) (by rw [fl_self hv hv2]; exact hv2) (by omega), if_pos (by omega)]
      rw [fl_self hv hv2]; congr 1; omega
    · rw [bt_lay _ _ h0 h1' (by rw [fl_self hv hv2]; exact hv) (by rw [fl_self hv hv2]; exact hv2) (by omega), if_pos (by omega)]
      rw [fl_self hv hv2]; congr 1; omega
  · rw [if_neg a]
    apply fl_cong
    · rw [bt_lay _ _ h0 h1' hv hv2 (by omega), if_neg (by omega)]
    · rw [bt_lay _ _ h0 h1' hv hv2 (by omega), if_neg (by omega)]
/-- a figure as a number -/
def wN (w : Int32) : Nat := w.toBitVec.toNat
theorem wN_lt (w : Int32) : wN w < 4294967296 := w.toBitVec.isLt
theorem wN_add (a b : Int32) : wN (a + b) = (wN a + wN b) % 4294967296 := by
  unfold wN; rw [Int32.toBitVec_add, BitVec.toNat_add]
theorem bt_wN (w : Int32) (i : Nat) : bt w i = (wN w).testBit i := rfl
theorem fl_wN (w : Int32) (n : Nat) : fl w n = Int32.ofNat (wN w / 2 ^ n % 4) := by
  unfold fl
  rw [bt_wN, bt_wN]
  have e1 : (wN w).testBit (n + 1) = decide (wN w / 2 ^ n / 2 % 2 = 1) := by
    rw [Nat.testBit_eq_decide_div_mod_eq, Nat.pow_succ, Nat.div_div_eq_div_mul]
  have e0 : (wN w).testBit n = decide (wN w / 2 ^ n % 2 = 1) := Nat.testBit_eq_decide_div_mod_eq
  rw [e1, e0]
  generalize wN w / 2 ^ n = m
  have h4 : m % 4 < 4 := Nat.mod_lt _ (by decide)
  by_cases a : m / 2 % 2 = 1
  · by_cases b : m % 2 = 1
    · have : m % 4 = 3 := by omega
      simp [a, b, this]
    · have : m % 4 = 2 := by omega
      simp [a, b, this]
  · by_cases b : m % 2 = 1
    · have : m % 4 = 1 := by omega
      simp [a, b, this]
    · have : m % 4 = 0 := by omega
      simp [a, b, this]
theorem ofN_lt3 {m : Nat} (h : m < 4) : Int32.ofNat m < 3 ↔ m < 3 := by
  rcases (by omega : m = 0 ∨ m = 1 ∨ m = 2 ∨ m = 3) with rfl | rfl | rfl | rfl <;> decide
theorem fl_tire (w g : Int32) (h0 : 0 ≤ g) (h1 : g < 4) (k : Nat) (hk : k < 4) : fl (tire1 w g) (2 * k) = if k = g.toNatClampNeg ∧ fl w (2 * k) < 3 then fl w (2 * k) + 1 else fl w (2 * k) := by
  unfold tire1
  have e : zushr w (2 * g) &&& 3 = fl w (2 * g.toNatClampNeg) := td_fl w h0 h1
  rw [e]
  by_cases c : fl w (2 * g.toNatClampNeg) < 3
  · rw [if_pos c]
    have hz : wN (zshl 1 (2 * g)) = 2 ^ (2 * g.toNatClampNeg) := by
      rcases i4 h0 h1 with rfl | rfl | rfl | rfl <;> decide
    have hg := tN_c h0 h1
    rw [fl_wN, wN_add, hz, fl_wN]
    rw [fl_wN] at c
    rw [ofN_lt3 (Nat.mod_lt _ (by decide))] at c
    simp only [ofN_lt3 (Nat.mod_lt (wN w / 2 ^ (2 * k)) (by decide : 4 > 0))]
    have hl := wN_lt w
    generalize wN w = m at *
    generalize g.toNatClampNeg = j at *
    rcases (by omega : j = 0 ∨ j = 1 ∨ j = 2 ∨ j = 3) with rfl | rfl | rfl | rfl <;> rcases (by omega : k = 0 ∨ k = 1 ∨ k = 2 ∨ k = 3) with rfl | rfl | rfl | rfl <;> simp only [Nat.reduceMul, Nat.reducePow, Nat.reduceEqDiff, false_and, true_and, if_false] at * <;> first | (rw [if_pos c, ← ofN_s]; congr 1; omega) | (congr 1; omega)
  · rw [if_neg c, if_neg]
    rintro ⟨rfl, h⟩
    exact c h
