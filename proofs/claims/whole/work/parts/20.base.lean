/-! ===== numbers, guards, loops: what the pure programs' laws rest on ===== -/
theorem gdz {n : Nat} {m : Int32} {i : Int32} {α : Type} {k : Option α} (hm : m = Int32.ofNat n) (hn : n < 2147483648) (h0 : 0 ≤ i) (h1 : i < m) : gd (zin i n) k = k := by
  refine gd_pos ?_
  intro h
  have h0' := Int32.le_iff_toInt_le.mp h0
  have h1' := Int32.lt_iff_toInt_lt.mp h1
  have hz : (0 : Int32).toInt = 0 := rfl
  have hm' : m.toInt = (n : Int) := by rw [hm]; exact Int32.toInt_ofNat_of_lt hn
  rcases h with h | h
  · have := Int32.lt_iff_toInt_lt.mp h; omega
  · have : i.toNatClampNeg = i.toInt.toNat := rfl
    omega
theorem gdz2 {i : Int32} {α : Type} {k : Option α} (h0 : 0 ≤ i) (h1 : i < 2) : gd (zin i 2) k = k := gdz (m := 2) rfl (by decide) h0 h1
theorem gdz3 {i : Int32} {α : Type} {k : Option α} (h0 : 0 ≤ i) (h1 : i < 3) : gd (zin i 3) k = k := gdz (m := 3) rfl (by decide) h0 h1
theorem gdz4 {i : Int32} {α : Type} {k : Option α} (h0 : 0 ≤ i) (h1 : i < 4) : gd (zin i 4) k = k := gdz (m := 4) rfl (by decide) h0 h1
theorem gdz6 {i : Int32} {α : Type} {k : Option α} (h0 : 0 ≤ i) (h1 : i < 6) : gd (zin i 6) k = k := gdz (m := 6) rfl (by decide) h0 h1
theorem gdz8 {i : Int32} {α : Type} {k : Option α} (h0 : 0 ≤ i) (h1 : i < 8) : gd (zin i 8) k = k := gdz (m := 8) rfl (by decide) h0 h1
theorem gdz16 {i : Int32} {α : Type} {k : Option α} (h0 : 0 ≤ i) (h1 : i < 16) : gd (zin i 16) k = k := gdz (m := 16) rfl (by decide) h0 h1
theorem gdz20 {i : Int32} {α : Type} {k : Option α} (h0 : 0 ≤ i) (h1 : i < 20) : gd (zin i 20) k = k := gdz (m := 20) rfl (by decide) h0 h1
theorem gdz22 {i : Int32} {α : Type} {k : Option α} (h0 : 0 ≤ i) (h1 : i < 22) : gd (zin i 22) k = k := gdz (m := 22) rfl (by decide) h0 h1
theorem gdz40 {i : Int32} {α : Type} {k : Option α} (h0 : 0 ≤ i) (h1 : i < 40) : gd (zin i 40) k = k := gdz (m := 40) rfl (by decide) h0 h1
theorem gdz44 {i : Int32} {α : Type} {k : Option α} (h0 : 0 ≤ i) (h1 : i < 44) : gd (zin i 44) k = k := gdz (m := 44) rfl (by decide) h0 h1
theorem gdz56 {i : Int32} {α : Type} {k : Option α} (h0 : 0 ≤ i) (h1 : i < 56) : gd (zin i 56) k = k := gdz (m := 56) rfl (by decide) h0 h1
theorem gdz308 {i : Int32} {α : Type} {k : Option α} (h0 : 0 ≤ i) (h1 : i < 308) : gd (zin i 308) k = k := gdz (m := 308) rfl (by decide) h0 h1
theorem gdn {i : Int32} {α : Type} {k : Option α} (h : ¬ i = 0) : gd (¬ i = 0) k = k := gd_pos h
theorem ofN_b {n : Nat} (h : n ≤ 6000) : 0 ≤ Int32.ofNat n ∧ Int32.ofNat n ≤ 6000 := by
  have e : (Int32.ofNat n).toInt = (n : Int) := Int32.toInt_ofNat_of_lt (by omega)
  have e2 : (6000 : Int32).toInt = 6000 := rfl
  have e3 : (0 : Int32).toInt = 0 := rfl
  constructor
  · exact Int32.le_iff_toInt_le.mpr (by omega)
  · exact Int32.le_iff_toInt_le.mpr (by omega)
theorem ofN_s (n : Nat) : Int32.ofNat (n + 1) = Int32.ofNat n + 1 := Int32.ofNat_add n 1
theorem toN_lt {i : Int32} {n : Nat} (m : Int32) (hm : m = Int32.ofNat n) (hn : n < 2147483648) (h1 : i < m) (hp : 0 < n) : i.toNatClampNeg < n := by
  have h1' := Int32.lt_iff_toInt_lt.mp h1
  have hm' : m.toInt = (n : Int) := by rw [hm]; exact Int32.toInt_ofNat_of_lt hn
  have : i.toNatClampNeg = i.toInt.toNat := rfl
  omega
theorem toN_ofN {n : Nat} (hn : n < 2147483648) : (Int32.ofNat n).toNatClampNeg = n := by
  have hm' : (Int32.ofNat n).toInt = (n : Int) := Int32.toInt_ofNat_of_lt hn
  have : (Int32.ofNat n).toNatClampNeg = (Int32.ofNat n).toInt.toNat := rfl
  omega
theorem ofN_toN {i : Int32} (h : 0 ≤ i) : Int32.ofNat i.toNatClampNeg = i := by
  have h' := Int32.le_iff_toInt_le.mp h
  have e : i.toNatClampNeg = i.toInt.toNat := rfl
  have hb := Int32.toInt_lt i
  have hz : (0 : Int32).toInt = 0 := rfl
  apply Int32.toInt_inj.mp
  rw [Int32.toInt_ofNat_of_lt (by omega)]
  omega
theorem i4 {x : Int32} (h : 0 ≤ x) (h2 : x < 4) : x = 0 ∨ x = 1 ∨ x = 2 ∨ x = 3 := by grind
theorem i3 {x : Int32} (h : 0 ≤ x) (h2 : x < 3) : x = 0 ∨ x = 1 ∨ x = 2 := by grind
/-- a loop that runs on while some rounds are left -/
theorem zfix_run {ε ρ : Type} {F : (ε → Option ρ) → ε → Option ρ} (P : Nat → ε → Prop) (hs : ∀ n e, P (n + 1) e → ∃ e', (∀ rc, F rc e = rc e') ∧ P n e') : ∀ n e fuel, P n e → n < fuel → ∃ e' fuel', P 0 e' ∧ zfix F fuel e = F (zfix F fuel') e' := by
  intro n
  induction n with
  | zero =>
    intro e fuel h hf
    cases fuel with
    | zero => omega
    | succ f => exact ⟨e, f, h, rfl⟩
  | succ n ih =>
    intro e fuel h hf
    cases fuel with
    | zero => omega
    | succ f =>
      obtain ⟨e', h1, h2⟩ := hs n e h
      obtain ⟨e2, f2, h3, h4⟩ := ih e' f h2 (by omega)
      exact ⟨e2, f2, h3, (h1 _).trans h4⟩
theorem zfix_s {ε ρ : Type} {F : (ε → Option ρ) → ε → Option ρ} (n : Nat) (e : ε) : zfix F (n + 1) e = F (zfix F n) e := rfl
theorem zN_pos : zN = 5999 + 1 := rfl
/-- the cells behind an update -/
theorem upd_apply (f : Nat → Int32) (k : Nat) (x : Int32) (j : Nat) : upd f k x j = if j = k then x else f j := rfl
theorem zur_apply (a : Nat → Nat → Int32) (k : Nat) (row : Nat → Int32) (j : Nat) : zur a k row j = if j = k then row else a j := rfl
theorem zl {α β : Type} (a : α) (f : α → Option β) : zlet a f = f a := rfl
theorem zj {α ρ : Type} (K : α → Option ρ) (F : (α → Option ρ) → Option ρ) : zjoin K F = F K := rfl
theorem zb0 {α : Type} {k : Option α} : gd (zb 0) k = k := gd_pos (Or.inl rfl)
theorem zb1 {α : Type} {k : Option α} : gd (zb 1) k = k := gd_pos (Or.inr rfl)
theorem ite_ite {α : Type} {c : Prop} [Decidable c] (a b : Int32) (K : Int32 → α) : (if c then K a else K b) = K (if c then a else b) := by split <;> rfl
/-! ===== the leaves of the class ===== -/
theorem x_isPlace (a : Int32) : f_X4_isPlace a = some (if 0 ≤ a ∧ a < 4 then 1 else 0) := by
  simp only [f_X4_isPlace, zj, zb0, zb1]
  grind
theorem x_isIn (w i : Int32) : f_X4_isIn w i = some (if zushr w i &&& 1 = 0 then 0 else 1) := by
  simp only [f_X4_isIn, zj, zb0, zb1]
  grind
theorem x_groundIn (w i : Int32) : f_X4_groundIn w i = some (zushr w (2 * i) &&& 3) := rfl
theorem x_timesTired (w i : Int32) : f_X4_timesTired w i = some (zushr w (2 * i) &&& 3) := rfl
def sMin (g : Int32) : Int32 := if g = 1 then 2 else if g = 3 then 3 else 1
def sNext (a g : Int32) : Int32 := zrem (a + if g = 2 then 2 else 1) 4
def tire1 (w g : Int32) : Int32 := if zushr w (2 * g) &&& 3 < 3 then w + zshl 1 (2 * g) else w
theorem x_minutesOver (g : Int32) : f_X4_minutesOver g = some (sMin g) := by
  simp only [f_X4_minutesOver, sMin]
  grind
theorem x_placeBehind (a g : Int32) : f_X4_placeBehind a g = some (sNext a g) := by
  simp only [f_X4_placeBehind, sNext, zj]
  grind
theorem x_tireOne (w g : Int32) : f_X4_tireOne w g = some (tire1 w g) := by
  simp only [f_X4_tireOne, x_timesTired, Option.bind_some, tire1, zj]
  grind
theorem x_tireBoth (w g k : Int32) : f_X4_tireBoth w g k = some (tire1 (tire1 w g) k) := by
  simp only [f_X4_tireBoth, x_tireOne, Option.bind_some]
theorem x_hasLegger (a : Int32) (S : zS) : f_X1_hasLegger a S = some (if 0 ≤ a ∧ a < S.1 11 then 1 else 0) := by
  simp only [f_X1_hasLegger, zj, zb0, zb1]
  grind
theorem x_hasBoat (a : Int32) (S : zS) : f_X1_hasBoat a S = some (if 0 ≤ a ∧ a < S.1 12 then 1 else 0) := by
  simp only [f_X1_hasBoat, zj, zb0, zb1]
  grind
theorem x_kindOf (a : Int32) (S : zS) : f_X1_kindOf a S = some (zushr (S.1 13) (2 * a) &&& 3) := rfl
theorem x_loadOf (a : Int32) (S : zS) : f_X1_loadOf a S = some (zushr (S.1 14) (4 * a) &&& 15) := rfl
theorem x_groundAt (g k : Int32) (S : zS) : f_X2_groundAt g k S = some (zushr (zushr (S.1 15) (8 * g)) (2 * k) &&& 3) := rfl
theorem x_pairRefusal (b g k : Int32) (S : zS) : f_X4_pairRefusal b g k S = some (if (0 ≤ b ∧ b < S.1 12) ∧ (0 ≤ g ∧ g < S.1 11) ∧ (0 ≤ k ∧ k < S.1 11) then (if g = k then -2 else 0) else -1) := by
  simp only [f_X4_pairRefusal, x_hasBoat, x_hasLegger, Option.bind_some, zj]
  grind
theorem x_placeRefusal (g k : Int32) (S : zS) : f_X4_placeRefusal g k S = some (if 0 ≤ g ∧ g < S.1 11 then (if 0 ≤ k ∧ k < 4 then 0 else -2) else -1) := by
  simp only [f_X4_placeRefusal, x_hasLegger, x_isPlace, Option.bind_some, zj]
  grind
/-! ===== the leaves of the reference ===== -/
theorem cmp_lt (x y : Int64) : lg_cmp x y < 0 ↔ x < y := by
  unfold lg_cmp; grind
theorem cmp_gt (x y : Int64) : 0 < lg_cmp x y ↔ y < x := by
  unfold lg_cmp; grind
theorem w_lt (a b : Int32) : a.toInt64 < b.toInt64 ↔ a < b := by rw [Int64.lt_iff_toInt_lt, Int32.lt_iff_toInt_lt, Int32.toInt_toInt64, Int32.toInt_toInt64]
theorem m_in (x a b : Int32) : f_X5_in x.toInt64 a.toInt64 b.toInt64 = some (if a ≤ x ∧ x ≤ b then 1 else 0) := by
  simp only [f_X5_in, zj, zb0, zb1, cmp_lt, cmp_gt, w_lt]
  grind
theorem m_noLegger (a : Int32) (M : zS) (h : 0 ≤ M.1 5) : f_X5_noLegger a M = some (if 0 ≤ a ∧ a < M.1 5 then 0 else 1) := by
  have e : (0 : Int64) = (0 : Int32).toInt64 := rfl
  simp only [f_X5_noLegger, e, m_in, Option.bind_some, zj, zb0, zb1]
  grind
theorem m_noBoat (a : Int32) (M : zS) (h : 0 ≤ M.1 7) : f_X5_noBoat a M = some (if 0 ≤ a ∧ a < M.1 7 then 0 else 1) := by
  have e : (0 : Int64) = (0 : Int32).toInt64 := rfl
  simp only [f_X5_noBoat, e, m_in, Option.bind_some, zj, zb0, zb1]
  grind
theorem m_noPair (b g k : Int32) (M : zS) (h5 : 0 ≤ M.1 5) (h7 : 0 ≤ M.1 7) : f_X5_noPair b g k M = some (if (0 ≤ b ∧ b < M.1 7) ∧ (0 ≤ g ∧ g < M.1 5) ∧ (0 ≤ k ∧ k < M.1 5) then (if g = k then -2 else 0) else -1) := by
  simp only [f_X5_noPair, m_noBoat _ _ h7, m_noLegger _ _ h5, Option.bind_some, zj]
  grind
theorem m_minutes (g : Int32) : f_X5_minutes g = some (sMin g) := by
  simp only [f_X5_minutes, sMin, zj]
  grind
theorem m_next (a g : Int32) : f_X5_next a g = some (sNext a g) := by
  simp only [f_X5_next, sNext, zj]
  grind
