/-! ===== the reference's soonest: pairs laid, rows by number ===== -/
def lP (M : zS) (a b : Nat → Int32) (c : Nat) : zS := (upd M.1 36 (nI c), M.2.1, zur (zur M.2.2 34 a) 35 b)
theorem lay_hI (M : zS) (rc : Int32 × zS → Option zS) (i : Int32) (rc2 : Int32 × zS → Option zS) (a b : Nat → Int32) (c : Nat) (j : Int32) (hc : c < 6) (h : ¬ M.1 5 ≤ j) : F_X5_layPairs_19 rc i rc2 (j, lP M a b c) = rc2 (j + 1, lP M (upd a c i) (upd b c j) (c + 1)) := by
  have g1 : nI c < 6 := nI_lt (b := 6) (by omega) (by omega)
  have g0 : 0 ≤ nI c := nI_pos' (by omega)
  have z1 : zur (zur (zur (zur M.2.2 34 a) 35 b) 34 (upd a c i)) 35 (upd b c j) = zur (zur M.2.2 34 (upd a c i)) 35 (upd b c j) := by
    funext k; unfold zur; split
    · rfl
    · split <;> rfl
  have z2 : upd (upd M.1 36 (nI c)) 36 (nI c + 1) = upd M.1 36 (nI (c + 1)) := by
    rw [nI_1]; funext k; unfold upd; split <;> rfl
  have y1 : zur (zur M.2.2 34 a) 35 b 34 = a := rfl
  have y2 : zur (zur (zur M.2.2 34 a) 35 b) 34 (upd a c i) 35 = b := rfl
  have y3 : (lP M a b c).1 36 = nI c := rfl
  have y4 : (lP M a b c).1 5 = M.1 5 := rfl
  simp only [F_X5_layPairs_19, y4, if_neg h, y3, gdz6 g0 g1, zl, nI_clamp (show c < 2 ^ 31 by omega)]
  simp only [lP, y1, y2, z1, z2]
theorem lay_hIx (M : zS) (rc : Int32 × zS → Option zS) (i : Int32) (rc2 : Int32 × zS → Option zS) (a b : Nat → Int32) (c : Nat) (j : Int32) (h : M.1 5 ≤ j) : F_X5_layPairs_19 rc i rc2 (j, lP M a b c) = rc (i + 1, lP M a b c) := by
  have y4 : (lP M a b c).1 5 = M.1 5 := rfl
  simp only [F_X5_layPairs_19, y4, if_pos h]
theorem lay_hO (M : zS) (rc : Int32 × zS → Option zS) (a b : Nat → Int32) (c : Nat) (i : Int32) (h : ¬ M.1 5 ≤ i) : F_X5_layPairs_7 rc (i, lP M a b c) = zfix (F_X5_layPairs_19 rc i) zN (i + 1, lP M a b c) := by
  have y4 : (lP M a b c).1 5 = M.1 5 := rfl
  simp only [F_X5_layPairs_7, y4, if_neg h, zl]
theorem lay_hOx (M : zS) (rc : Int32 × zS → Option zS) (a b : Nat → Int32) (c : Nat) (i : Int32) (h : M.1 5 ≤ i) : F_X5_layPairs_7 rc (i, lP M a b c) = some (lP M a b c) := by
  have y4 : (lP M a b c).1 5 = M.1 5 := rfl
  simp only [F_X5_layPairs_7, y4, if_pos h]

theorem lay_0 (M : zS) (h : M.1 5 = 0) (a b : Nat → Int32) : ∃ a3 a4, zfix F_X5_layPairs_7 zN (0, lP M a b 0) = some (lP M a3 a4 (npN 0)) ∧ ∀ q, q < npN 0 → a3 q = nI (p1 0 q) ∧ a4 q = nI (p2 0 q) := by
  rw [show zN = 5994 + 1 + 1 + 1 + 1 + 1 + 1 from rfl]
  rw [zfix_s, lay_hOx M _ _ _ _ _ (by rw [h]; decide)]
  refine ⟨_, _, rfl, ?_⟩
  intro q hq
  exact absurd hq (by show ¬ q < 0; omega)
theorem lay_1 (M : zS) (h : M.1 5 = 1) (a b : Nat → Int32) : ∃ a3 a4, zfix F_X5_layPairs_7 zN (0, lP M a b 0) = some (lP M a3 a4 (npN 1)) ∧ ∀ q, q < npN 1 → a3 q = nI (p1 1 q) ∧ a4 q = nI (p2 1 q) := by
  rw [show zN = 5994 + 1 + 1 + 1 + 1 + 1 + 1 from rfl]
  rw [zfix_s, lay_hO M _ _ _ _ _ (by rw [h]; decide), show zN = 5994 + 1 + 1 + 1 + 1 + 1 + 1 from rfl, show (0 : Int32) + 1 = 1 by decide]
  rw [zfix_s, lay_hIx M _ _ _ _ _ _ _ (by rw [h]; decide), show (0 : Int32) + 1 = 1 by decide]
  rw [zfix_s, lay_hOx M _ _ _ _ _ (by rw [h]; decide)]
  refine ⟨_, _, rfl, ?_⟩
  intro q hq
  exact absurd hq (by show ¬ q < 0; omega)
theorem lay_2 (M : zS) (h : M.1 5 = 2) (a b : Nat → Int32) : ∃ a3 a4, zfix F_X5_layPairs_7 zN (0, lP M a b 0) = some (lP M a3 a4 (npN 2)) ∧ ∀ q, q < npN 2 → a3 q = nI (p1 2 q) ∧ a4 q = nI (p2 2 q) := by
  rw [show zN = 5994 + 1 + 1 + 1 + 1 + 1 + 1 from rfl]
  rw [zfix_s, lay_hO M _ _ _ _ _ (by rw [h]; decide), show zN = 5994 + 1 + 1 + 1 + 1 + 1 + 1 from rfl, show (0 : Int32) + 1 = 1 by decide]
  rw [zfix_s, lay_hI M _ _ _ _ _ 0 _ (by decide) (by rw [h]; decide), show (1 : Int32) + 1 = 2 by decide]
  rw [zfix_s, lay_hIx M _ _ _ _ _ _ _ (by rw [h]; decide), show (0 : Int32) + 1 = 1 by decide]
  rw [zfix_s, lay_hO M _ _ _ _ _ (by rw [h]; decide), show zN = 5994 + 1 + 1 + 1 + 1 + 1 + 1 from rfl, show (1 : Int32) + 1 = 2 by decide]
  rw [zfix_s, lay_hIx M _ _ _ _ _ _ _ (by rw [h]; decide), show (1 : Int32) + 1 = 2 by decide]
  rw [zfix_s, lay_hOx M _ _ _ _ _ (by rw [h]; decide)]
  refine ⟨_, _, rfl, ?_⟩
  intro q hq
  have hq : q < 1 := hq
  rcases (by omega : q = 0) with rfl <;> exact ⟨rfl, rfl⟩
theorem lay_3 (M : zS) (h : M.1 5 = 3) (a b : Nat → Int32) : ∃ a3 a4, zfix F_X5_layPairs_7 zN (0, lP M a b 0) = some (lP M a3 a4 (npN 3)) ∧ ∀ q, q < npN 3 → a3 q = nI (p1 3 q) ∧ a4 q = nI (p2 3 q) := by
  rw [show zN = 5994 + 1 + 1 + 1 + 1 + 1 + 1 from rfl]
  rw [zfix_s, lay_hO M _ _ _ _ _ (by rw [h]; decide), show zN = 5994 + 1 + 1 + 1 + 1 + 1 + 1 from rfl, show (0 : Int32) + 1 = 1 by decide]
  rw [zfix_s, lay_hI M _ _ _ _ _ 0 _ (by decide) (by rw [h]; decide), show (1 : Int32) + 1 = 2 by decide]
  rw [zfix_s, lay_hI M _ _ _ _ _ 1 _ (by decide) (by rw [h]; decide), show (2 : Int32) + 1 = 3 by decide]
  rw [zfix_s, lay_hIx M _ _ _ _ _ _ _ (by rw [h]; decide), show (0 : Int32) + 1 = 1 by decide]
  rw [zfix_s, lay_hO M _ _ _ _ _ (by rw [h]; decide), show zN = 5994 + 1 + 1 + 1 + 1 + 1 + 1 from rfl, show (1 : Int32) + 1 = 2 by decide]
  rw [zfix_s, lay_hI M _ _ _ _ _ 2 _ (by decide) (by rw [h]; decide), show (2 : Int32) + 1 = 3 by decide]
  rw [zfix_s, lay_hIx M _ _ _ _ _ _ _ (by rw [h]; decide), show (1 : Int32) + 1 = 2 by decide]
  rw [zfix_s, lay_hO M _ _ _ _ _ (by rw [h]; decide), show zN = 5994 + 1 + 1 + 1 + 1 + 1 + 1 from rfl, show (2 : Int32) + 1 = 3 by decide]
  rw [zfix_s, lay_hIx M _ _ _ _ _ _ _ (by rw [h]; decide), show (2 : Int32) + 1 = 3 by decide]
  rw [zfix_s, lay_hOx M _ _ _ _ _ (by rw [h]; decide)]
  refine ⟨_, _, rfl, ?_⟩
  intro q hq
  have hq : q < 3 := hq
  rcases (by omega : q = 0 ∨ q = 1 ∨ q = 2) with rfl | rfl | rfl <;> exact ⟨rfl, rfl⟩
theorem lay_4 (M : zS) (h : M.1 5 = 4) (a b : Nat → Int32) : ∃ a3 a4, zfix F_X5_layPairs_7 zN (0, lP M a b 0) = some (lP M a3 a4 (npN 4)) ∧ ∀ q, q < npN 4 → a3 q = nI (p1 4 q) ∧ a4 q = nI (p2 4 q) := by
  rw [show zN = 5994 + 1 + 1 + 1 + 1 + 1 + 1 from rfl]
  rw [zfix_s, lay_hO M _ _ _ _ _ (by rw [h]; decide), show zN = 5994 + 1 + 1 + 1 + 1 + 1 + 1 from rfl, show (0 : Int32) + 1 = 1 by decide]
  rw [zfix_s, lay_hI M _ _ _ _ _ 0 _ (by decide) (by rw [h]; decide), show (1 : Int32) + 1 = 2 by decide]
  rw [zfix_s, lay_hI M _ _ _ _ _ 1 _ (by decide) (by rw [h]; decide), show (2 : Int32) + 1 = 3 by decide]
  rw [zfix_s, lay_hI M _ _ _ _ _ 2 _ (by decide) (by rw [h]; decide), show (3 : Int32) + 1 = 4 by decide]
  rw [zfix_s, lay_hIx M _ _ _ _ _ _ _ (by rw [h]; decide), show (0 : Int32) + 1 = 1 by decide]
  rw [zfix_s, lay_hO M _ _ _ _ _ (by rw [h]; decide), show zN = 5994 + 1 + 1 + 1 + 1 + 1 + 1 from rfl, show (1 : Int32) + 1 = 2 by decide]
  rw [zfix_s, lay_hI M _ _ _ _ _ 3 _ (by decide) (by rw [h]; decide), show (2 : Int32) + 1 = 3 by decide]
  rw [zfix_s, lay_hI M _ _ _ _ _ 4 _ (by decide) (by rw [h]; decide), show (3 : Int32) + 1 = 4 by decide]
  rw [zfix_s, lay_hIx M _ _ _ _ _ _ _ (by rw [h]; decide), show (1 : Int32) + 1 = 2 by decide]
  rw [zfix_s, lay_hO M _ _ _ _ _ (by rw [h]; decide), show zN = 5994 + 1 + 1 + 1 + 1 + 1 + 1 from rfl, show (2 : Int32) + 1 = 3 by decide]
  rw [zfix_s, lay_hI M _ _ _ _ _ 5 _ (by decide) (by rw [h]; decide), show (3 : Int32) + 1 = 4 by decide]
  rw [zfix_s, lay_hIx M _ _ _ _ _ _ _ (by rw [h]; decide), show (2 : Int32) + 1 = 3 by decide]
  rw [zfix_s, lay_hO M _ _ _ _ _ (by rw [h]; decide), show zN = 5994 + 1 + 1 + 1 + 1 + 1 + 1 from rfl, show (3 : Int32) + 1 = 4 by decide]
  rw [zfix_s, lay_hIx M _ _ _ _ _ _ _ (by rw [h]; decide), show (3 : Int32) + 1 = 4 by decide]
  rw [zfix_s, lay_hOx M _ _ _ _ _ (by rw [h]; decide)]
  refine ⟨_, _, rfl, ?_⟩
  intro q hq
  have hq : q < 6 := hq
  rcases (by omega : q = 0 ∨ q = 1 ∨ q = 2 ∨ q = 3 ∨ q = 4 ∨ q = 5) with rfl | rfl | rfl | rfl | rfl | rfl <;> exact ⟨rfl, rfl⟩
theorem m_layPairs (M : zS) (h0 : 0 ≤ M.1 5) (h1 : M.1 5 ≤ 4) : ∃ a3 a4, f_X5_layPairs M = some (lP M a3 a4 (npN (M.1 5).toNatClampNeg)) ∧ ∀ q, q < npN (M.1 5).toNatClampNeg → a3 q = nI (p1 (M.1 5).toNatClampNeg q) ∧ a4 q = nI (p2 (M.1 5).toNatClampNeg q) := by
  have e : f_X5_layPairs M = zfix F_X5_layPairs_7 zN (0, lP M (M.2.2 34) (M.2.2 35) 0) := by
    unfold f_X5_layPairs
    rw [zl]
    have : (upd M.1 36 0, M.2) = lP M (M.2.2 34) (M.2.2 35) 0 := by
      unfold lP; rw [zur_same]
      have : zur M.2.2 35 (M.2.2 35) = M.2.2 := zur_same _ _
      rw [this]; rfl
    rw [this]
  rw [e]
  rcases (by grind : M.1 5 = 0 ∨ M.1 5 = 1 ∨ M.1 5 = 2 ∨ M.1 5 = 3 ∨ M.1 5 = 4) with h | h | h | h | h
  · rw [h]; exact lay_0 M h _ _
  · rw [h]; exact lay_1 M h _ _
  · rw [h]; exact lay_2 M h _ _
  · rw [h]; exact lay_3 M h _ _
  · rw [h]; exact lay_4 M h _ _
theorem m_power (W : Nat) : ∀ k : Nat, k < 4 → f_X5_power (nI W) (nI k) = some (nI (W ^ k)) := by
  have hs : ∀ k i : Nat, i < k → k < 4 → ∀ rc x, F_X5_power_4 (nI k) (nI W) rc (x, nI i) = rc (x * nI W, nI (i + 1)) := by
    intro k i h1 h2 rc x
    simp only [F_X5_power_4, if_neg (nI_ge h1 (by omega)), zl]
    rw [nI_1]
  have hx : ∀ k : Nat, k < 4 → ∀ rc x, F_X5_power_4 (nI k) (nI W) rc (x, nI k) = some x := by
    intro k h2 rc x
    simp only [F_X5_power_4, if_pos (nI_le (Nat.le_refl k) (by omega))]
  intro k hk
  unfold f_X5_power
  rw [zN_5]
  have e1 : (1 : Int32) = nI 1 := rfl
  have e0 : (0 : Int32) = nI 0 := rfl
  rw [e1, e0]
  rcases (by omega : k = 0 ∨ k = 1 ∨ k = 2 ∨ k = 3) with rfl | rfl | rfl | rfl
  · rw [zfix_s, hx _ (by decide)]; rfl
  · rw [zfix_s, hs _ _ (by decide) (by decide), zfix_s, hx _ (by decide), pk_mul, Nat.one_mul, Nat.pow_one]
  · rw [zfix_s, hs _ _ (by decide) (by decide), zfix_s, hs _ _ (by decide) (by decide), zfix_s, hx _ (by decide), pk_mul, pk_mul, Nat.one_mul, Nat.pow_two]
  · rw [zfix_s, hs _ _ (by decide) (by decide), zfix_s, hs _ _ (by decide) (by decide), zfix_s, hs _ _ (by decide) (by decide), zfix_s, hx _ (by decide), pk_mul, pk_mul, pk_mul, Nat.one_mul, Nat.pow_succ, Nat.pow_two]
/-! rows by number -/
def evR (tq : (Nat → Int32) → Nat → Nat) (lg : (Nat → Int32) → Nat → Nat → (Nat → Int32)) (ld : Nat → Nat) (fg : Nat → Nat → Nat) (np W : Nat) : Nat → (Nat → Int32) → Nat → Nat → Nat → Option (Nat × Nat)
  | 0, _, f, t, _ => some (t, f)
  | k + 1, p, f, t, r => if thC p (r / W ^ k % W / np) then none else evR tq lg ld fg np W k (lg p (r / W ^ k % W / np) (r / W ^ k % W % np)) (1000 * f + fg (r / W ^ k % W / np) (r / W ^ k % W % np)) (t + tq p (r / W ^ k % W % np) + ld (r / W ^ k % W / np)) r
def upO (a x : Option (Nat × Nat)) : Option (Nat × Nat) := match x with
  | none => a
  | some y => upA a y.1 y.2
theorem pow_digit {W k r w : Nat} (hr : r < W ^ k) : (w * W ^ k + r) / W ^ k = w ∧ ∀ j, j < k → (w * W ^ k + r) / W ^ j % W = r / W ^ j % W := by
  have hW : 0 < W ^ k := by omega
  refine ⟨by rw [Nat.mul_comm, Nat.mul_add_div hW, Nat.div_eq_of_lt hr, Nat.add_zero], ?_⟩
  intro j hj
  obtain ⟨d, hd⟩ : ∃ d, k = j + (1 + d) := ⟨k - j - 1, by omega⟩
  have hWj : 0 < W ^ j := by
    rcases Nat.eq_zero_or_pos (W ^ j) with z | z
    · rw [hd, Nat.pow_add, z] at hW; omega
    · exact z
  have e : w * W ^ k = W ^ j * (W * (w * W ^ d)) := by
    rw [hd, Nat.pow_add, Nat.pow_add, Nat.pow_one, Nat.mul_left_comm, Nat.mul_left_comm w W]
  rw [e, Nat.mul_add_div hWj, Nat.mul_add_mod]
theorem evR_low {tq : (Nat → Int32) → Nat → Nat} {lg : (Nat → Int32) → Nat → Nat → (Nat → Int32)} {ld : Nat → Nat} {fg : Nat → Nat → Nat} {np W : Nat} {r s : Nat} : ∀ k p f t, (∀ j, j < k → r / W ^ j % W = s / W ^ j % W) → evR tq lg ld fg np W k p f t r = evR tq lg ld fg np W k p f t s := by
  intro k
  induction k with
  | zero => intro p f t _; rfl
  | succ k ih =>
    intro p f t h
    simp only [evR]
    rw [h k (by omega)]
    split
    · rfl
    · exact ih _ _ _ (fun j hj => h j (by omega))
theorem fw_mul {α : Type} (g : Nat → α → α) (W : Nat) : ∀ x a, fw g (x * W) a = fw (fun w acc => fw (fun r acc => g (w * W + r) acc) W acc) x a := fun x a => fw_block g W x a
theorem rows_oF {tq : (Nat → Int32) → Nat → Nat} {lg : (Nat → Int32) → Nat → Nat → (Nat → Int32)} {ld : Nat → Nat} {fg : Nat → Nat → Nat} {np B : Nat} : ∀ n p f t a, fw (fun r acc => upO acc (evR tq lg ld fg np (B * np) n p f t r)) ((B * np) ^ n) a = oF tq lg ld thC fg np B n p f t a := by
  intro n
  induction n with
  | zero => intro p f t a; rfl
  | succ n ih =>
    intro p f t a
    rw [show (B * np) ^ (n + 1) = (B * np) * (B * np) ^ n from by rw [Nat.pow_succ, Nat.mul_comm], fw_mul]
    refine fw_cong (fun w hw acc => ?_) a
    have e : ∀ r, r < (B * np) ^ n → ∀ acc, upO acc (evR tq lg ld fg np (B * np) (n + 1) p f t (w * (B * np) ^ n + r)) = if thC p (w / np) then acc else upO acc (evR tq lg ld fg np (B * np) n (lg p (w / np) (w % np)) (1000 * f + fg (w / np) (w % np)) (t + tq p (w % np) + ld (w / np)) r) := by
      intro r hr acc
      obtain ⟨d1, d2⟩ := pow_digit (w := w) hr
      simp only [evR]
      rw [d1, Nat.mod_eq_of_lt hw]
      split
      · rfl
      · rw [evR_low n _ _ _ d2]
    rw [fw_cong e]
    by_cases q : thC p (w / np) = true
    · simp only [q, if_true]
      exact fw_id (fun _ _ => rfl)
    · have q := Bool.eq_false_iff.mpr q
      simp only [q, Bool.false_eq_true, if_false]
      exact ih _ _ _ _
