/-! ===== fractions; shares ===== -/
/-- what a fraction tells -/
def frI (A B : Nat) (upper : Int32) : Int32 := if upper = 0 then nI (B / Nat.gcd B A) else nI (A / Nat.gcd B A)
theorem gcd_half {d l : Nat} {k : Nat} (h : l < 2 ^ (k + 1)) (hr : d % l ≠ 0) (hl : l ≠ 0) : l % (d % l) < 2 ^ k := by
  have h1 : d % l < l := Nat.mod_lt _ (Nat.pos_of_ne_zero hl)
  have h2 : l % (d % l) < d % l := Nat.mod_lt _ (Nat.pos_of_ne_zero hr)
  have h3 : l % (d % l) + d % l ≤ l := by
    have := Nat.div_add_mod l (d % l)
    have h4 : 1 ≤ l / (d % l) := (Nat.one_le_div_iff (Nat.pos_of_ne_zero hr)).mpr (by omega)
    have h5 : d % l * 1 ≤ d % l * (l / (d % l)) := Nat.mul_le_mul_left _ h4
    omega
  have : 2 ^ (k + 1) = 2 * 2 ^ k := by rw [Nat.pow_succ, Nat.mul_comm]
  omega
theorem gcd_mod (d l : Nat) : Nat.gcd l (d % l) = Nat.gcd d l := by
  rw [Nat.gcd_comm l (d % l), ← Nat.gcd_rec, Nat.gcd_comm]
theorem x_fracLoop (A B : Nat) (up : Int32) (hA : A < 2147483648) (hB0 : 0 < B) (hB : B < 2147483648) : f_X4_fraction (nI A) (nI B) up = some (frI A B up) := by
  have hs : ∀ rc (d l t : Nat), l ≠ 0 → l < 2147483648 → d < 2147483648 → t < 100 → F_X4_fraction_8 up (nI B) (nI A) rc (nI d, nI l, nI t) = rc (nI l, nI (d % l), nI (t + 1)) := by
    intro rc d l t h0 h1 h2 h3
    have c1 : ¬ 100 ≤ nI t := nI_ge (b := 100) h3 (by omega)
    have c2 : ¬ nI l = 0 := nI_ne0 (Nat.pos_of_ne_zero h0) h1
    simp only [F_X4_fraction_8, zj, if_neg c1, if_neg c2, gdn c2, zl, zrem_nI h2 (Nat.pos_of_ne_zero h0) h1, nI_1]
  have hx : ∀ rc (d : Nat) t, d ≠ 0 → d < 2147483648 → d = Nat.gcd B A → F_X4_fraction_8 up (nI B) (nI A) rc (nI d, 0, t) = some (frI A B up) := by
    intro rc d t h0 h1 h2
    have c2 : ¬ nI d = 0 := nI_ne0 (Nat.pos_of_ne_zero h0) h1
    simp only [F_X4_fraction_8, zj, if_true, if_neg c2, gdn c2, frI, ← h2]
    by_cases q : up = 0
    · rw [if_pos q, if_pos q, pk_div hB (Nat.pos_of_ne_zero h0) h1]
      split <;> rfl
    · rw [if_neg q, if_neg q, pk_div hA (Nat.pos_of_ne_zero h0) h1]
      split <;> rfl
  have main : ∀ k l d t fuel, l < 2 ^ k → k ≤ 31 → t + 2 * k ≤ 100 → 2 * k < fuel → d ≠ 0 → d < 2147483648 → l < 2147483648 → Nat.gcd d l = Nat.gcd B A → zfix (F_X4_fraction_8 up (nI B) (nI A)) fuel (nI d, nI l, nI t) = some (frI A B up) := by
    intro k
    induction k with
    | zero =>
      intro l d t fuel h1 _ h2 h3 h4 h5 h6 h7
      obtain ⟨f, rfl⟩ : ∃ f, fuel = f + 1 := ⟨fuel - 1, by omega⟩
      have : l = 0 := by omega
      subst this
      rw [Nat.gcd_zero_right] at h7
      rw [zfix_s, show nI 0 = 0 from rfl, hx _ _ _ h4 h5 h7]
    | succ k ih =>
      intro l d t fuel h1 hk h2 h3 h4 h5 h6 h7
      obtain ⟨f, rfl⟩ : ∃ f, fuel = f + 1 := ⟨fuel - 1, by omega⟩
      by_cases q : l = 0
      · subst q
        rw [Nat.gcd_zero_right] at h7
        rw [zfix_s, show nI 0 = 0 from rfl, hx _ _ _ h4 h5 h7]
      · have hm : d % l < l := Nat.mod_lt _ (Nat.pos_of_ne_zero q)
        rw [zfix_s, hs _ _ _ _ q h6 h5 (by omega)]
        obtain ⟨f', rfl⟩ : ∃ f', f = f' + 1 := ⟨f - 1, by omega⟩
        by_cases q2 : d % l = 0
        · rw [q2, zfix_s, show nI 0 = 0 from rfl, hx _ _ _ q h6]
          rw [← h7, ← gcd_mod, q2, Nat.gcd_zero_right]
        · rw [zfix_s, hs _ _ _ _ q2 (by omega) h6 (by omega)]
          have hm2 : l % (d % l) < d % l := Nat.mod_lt _ (Nat.pos_of_ne_zero q2)
          exact ih _ _ _ _ (gcd_half h1 q2 q) (by omega) (by omega) (by omega) q2 (by omega) (by omega) (by rw [gcd_mod, gcd_mod, h7])
  unfold f_X4_fraction
  exact main 31 A B 0 zN hA (by decide) (by decide) (by unfold zN; decide) (by omega) hB hA rfl
theorem m_divisor (A B : Nat) (hA : A < 2147483648) (hB0 : 0 < B) (hB : B < 2147483648) : f_X5_divisor (nI A) (nI B) = some (nI (Nat.gcd B A)) := by
  have hs : ∀ rc (d l : Nat), l ≠ 0 → l < 2147483648 → d < 2147483648 → F_X5_divisor_13 rc (nI d, nI l) = rc (nI l, nI (d % l)) := by
    intro rc d l h0 h1 h2
    have c2 : ¬ nI l = 0 := nI_ne0 (Nat.pos_of_ne_zero h0) h1
    simp only [F_X5_divisor_13, if_neg c2, gdn c2, zl, zrem_nI h2 (Nat.pos_of_ne_zero h0) h1]
  have hx : ∀ rc (d : Nat), F_X5_divisor_13 rc (nI d, 0) = some (nI d) := by
    intro rc d
    simp only [F_X5_divisor_13, if_true]
  have main : ∀ k l d fuel, l < 2 ^ k → 2 * k < fuel → d < 2147483648 → l < 2147483648 → zfix F_X5_divisor_13 fuel (nI d, nI l) = some (nI (Nat.gcd d l)) := by
    intro k
    induction k with
    | zero =>
      intro l d fuel h1 h3 h5 h6
      obtain ⟨f, rfl⟩ : ∃ f, fuel = f + 1 := ⟨fuel - 1, by omega⟩
      have : l = 0 := by omega
      subst this
      rw [zfix_s, show nI 0 = 0 from rfl, hx, Nat.gcd_zero_right]
    | succ k ih =>
      intro l d fuel h1 h3 h5 h6
      obtain ⟨f, rfl⟩ : ∃ f, fuel = f + 1 := ⟨fuel - 1, by omega⟩
      by_cases q : l = 0
      · subst q
        rw [zfix_s, show nI 0 = 0 from rfl, hx, Nat.gcd_zero_right]
      · have hm : d % l < l := Nat.mod_lt _ (Nat.pos_of_ne_zero q)
        rw [zfix_s, hs _ _ _ q h6 h5]
        obtain ⟨f', rfl⟩ : ∃ f', f = f' + 1 := ⟨f - 1, by omega⟩
        by_cases q2 : d % l = 0
        · rw [← gcd_mod, q2, zfix_s, show nI 0 = 0 from rfl, hx, Nat.gcd_zero_right]
        · have hm2 : l % (d % l) < d % l := Nat.mod_lt _ (Nat.pos_of_ne_zero q2)
          rw [zfix_s, hs _ _ _ q2 (by omega) h6, ih _ _ _ (gcd_half h1 q2 q) (by omega) (by omega) (by omega), gcd_mod, gcd_mod]
  unfold f_X5_divisor
  rw [zj, if_pos (nI_pos' hA)]
  exact (main 31 B A zN hB (by unfold zN; decide) hA hB).trans (by rw [Nat.gcd_comm])
theorem m_frac (A B : Nat) (up : Int32) (hA : A < 2147483648) (hB0 : 0 < B) (hB : B < 2147483648) : f_X5_fraction (nI A) (nI B) up = some (frI A B up) := by
  have hg : 0 < Nat.gcd B A := Nat.gcd_pos_of_pos_left _ hB0
  have hg2 : Nat.gcd B A < 2147483648 := Nat.lt_of_le_of_lt (Nat.gcd_le_left _ hB0) hB
  have c2 : ¬ nI (Nat.gcd B A) = 0 := nI_ne0 hg hg2
  unfold f_X5_fraction
  simp only [m_divisor A B hA hB0 hB, Option.bind_some, zj, gdn c2, frI, pk_div hB hg hg2, pk_div hA hg hg2]
  split <;> rfl
/-! shares -/
def wB (tm : Int32 → Int32 → Int32) (ld n w : Int32) : Int32 := if (fO (mB tm ld w) n.toNatClampNeg 0 (-9, -9)).1 = -9 then 0 else 200 - (fO (mB tm ld w) n.toNatClampNeg 0 (-9, -9)).2
theorem i_lt_trans_le {a b c : Int32} (h : a < b) (h2 : b ≤ c) : a < c := Int32.lt_of_lt_of_le h h2
theorem mB_b (tm : Int32 → Int32 → Int32) (ld n w : Int32) (hn : 0 ≤ n ∧ n ≤ 4) (hl : 0 ≤ ld ∧ ld ≤ 9) (ht : ∀ i j, 0 ≤ i → i < j → j < n → 0 ≤ tm i j ∧ tm i j ≤ 54) : ∃ k, k ≤ 200 ∧ wB tm ld n w = nI k := by
  have h := best_rel tm ld w w n hn hl ht (fun _ _ _ => rfl)
  unfold wB
  generalize fO (mB tm ld w) n.toNatClampNeg 0 (-9, -9) = A at *
  rcases h with ⟨-, h1, -⟩ | ⟨t, q1, q2, q3, q4, q5, q6, q7⟩
  · exact ⟨0, by decide, by rw [if_pos h1]; rfl⟩
  · rw [if_neg (fun z => absurd q3 (by rw [z]; decide)), q7]
    obtain ⟨T, hT, rfl⟩ := exN (x := t) (n := 54) 54 rfl (by decide) q1 q2
    obtain ⟨L, hL, rfl⟩ := exN (x := ld) (n := 9) 9 rfl (by decide) hl.1 hl.2
    refine ⟨200 - (T + L), by omega, ?_⟩
    rw [nI_add, show (200 : Int32) = nI 200 from rfl, pk_sub (by omega)]
def mR (p : Int32) (a b : Int32 × Int32) : Prop := (a.1 = -9) ∨ (¬ b.1 = -9 ∧ b.2 ≤ a.2)
theorem ten_ne {i j : Int32} (i0 : 0 ≤ i) (ij : i < j) (j1 : j ≤ 3) : ¬ 10 * i + j = -9 := fun h => absurd (bl2 (u := 0) i0 ij j1).1 (by rw [h]; decide)
theorem mB_mono (tm : Int32 → Int32 → Int32) (ld n w v : Int32) (hn : 0 ≤ n ∧ n ≤ 4) (hl : 0 ≤ ld ∧ ld ≤ 9) (ht : ∀ i j, 0 ≤ i → i < j → j < n → 0 ≤ tm i j ∧ tm i j ≤ 54) (hw : ∀ i, i < 4 → bt w i = true → bt v i = true) : mR 60 (fO (mB tm ld w) n.toNatClampNeg 0 (-9, -9)) (fO (mB tm ld v) n.toNatClampNeg 0 (-9, -9)) := by
  have hN : n.toNatClampNeg < 5 := toN_lt (n := 5) 5 rfl (by decide) (Int32.lt_of_le_of_lt hn.2 (by decide)) (by decide)
  refine fO_rel (R := mR) (n := n) hn.2 ?_ (fun p q a b h _ _ _ => h) n.toNatClampNeg 0 (-9, -9) (-9, -9) (by rw [ofN_toN hn.1]; simp) (by omega) (by decide) hn.1 (Or.inl rfl)
  intro i j a b h0 h1 h2 h
  have j4 : j < 4 := Int32.lt_of_lt_of_le h2 hn.2
  have j3 : j ≤ 3 := by
    have : j < 4 := j4
    clear hw ht h
    grind
  have ne := ten_ne h0 h1 j3
  have hi := tN_c h0 (Int32.lt_trans h1 j4)
  have hj := tN_c (Int32.le_trans h0 (Int32.le_of_lt h1)) j4
  unfold mB
  have step : ∀ c : Int32 × Int32, (if c.1 = -9 then (10 * i + j, tm i j + ld) else if c.2 ≤ tm i j + ld then c else (10 * i + j, tm i j + ld)).1 ≠ -9 ∧ (if c.1 = -9 then (10 * i + j, tm i j + ld) else if c.2 ≤ tm i j + ld then c else (10 * i + j, tm i j + ld)).2 ≤ tm i j + ld ∧ (c.1 ≠ -9 → (if c.1 = -9 then (10 * i + j, tm i j + ld) else if c.2 ≤ tm i j + ld then c else (10 * i + j, tm i j + ld)).2 ≤ c.2) := by
    intro c
    by_cases q : c.1 = -9
    · rw [if_pos q]; exact ⟨ne, Int32.le_refl _, fun z => absurd q z⟩
    · rw [if_neg q]
      by_cases q2 : c.2 ≤ tm i j + ld
      · rw [if_pos q2]; exact ⟨q, q2, fun _ => Int32.le_refl _⟩
      · rw [if_neg q2]; exact ⟨ne, Int32.le_refl _, fun _ => Int32.le_of_lt (Int32.not_le.mp q2)⟩
  by_cases bw : both w i j = true
  · have bv : both v i j = true := by
      unfold both at bw ⊢
      rw [Bool.and_eq_true] at bw ⊢
      exact ⟨hw _ hi bw.1, hw _ hj bw.2⟩
    rw [if_pos bw, if_pos bv]
    right
    obtain ⟨s1, s2, s3⟩ := step b
    refine ⟨s1, ?_⟩
    rcases h with h | ⟨g1, g2⟩
    · rw [if_pos h]; exact s2
    · by_cases q : a.1 = -9
      · rw [if_pos q]; exact s2
      · rw [if_neg q]
        by_cases q2 : a.2 ≤ tm i j + ld
        · rw [if_pos q2]; exact Int32.le_trans (s3 g1) g2
        · rw [if_neg q2]; exact s2
  · rw [if_neg bw]
    by_cases bv : both v i j = true
    · rw [if_pos bv]
      rcases h with h | ⟨g1, g2⟩
      · exact Or.inl h
      · exact Or.inr ⟨(step b).1, Int32.le_trans ((step b).2.2 g1) g2⟩
    · rw [if_neg bv]
      exact h
theorem wM_mono (tm : Int32 → Int32 → Int32) (ld n w v : Int32) (hn : 0 ≤ n ∧ n ≤ 4) (hl : 0 ≤ ld ∧ ld ≤ 9) (ht : ∀ i j, 0 ≤ i → i < j → j < n → 0 ≤ tm i j ∧ tm i j ≤ 54) (hw : ∀ i, i < 4 → bt w i = true → bt v i = true) : (wB tm ld n w).toNatClampNeg ≤ (wB tm ld n v).toNatClampNeg := by
  have h := mB_mono tm ld n w v hn hl ht hw
  have h1 := best_rel tm ld w w n hn hl ht (fun _ _ _ => rfl)
  have h2 := best_rel tm ld v v n hn hl ht (fun _ _ _ => rfl)
  unfold wB
  generalize fO (mB tm ld w) n.toNatClampNeg 0 (-9, -9) = A at *
  generalize fO (mB tm ld v) n.toNatClampNeg 0 (-9, -9) = B at *
  rcases h with h | ⟨g1, g2⟩
  · rw [if_pos h]; exact Nat.zero_le _
  · by_cases q : A.1 = -9
    · rw [if_pos q]; exact Nat.zero_le _
    · rw [if_neg q, if_neg g1]
      rcases h1 with ⟨-, z, -⟩ | ⟨t, q1, q2, q3, q4, q5, q6, q7⟩
      · exact absurd z q
      rcases h2 with ⟨-, z, -⟩ | ⟨u, p1, p2, p3, p4, p5, p6, p7⟩
      · exact absurd z g1
      rw [q7, p7] at g2
      rw [q7, p7]
      obtain ⟨T, hT, rfl⟩ := exN (x := t) (n := 54) 54 rfl (by decide) q1 q2
      obtain ⟨U, hU, rfl⟩ := exN (x := u) (n := 54) 54 rfl (by decide) p1 p2
      obtain ⟨L, hL, rfl⟩ := exN (x := ld) (n := 9) 9 rfl (by decide) hl.1 hl.2
      rw [nI_add, nI_add] at g2 ⊢
      have := (nI_leI (by omega) (by omega)).mp g2
      rw [show (200 : Int32) = nI 200 from rfl, pk_sub (by omega), pk_sub (by omega), nI_clamp (by omega), nI_clamp (by omega)]
      omega
def pcn (c : Nat) : Nat := c % 2 + c / 2 % 2 + c / 4 % 2 + c / 8 % 2
def fc (k : Nat) : Nat := if k = 4 then 24 else if k = 3 then 6 else if k = 2 then 2 else 1
theorem cnt1 : ∀ c : Nat, c < 16 → f_J6_bitCount_0f7a4 (Int32.ofNat c) = some (Int32.ofNat (pcn c)) ∧ f_X5_many (Int32.ofNat c) = some (Int32.ofNat (pcn c)) := by decide +kernel
theorem cnt2 : ∀ k : Nat, k < 5 → f_X4_factorial (Int32.ofNat k) = some (Int32.ofNat (fc k)) ∧ f_X5_ways (Int32.ofNat k) = some (Int32.ofNat (fc k)) := by decide +kernel
theorem cnt3' : ∀ n : Nat, n < 5 → ∀ c : Nat, c < 16 → c < 2 ^ n → ∀ g : Nat, g < 4 → g < n → (c.testBit g || (decide (pcn c < n) && decide (fc (pcn c) * fc (n - 1 - pcn c) ≤ 6))) = true := by decide +kernel
theorem cnt3 (n : Nat) (hn : n < 5) (c : Nat) (h1 : c < 16) (h2 : c < 2 ^ n) (g : Nat) (h3 : g < 4) (h4 : g < n) (h : c.testBit g = false) : pcn c < n ∧ fc (pcn c) * fc (n - 1 - pcn c) ≤ 6 := by
  have := cnt3' n hn c h1 h2 g h3 h4
  rw [h] at this
  simpa using this
theorem cnts (n : Nat) (hn : n < 5) (c : Nat) (hc : c < 2 ^ n) (g : Nat) (hg : g < n) (h : c.testBit g = false) :
    f_J6_bitCount_0f7a4 (Int32.ofNat c) = some (Int32.ofNat (pcn c)) ∧ f_X5_many (Int32.ofNat c) = some (Int32.ofNat (pcn c)) ∧ f_X4_factorial (Int32.ofNat (pcn c)) = some (Int32.ofNat (fc (pcn c))) ∧ f_X5_ways (Int32.ofNat (pcn c)) = some (Int32.ofNat (fc (pcn c))) ∧
    f_X4_factorial (Int32.ofNat n - 1 - Int32.ofNat (pcn c)) = some (Int32.ofNat (fc (n - 1 - pcn c))) ∧ f_X5_ways (Int32.ofNat n - 1 - Int32.ofNat (pcn c)) = some (Int32.ofNat (fc (n - 1 - pcn c))) ∧ fc (pcn c) * fc (n - 1 - pcn c) ≤ 6 := by
  have h16 : 2 ^ n ≤ 16 := by
    rcases (by omega : n = 0 ∨ n = 1 ∨ n = 2 ∨ n = 3 ∨ n = 4) with rfl | rfl | rfl | rfl | rfl <;> decide
  obtain ⟨p1, p2⟩ := cnt3 n hn c (by omega) hc g (by omega) hg h
  obtain ⟨q1, q2⟩ := cnt1 c (by omega)
  obtain ⟨r1, r2⟩ := cnt2 (pcn c) (by omega)
  obtain ⟨s1, s2⟩ := cnt2 (n - 1 - pcn c) (by omega)
  have e : Int32.ofNat n - 1 - Int32.ofNat (pcn c) = Int32.ofNat (n - 1 - pcn c) := by
    show nI n - nI 1 - nI (pcn c) = nI (n - 1 - pcn c)
    rw [pk_sub (by omega), pk_sub (by omega)]
  rw [e]
  exact ⟨q1, q2, r1, r2, s1, s2, p2⟩
theorem facs : ∀ n : Nat, n < 5 → f_X4_factorial (Int32.ofNat n) = some (Int32.ofNat (fc n)) ∧ f_X5_ways (Int32.ofNat n) = some (Int32.ofNat (fc n)) ∧ 0 < fc n ∧ fc n < 25 ∧ zshl 1 (Int32.ofNat n) = Int32.ofNat (2 ^ n) ∧ zshl 1 (Int32.ofNat n) - 1 = Int32.ofNat (2 ^ n - 1) ∧ 2 ^ n ≤ 16 := by decide +kernel
theorem orb1 : ∀ c : Nat, c < 16 → ∀ g : Nat, g < 4 → Int32.ofNat c ||| zshl 1 (Int32.ofNat g) = Int32.ofNat (c ||| 2 ^ g) ∧ bt (Int32.ofNat c) g = c.testBit g := by decide +kernel
theorem orb2 : ∀ n : Nat, n < 5 → ∀ c : Nat, c < 16 → c < 2 ^ n → ∀ g : Nat, g < 4 → g < n → c ||| 2 ^ g < 2 ^ n := by decide +kernel
theorem orb3 : ∀ c : Nat, c < 16 → ∀ g : Nat, g < 4 → ∀ i : Nat, i < 4 → bt (Int32.ofNat c) i = true → bt (Int32.ofNat (c ||| 2 ^ g)) i = true := by decide +kernel
theorem orbit (n : Nat) (hn : n < 5) (c : Nat) (hc : c < 2 ^ n) (g : Nat) (hg : g < n) : Int32.ofNat c ||| zshl 1 (Int32.ofNat g) = Int32.ofNat (c ||| 2 ^ g) ∧ c ||| 2 ^ g < 2 ^ n ∧ bt (Int32.ofNat c) g = c.testBit g ∧ ∀ i : Nat, i < 4 → bt (Int32.ofNat c) i = true → bt (Int32.ofNat (c ||| 2 ^ g)) i = true := by
  have h16 : 2 ^ n ≤ 16 := by
    rcases (by omega : n = 0 ∨ n = 1 ∨ n = 2 ∨ n = 3 ∨ n = 4) with rfl | rfl | rfl | rfl | rfl <;> decide
  obtain ⟨q1, q2⟩ := orb1 c (by omega) g (by omega)
  exact ⟨q1, orb2 n hn c (by omega) hc g (by omega) hg, q2, orb3 c (by omega) g (by omega)⟩
/-- the sum of what a legger is worth more, over c rows of those that have come -/
def shF (wv : Nat → Nat) (n g : Nat) : Nat → Nat
  | 0 => 0
  | c + 1 => shF wv n g c + if c.testBit g then 0 else (wv (c ||| 2 ^ g) - wv c) * (fc (pcn c) * fc (n - 1 - pcn c))
theorem shF_b (wv : Nat → Nat) (n g : Nat) (hn : n < 5) (hg : g < n) (hw : ∀ c, c < 2 ^ n → wv c ≤ 200) : ∀ c, c ≤ 2 ^ n → shF wv n g c ≤ 1200 * c := by
  intro c
  induction c with
  | zero => intro _; exact Nat.le_refl 0
  | succ c ih =>
    intro hc
    have := ih (by omega)
    unfold shF
    by_cases q : c.testBit g = true
    · rw [if_pos q]; omega
    · rw [if_neg q]
      have k := (cnts n hn c (by omega) g hg (Bool.eq_false_iff.mpr q)).2.2.2.2.2.2
      have o := (orbit n hn c (by omega) g hg).2.1
      have w := hw _ o
      have : (wv (c ||| 2 ^ g) - wv c) * (fc (pcn c) * fc (n - 1 - pcn c)) ≤ 200 * 6 := Nat.mul_le_mul (by omega) k
      omega
theorem x_worth {S M : zS} (h : Rel S M) (b : Int32) (hb : 0 ≤ b ∧ b < M.1 7) (w : Int32) : f_X4_worth b w S = some (wB (fun i j => mT M 14 i j 0 0) (M.2.2 8 b.toNatClampNeg) (M.1 5) w) := by
  have tn := h.2.1
  have pg := h.2.2.1
  obtain ⟨t1, t2, t3, t4, t5, t6, t7, t8, t9, t10, t11⟩ := h.2.1
  obtain ⟨l1, l2⟩ := t11 b hb.1 hb.2
  have e1 := x_leastPair w S (fun i j => mT M 14 i j 0 0) (by rw [t4]; exact ⟨t5, t6⟩) (fun i j h0 h1 h2 => (mT_eq tn (S.1 16) 14 pg.1 ⟨h0, Int32.lt_trans h1 (by rw [← t4]; exact h2)⟩ ⟨Int32.le_trans h0 (Int32.le_of_lt h1), by rw [← t4]; exact h2⟩ (by decide) (by decide)).1)
  have e3 := best_rel (fun i j => mT M 14 i j 0 0) (M.2.2 8 b.toNatClampNeg) w w (M.1 5) ⟨t5, t6⟩ l2 (fun i j h0 h1 h2 => (mT_eq tn (S.1 16) 14 pg.1 (g := i) (k := j) (p := 0) (q := 0) ⟨h0, Int32.lt_trans h1 h2⟩ ⟨Int32.le_trans h0 (Int32.le_of_lt h1), h2⟩ (by decide) (by decide)).2.2) (fun _ _ _ => rfl)
  rw [t4] at e1
  unfold f_X4_worth wB
  simp only [e1, Option.bind_some, zj, x_loadOf, l1]
  generalize fO (mB (fun i j => mT M 14 i j 0 0) (M.2.2 8 b.toNatClampNeg) w) (M.1 5).toNatClampNeg 0 (-9, -9) = A at *
  generalize fO (cB (fun i j => mT M 14 i j 0 0) w) (M.1 5).toNatClampNeg 0 (-9) = L at *
  rcases e3 with ⟨q1, q2, q3⟩ | ⟨t, q1, q2, q3, q4, q5, q6, q7⟩
  · rw [if_pos q1, if_pos q2]
  · have n1 : ¬ A.1 = -9 := fun z => absurd q3 (by rw [z]; decide)
    have n2 : ¬ L = -9 := by
      intro z
      have := (dm100' q1 q2 q3 q4).1
      rw [← q6, z] at this
      exact absurd q3 (by rw [← this]; decide)
    rw [if_neg n2, if_neg n1, q6, (dm100' q1 q2 q3 q4).2, q7]
    generalize M.2.2 8 b.toNatClampNeg = ld
    congr 1
    grind
theorem i_pos {n i : Int32} (h0 : 0 ≤ i) (h : i < n) : 0 ≤ n := Int32.le_trans h0 (Int32.le_of_lt h)
theorem tN_ltt {g n : Int32} (h0 : 0 ≤ g) (h1 : g < n) : g.toNatClampNeg < n.toNatClampNeg := by
  have h1' := Int32.lt_iff_toInt_lt.mp h1
  have h0' := Int32.le_iff_toInt_le.mp h0
  have e1 : g.toNatClampNeg = g.toInt.toNat := rfl
  have e2 : n.toNatClampNeg = n.toInt.toNat := rfl
  have e3 : (0 : Int32).toInt = 0 := rfl
  omega
/-- what both need to know of shares -/
theorem sh_facts {S M : zS} (h : Rel S M) (g b : Int32) (hg : 0 ≤ g ∧ g < M.1 5) (hb : 0 ≤ b ∧ b < M.1 7) :
    ∃ wv : Nat → Nat, (∀ w : Int32, wB (fun i j => mT M 14 i j 0 0) (M.2.2 8 b.toNatClampNeg) (M.1 5) w = nI (wB (fun i j => mT M 14 i j 0 0) (M.2.2 8 b.toNatClampNeg) (M.1 5) w).toNatClampNeg) ∧ (wv = fun c => (wB (fun i j => mT M 14 i j 0 0) (M.2.2 8 b.toNatClampNeg) (M.1 5) (nI c)).toNatClampNeg) ∧ (∀ c, wv c ≤ 200) ∧
    (∀ c, c < 2 ^ (M.1 5).toNatClampNeg → wv c ≤ wv (c ||| 2 ^ g.toNatClampNeg)) := by
  have tn := h.2.1
  have pg := h.2.2.1
  obtain ⟨t1, t2, t3, t4, t5, t6, t7, t8, t9, t10, t11⟩ := h.2.1
  obtain ⟨l1, l2⟩ := t11 b hb.1 hb.2
  have ht : ∀ i j, 0 ≤ i → i < j → j < M.1 5 → 0 ≤ mT M 14 i j 0 0 ∧ mT M 14 i j 0 0 ≤ 54 := fun i j h0 h1 h2 => (mT_eq tn (S.1 16) 14 pg.1 (g := i) (k := j) (p := 0) (q := 0) ⟨h0, Int32.lt_trans h1 h2⟩ ⟨Int32.le_trans h0 (Int32.le_of_lt h1), h2⟩ (by decide) (by decide)).2.2
  have hN : (M.1 5).toNatClampNeg < 5 := toN_lt (n := 5) 5 rfl (by decide) (Int32.lt_of_le_of_lt t6 (by decide)) (by decide)
  refine ⟨_, ?_, rfl, ?_, ?_⟩
  · intro w
    obtain ⟨k, hk, e⟩ := mB_b (fun i j => mT M 14 i j 0 0) (M.2.2 8 b.toNatClampNeg) (M.1 5) w ⟨t5, t6⟩ l2 ht
    rw [e, nI_clamp (by omega)]
  · intro c
    obtain ⟨k, hk, e⟩ := mB_b (fun i j => mT M 14 i j 0 0) (M.2.2 8 b.toNatClampNeg) (M.1 5) (nI c) ⟨t5, t6⟩ l2 ht
    show (wB (fun i j => mT M 14 i j 0 0) (M.2.2 8 b.toNatClampNeg) (M.1 5) (nI c)).toNatClampNeg ≤ 200
    rw [e, nI_clamp (by omega)]; exact hk
  · intro c hc
    exact wM_mono (fun i j => mT M 14 i j 0 0) (M.2.2 8 b.toNatClampNeg) (M.1 5) (nI c) (nI (c ||| 2 ^ g.toNatClampNeg)) ⟨t5, t6⟩ l2 ht (orbit _ hN c hc _ (tN_ltt hg.1 hg.2)).2.2.2
theorem x_shareLoop {S M : zS} (h : Rel S M) (g b u : Int32) (hg : 0 ≤ g ∧ g < M.1 5) (hb : 0 ≤ b ∧ b < M.1 7) :
    zfix (F_X4_share_30 S u g b) zN (0, 0) = some (frI (shF (fun c => (wB (fun i j => mT M 14 i j 0 0) (M.2.2 8 b.toNatClampNeg) (M.1 5) (nI c)).toNatClampNeg) (M.1 5).toNatClampNeg g.toNatClampNeg (2 ^ (M.1 5).toNatClampNeg)) (fc (M.1 5).toNatClampNeg) u) := by
  obtain ⟨wv, w1, w2, w3, w4⟩ := sh_facts h g b hg hb
  rw [← w2]
  have t4 := h.2.1.2.2.2.1
  have t5 := h.2.1.2.2.2.2.1
  have t6 := h.2.1.2.2.2.2.2.1
  have hN : (M.1 5).toNatClampNeg < 5 := toN_lt (n := 5) 5 rfl (by decide) (Int32.lt_of_le_of_lt t6 (by decide)) (by decide)
  have hG := tN_ltt hg.1 hg.2
  have hg4 : 0 ≤ g ∧ g < 4 := ⟨hg.1, Int32.lt_of_lt_of_le hg.2 t6⟩
  have eN := ofN_toN t5
  have eG := ofN_toN hg.1
  generalize hNN : (M.1 5).toNatClampNeg = N at *
  generalize hGG : g.toNatClampNeg = G at *
  obtain ⟨f1, f2, f3, f4, f5, f6, f7⟩ := facs N hN
  have hp0 : 0 < 2 ^ N := Nat.pow_pos (by decide)
  obtain ⟨e', fu, ⟨-, he1⟩, he⟩ := zfix_run (F := F_X4_share_30 S u g b) (fun n e => n ≤ 2 ^ N ∧ e = (nI (shF wv N G (2 ^ N - n)), nI (2 ^ N - n))) (by
    rintro n e ⟨h1, rfl⟩
    obtain ⟨c, hc⟩ : ∃ c, c = 2 ^ N - (n + 1) := ⟨_, rfl⟩
    refine ⟨_, ?_, by omega, rfl⟩
    intro rc
    rw [← hc, show 2 ^ N - n = c + 1 by omega]
    have hc2 : c < 2 ^ N := by omega
    obtain ⟨o1, o2, o3, o4⟩ := orbit N hN c hc2 G hG
    rw [eG] at o1
    have o3 : bt (nI c) G = c.testBit G := o3
    have o1 : nI c ||| zshl 1 g = nI (c ||| 2 ^ G) := o1
    have hle : ¬ Int32.ofNat (2 ^ N - 1) < nI c := nI_nlt (by omega) (by omega)
    simp only [F_X4_share_30, f_X1_allLeggers, Option.bind_some, t4, ← eN, f6, if_neg hle, x_isIn' _ _ hg4, zj, zl, hGG, o3, shF, nI_succ]
    by_cases q : c.testBit G = true
    · simp only [q, if_true, show ¬ (1 : Int32) = 0 by decide, if_false, Nat.add_zero]
    · have q := Bool.eq_false_iff.mpr q
      obtain ⟨k1, k2, k3, k4, k5, k6, k7⟩ := cnts N hN c hc2 G hG q
      have k1 : f_J6_bitCount_0f7a4 (nI c) = some (Int32.ofNat (pcn c)) := k1
      have hm := w4 c hc2
      have v1 : f_X4_worth b (nI (c ||| 2 ^ G)) S = some (nI (wv (c ||| 2 ^ G))) := by rw [x_worth h b hb, w1, w2]
      have v2 : f_X4_worth b (nI c) S = some (nI (wv c)) := by rw [x_worth h b hb, w1, w2]
      simp only [q, Bool.false_eq_true, if_false, if_true, o1, v1, v2, Option.bind_some, k1, f_X4_ordersBehind, k3, t4, ← eN, k5]
      rw [pk_sub hm]
      show rc (nI (shF wv N G c) + nI (wv (c ||| 2 ^ G) - wv c) * (nI (fc (pcn c)) * nI (fc (N - 1 - pcn c))), nI c + 1) = _
      rw [pk_mul, pk_mul, nI_add]) (2 ^ N) (0, 0) zN ⟨Nat.le_refl _, by rw [Nat.sub_self]; rfl⟩ (by unfold zN; omega)
  rw [he, he1, Nat.sub_zero]
  have hx : Int32.ofNat (2 ^ N - 1) < nI (2 ^ N) := nI_lt (by omega) (by omega)
  have hb2 := shF_b wv N G hN hG (fun c _ => w3 c) (2 ^ N) (Nat.le_refl _)
  simp only [F_X4_share_30, f_X1_allLeggers, Option.bind_some, t4, ← eN, f6, if_pos hx, f1]
  have := x_fracLoop (shF wv N G (2 ^ N)) (fc N) u (by omega) f3 (by omega)
  have this : f_X4_fraction (nI (shF wv N G (2 ^ N))) (Int32.ofNat (fc N)) u = _ := this
  rw [this]; rfl
