/-! ===== lives ===== -/
/-- all that is seen of a step is so: of n seen -/
def skB (M : zS) (i m : Int32) : Nat → Bool
  | 0 => true
  | n + 1 => skB M i m n && (decide (¬ M.2.2 22 n = i) || decide (M.2.2 23 n = m))
theorem skB_iff (M : zS) (i m : Int32) : ∀ n, skB M i m n = true ↔ ∀ k, k < n → M.2.2 22 k = i → M.2.2 23 k = m := by
  intro n
  induction n with
  | zero => simp [skB]
  | succ n ih =>
    simp only [skB, Bool.and_eq_true, ih, Bool.or_eq_true, decide_eq_true_eq]
    constructor
    · rintro ⟨h1, h2⟩ k hk hs
      by_cases q : k = n
      · subst q
        rcases h2 with h2 | h2
        · exact absurd hs h2
        · exact h2
      · exact h1 k (by omega) hs
    · intro h
      refine ⟨fun k hk hs => h k (by omega) hs, ?_⟩
      by_cases q : M.2.2 22 n = i
      · exact Or.inr (h n (by omega) q)
      · exact Or.inl q
theorem bits4 (x m : Nat) : ∀ m : Nat, m < 4 → ∀ y : Nat, y < 16 → ((Int32.ofNat y &&& ((zshl 1 (Int32.ofNat m)) ^^^ (-1)) = 0) ↔ ∀ j, j < 4 → j ≠ m → y.testBit j = false) := by decide +kernel
theorem and15 (x : Int32) : ∃ y : Nat, y < 16 ∧ x &&& 15 = Int32.ofNat y ∧ ∀ j, j < 4 → y.testBit j = bt x j := by
  refine ⟨wN x % 16, Nat.mod_lt _ (by decide), ?_, ?_⟩
  · apply bt_ext
    intro i hi
    rw [bt_and, bt_15]
    show _ = (BitVec.ofNat 32 (wN x % 16)).getLsbD i
    rw [BitVec.getLsbD_ofNat, bt_wN]
    have : (wN x % 16).testBit i = (decide (i < 4) && (wN x).testBit i) := Nat.testBit_mod_two_pow (wN x) 4 i
    rw [this]
    simp [hi, Bool.and_comm]
  · intro j hj
    have : (wN x % 16).testBit j = (decide (j < 4) && (wN x).testBit j) := Nat.testBit_mod_two_pow (wN x) 4 j
    rw [this, bt_wN]
    simp [hj]
theorem seen_step {S M : zS} (h : rSe S M) (i m : Int32) (hi : 0 ≤ i ∧ i < 6) (hm : 1 ≤ m ∧ m ≤ 3) : ((zushr (S.1 7) (4 * i) &&& 15) &&& ((zshl 1 m) ^^^ (-1)) = 0) ↔ skB M i m (M.1 21).toNatClampNeg = true := by
  obtain ⟨s1, s2, s3, s4, s5⟩ := h
  have hi6 := toN_lt (i := i) (n := 6) 6 rfl (by decide) hi.2 (by decide)
  have hm4 := toN_lt (i := m) (n := 4) 4 rfl (by decide) (Int32.lt_of_le_of_lt hm.2 (by decide)) (by decide)
  have hm0 : 0 ≤ m := Int32.le_trans (by decide) hm.1
  have e4 : 0 ≤ 4 * i ∧ 4 * i < 32 ∧ (4 * i).toNatClampNeg = 4 * i.toNatClampNeg := by
    rcases (by grind : i = 0 ∨ i = 1 ∨ i = 2 ∨ i = 3 ∨ i = 4 ∨ i = 5) with rfl | rfl | rfl | rfl | rfl | rfl <;> decide
  obtain ⟨y, y1, y2, y3⟩ := and15 (zushr (S.1 7) (4 * i))
  have b := bits4 0 0 m.toNatClampNeg hm4 y y1
  rw [ofN_toN hm0] at b
  rw [y2, b, skB_iff]
  constructor
  · intro q k hk hs
    have hk4 := (s4 k hk).2
    have hk0 : 0 ≤ M.2.2 23 k := Int32.le_trans (by decide) hk4.1
    have hkn := toN_lt (i := M.2.2 23 k) (n := 4) 4 rfl (by decide) (Int32.lt_of_le_of_lt hk4.2 (by decide)) (by decide)
    have w := (s5 i.toNatClampNeg (M.2.2 23 k).toNatClampNeg hi6 hkn).mpr ⟨k, hk, by rw [ofN_toN hi.1]; exact hs, by rw [ofN_toN hk0]⟩
    by_cases z : (M.2.2 23 k).toNatClampNeg = m.toNatClampNeg
    · rw [← ofN_toN hk0, z, ofN_toN hm0]
    · have := q _ hkn z
      rw [y3 _ hkn, bt_ushr _ e4.1 e4.2.1, e4.2.2, w] at this
      cases this
  · intro q j hj hne
    rw [y3 j hj, bt_ushr _ e4.1 e4.2.1, e4.2.2]
    cases z : bt (S.1 7) (4 * i.toNatClampNeg + j)
    · rfl
    · obtain ⟨k, k1, k2, k3⟩ := (s5 i.toNatClampNeg j hi6 hj).mp z
      rw [ofN_toN hi.1] at k2
      have := q k k1 k2
      rw [k3] at this
      exact absurd (by rw [← this, toN_ofN (by omega)]) hne
/-- a life is as all that is seen: n steps are left, the next is i, at place a -/
def lifeB (M : zS) (r : Int32 → Int32) : Nat → Int32 → Int32 → Bool
  | 0, _, _ => true
  | n + 1, i, a => skB M i (sMin (r a)) (M.1 21).toNatClampNeg && lifeB M r n (i + 1) (sNext a (r a))
theorem x_isAsSeen {S M : zS} (h : rSe S M) (w : Int32) : f_X4_isAsSeen w S = some (if lifeB M (fun a => zushr w (2 * a) &&& 3) 6 0 0 then 1 else 0) := by
  have main : ∀ n fuel (i a : Int32), 6 = i + Int32.ofNat n → n ≤ 6 → 0 ≤ i → i ≤ 6 → n < fuel → zfix (F_X4_isAsSeen_4 w S) fuel (a, i) = some (if lifeB M (fun a => zushr w (2 * a) &&& 3) n i a then 1 else 0) := by
    intro n
    induction n with
    | zero =>
      intro fuel i a e _ _ _ hf
      obtain ⟨f, rfl⟩ : ∃ f, fuel = f + 1 := ⟨fuel - 1, by omega⟩
      rw [zfix_s]
      simp only [F_X4_isAsSeen_4, if_pos (ar0 e), lifeB, if_true]
    | succ n ih =>
      intro fuel i a e hn h0 h6 hf
      obtain ⟨f, rfl⟩ : ∃ f, fuel = f + 1 := ⟨fuel - 1, by omega⟩
      obtain ⟨I, hI, rfl⟩ := exN (x := i) (n := 6) 6 rfl (by decide) h0 h6
      have e : nI 6 = nI I + nI (n + 1) := e
      rw [nI_add, nI_eq (by omega) (by omega)] at e
      have hlt : nI I < 6 := nI_lt (b := 6) (by omega) (by omega)
      have hle : ¬ 6 ≤ nI I := Int32.not_le.mpr hlt
      have hmm := sMin_b (zushr w (2 * a) &&& 3)
      have hs := seen_step h (nI I) (sMin (zushr w (2 * a) &&& 3)) ⟨h0, hlt⟩ hmm
      have e2 : (6 : Int32) = nI I + 1 + Int32.ofNat n := by
        show nI 6 = nI I + 1 + nI n
        rw [nI_1, nI_add]; congr 1; omega
      have hih := ih f (nI I + 1) (sNext a (zushr w (2 * a) &&& 3)) e2 (by omega) (by rw [nI_1]; exact nI_pos' (by omega)) (by rw [nI_1]; exact nI_le (b := 6) (by omega) (by omega)) (by omega)
      rw [zfix_s]
      simp only [F_X4_isAsSeen_4, if_neg hle, x_groundIn, x_minutesOver, x_placeBehind, Option.bind_some, zl, lifeB]
      by_cases q : skB M (nI I) (sMin (zushr w (2 * a) &&& 3)) (M.1 21).toNatClampNeg = true
      · rw [if_pos (hs.mpr q), hih]; simp only [q, Bool.true_and]
      · rw [if_neg (fun z => q (hs.mp z))]
        simp only [Bool.eq_false_iff.mpr q, Bool.false_and, Bool.false_eq_true, if_false]
  unfold f_X4_isAsSeen
  exact main 6 zN 0 0 (by decide) (by decide) (by decide) (by decide) (by unfold zN; decide)
theorem pw4 : ∀ k : Nat, k < 4 → f_X5_power 4 (Int32.ofNat k) = some (Int32.ofNat (4 ^ k)) ∧ ¬ Int32.ofNat (4 ^ k) = 0 := by decide +kernel
theorem gnd : ∀ c : Nat, c < 256 → ∀ k : Nat, k < 4 → zrem (Int32.ofNat c / Int32.ofNat (4 ^ k)) 4 = zushr (Int32.ofNat c) (2 * Int32.ofNat k) &&& 3 := by decide +kernel
theorem m_isSeen (M : zS) (hs : 0 ≤ M.1 21 ∧ M.1 21 ≤ 6) (c : Nat) (hc : c < 256) : f_X5_isSeen (nI c) M = some (if lifeB M (fun a => zushr (nI c) (2 * a) &&& 3) 6 0 0 then 1 else 0) := by
  have hK := toN_lt (i := M.1 21) (n := 7) 7 rfl (by decide) (Int32.lt_of_le_of_lt hs.2 (by decide)) (by decide)
  have hKe : M.1 21 = nI (M.1 21).toNatClampNeg := (ofN_toN hs.1).symm
  generalize hKK : (M.1 21).toNatClampNeg = K at *
  have inner : ∀ (rc : Int32 × Int32 × Int32 → Option Int32) (a g i : Int32), ∀ m k fuel, K = k + m → m < fuel → zfix (F_X5_isSeen_32 M a g rc i) fuel (if skB M i (sMin g) k then 1 else 0, nI k) = rc (sNext a g, if skB M i (sMin g) K then 1 else 0, i + 1) := by
    intro rc a g i m
    induction m with
    | zero =>
      intro k fuel e hf
      obtain ⟨f, rfl⟩ : ∃ f, fuel = f + 1 := ⟨fuel - 1, by omega⟩
      have : M.1 21 ≤ nI k := by rw [hKe]; exact nI_le (by omega) (by omega)
      have ek : k = K := by omega
      rw [zfix_s]
      simp only [F_X5_isSeen_32, if_pos this, m_next, Option.bind_some]
      rw [ek]
    | succ m ih =>
      intro k fuel e hf
      obtain ⟨f, rfl⟩ : ∃ f, fuel = f + 1 := ⟨fuel - 1, by omega⟩
      have hlt : ¬ M.1 21 ≤ nI k := by rw [hKe]; exact nI_ge (by omega) (by omega)
      have g1 : nI k < 6 := nI_lt (b := 6) (by omega) (by omega)
      have g0 : 0 ≤ nI k := nI_pos' (by omega)
      have ek : (nI k).toNatClampNeg = k := nI_clamp (by omega)
      have := ih (k + 1) f (by omega) (by omega)
      rw [← this, zfix_s]
      simp only [F_X5_isSeen_32, if_neg hlt, gdz6 g0 g1, m_minutes, Option.bind_some, zj, skB, ek, nI_1]
      by_cases q : skB M i (sMin g) k = true
      · simp only [q, if_true, Bool.true_and, show ¬ (1 : Int32) = 0 by decide, if_false, eq_self]
        by_cases q1 : M.2.2 22 k = i
        · by_cases q2 : M.2.2 23 k = sMin g
          · simp [q1, q2]
          · simp [q1, q2]
        · simp [q1]
      · have q := Bool.eq_false_iff.mpr q
        simp only [q, Bool.false_eq_true, if_false, Bool.false_and, if_true]
  have main : ∀ n fuel (i a : Int32), 6 = i + Int32.ofNat n → n ≤ 6 → 0 ≤ i → i ≤ 6 → (0 ≤ a ∧ a < 4) → n < fuel →
      zfix (F_X5_isSeen_7 (nI c) M) fuel (a, 1, i) = some (if lifeB M (fun a => zushr (nI c) (2 * a) &&& 3) n i a then 1 else 0) := by
    intro n
    induction n with
    | zero =>
      intro fuel i a e _ _ _ _ hf
      obtain ⟨f, rfl⟩ : ∃ f, fuel = f + 1 := ⟨fuel - 1, by omega⟩
      rw [zfix_s]
      simp only [F_X5_isSeen_7, if_pos (ar0 e), lifeB, if_true, zj, zb1]
    | succ n ih =>
      intro fuel i a e hn h0 h6 ha hf
      obtain ⟨f, rfl⟩ : ∃ f, fuel = f + 1 := ⟨fuel - 1, by omega⟩
      obtain ⟨I, hI, rfl⟩ := exN (x := i) (n := 6) 6 rfl (by decide) h0 h6
      have e : nI 6 = nI I + nI (n + 1) := e
      rw [nI_add, nI_eq (by omega) (by omega)] at e
      have hlt : nI I < 6 := nI_lt (b := 6) (by omega) (by omega)
      have hle : ¬ 6 ≤ nI I := Int32.not_le.mpr hlt
      have e2 : (6 : Int32) = nI I + 1 + Int32.ofNat n := by
        show nI 6 = nI I + 1 + nI n
        rw [nI_1, nI_add]; congr 1; omega
      have ha4 := tN_c ha.1 ha.2
      obtain ⟨p1, p2⟩ := pw4 _ ha4
      have p3 := gnd c hc _ ha4
      rw [ofN_toN ha.1] at p1 p3
      have p3 : zrem (nI c / Int32.ofNat (4 ^ a.toNatClampNeg)) 4 = zushr (nI c) (2 * a) &&& 3 := p3
      have hi := inner (zfix (F_X5_isSeen_7 (nI c) M) f) a (zushr (nI c) (2 * a) &&& 3) (nI I) K 0 zN (by omega) (by unfold zN; omega)
      have hi : zfix (F_X5_isSeen_32 M a (zushr (nI c) (2 * a) &&& 3) (zfix (F_X5_isSeen_7 (nI c) M) f) (nI I)) zN (1, 0) = _ := hi
      rw [zfix_s]
      simp only [F_X5_isSeen_7, if_neg hle, show ¬ (1 : Int32) = 0 by decide, if_false, p1, Option.bind_some, gdn p2, zl, zj, p3, hi]
      simp only [lifeB, hKK]
      by_cases q : skB M (nI I) (sMin (zushr (nI c) (2 * a) &&& 3)) K = true
      · simp only [q, if_true, Bool.true_and]
        exact ih f (nI I + 1) _ e2 (by omega) (by rw [nI_1]; exact nI_pos' (by omega)) (by rw [nI_1]; exact nI_le (b := 6) (by omega) (by omega)) (sNext_b ha) (by omega)
      · have q := Bool.eq_false_iff.mpr q
        simp only [q, Bool.false_eq_true, if_false, Bool.false_and]
        obtain ⟨f', rfl⟩ : ∃ f', f = f' + 1 := ⟨f - 1, by omega⟩
        rw [zfix_s]
        simp only [F_X5_isSeen_7, zj, if_true, zb0]
        split <;> rfl
  unfold f_X5_isSeen
  exact main 6 zN 0 0 (by decide) (by decide) (by decide) (by decide) (by decide) (by unfold zN; decide)
def lvS (M : zS) (k : Int32) (p : Int32 × Int32) (c : Nat) : Int32 × Int32 := if lifeB M (fun a => zushr (nI c) (2 * a) &&& 3) 6 0 0 then (p.1 + 1, p.2 ||| (if 0 ≤ k then zshl 1 (zushr (nI c) (2 * k) &&& 3) else 0)) else p
def lvF (M : zS) (k : Int32) : Nat → Int32 × Int32
  | 0 => (0, 0)
  | c + 1 => lvS M k (lvF M k c) c
theorem x_livesLoop {S M : zS} (h : rSe S M) (k : Int32) : zfix (F_X4_lives_22 k S) zN (0, 0, 0) = some (if 0 ≤ k then (lvF M k 256).2 else (lvF M k 256).1) := by
  obtain ⟨e', fu, ⟨-, he1⟩, he⟩ := zfix_run (F := F_X4_lives_22 k S) (fun n e => n ≤ 256 ∧ e = ((lvF M k (256 - n)).1, (lvF M k (256 - n)).2, nI (256 - n))) (by
    rintro n e ⟨h1, rfl⟩
    obtain ⟨c, hc⟩ : ∃ c, c = 256 - (n + 1) := ⟨_, rfl⟩
    refine ⟨_, ?_, by omega, rfl⟩
    intro rc
    rw [← hc, show 256 - n = c + 1 by omega]
    have hle : ¬ 256 ≤ nI c := nI_ge (b := 256) (by omega) (by omega)
    simp only [F_X4_lives_22, if_neg hle, x_isAsSeen h, Option.bind_some, zj, zl, lvF, lvS, x_groundIn, nI_succ]
    by_cases q : lifeB M (fun a => zushr (nI c) (2 * a) &&& 3) 6 0 0 = true
    · simp only [q, if_true, show ¬ (1 : Int32) = 0 by decide, if_false]
      split <;> rfl
    · have q := Bool.eq_false_iff.mpr q
      simp only [q, Bool.false_eq_true, if_false, if_true]) 256 (0, 0, 0) zN ⟨by decide, rfl⟩ (by unfold zN; decide)
  rw [he, he1]
  have : (256 : Int32) ≤ nI (256 - 0) := nI_le (a := 256) (by omega) (by omega)
  simp only [F_X4_lives_22, if_pos this, zj, Nat.sub_zero]
  split <;> rfl
theorem m_livesLoop (M : zS) (hs : 0 ≤ M.1 21 ∧ M.1 21 ≤ 6) (k : Int32) (hk : k < 4) : zfix (F_X5_lives_29 M k) zN (0, 0, 0) = some (if 0 ≤ k then (lvF M k 256).2 else (lvF M k 256).1, M) := by
  obtain ⟨e', fu, ⟨-, he1⟩, he⟩ := zfix_run (F := F_X5_lives_29 M k) (fun n e => n ≤ 256 ∧ e = ((lvF M k (256 - n)).1, (lvF M k (256 - n)).2, nI (256 - n))) (by
    rintro n e ⟨h1, rfl⟩
    obtain ⟨c, hc⟩ : ∃ c, c = 256 - (n + 1) := ⟨_, rfl⟩
    refine ⟨_, ?_, by omega, rfl⟩
    intro rc
    rw [← hc, show 256 - n = c + 1 by omega]
    have hle : ¬ 256 ≤ nI c := nI_ge (b := 256) (by omega) (by omega)
    simp only [F_X5_lives_29, if_neg hle, m_isSeen M hs c (by omega), Option.bind_some, zj, zl, lvF, lvS, nI_succ]
    by_cases q : lifeB M (fun a => zushr (nI c) (2 * a) &&& 3) 6 0 0 = true
    · simp only [q, if_true, show ¬ (1 : Int32) = 0 by decide, if_false]
      by_cases q2 : 0 ≤ k
      · have ha4 := tN_c q2 hk
        obtain ⟨p1, p2⟩ := pw4 _ ha4
        have p3 := gnd c (by omega) _ ha4
        rw [ofN_toN q2] at p1 p3
        have p3 : zrem (nI c / Int32.ofNat (4 ^ k.toNatClampNeg)) 4 = zushr (nI c) (2 * k) &&& 3 := p3
        simp only [if_pos q2, p1, Option.bind_some, gdn p2, p3]
      · simp only [if_neg q2]
    · have q := Bool.eq_false_iff.mpr q
      simp only [q, Bool.false_eq_true, if_false, if_true]) 256 (0, 0, 0) zN ⟨by decide, rfl⟩ (by unfold zN; decide)
  rw [he, he1]
  have : (256 : Int32) ≤ nI (256 - 0) := nI_le (a := 256) (by omega) (by omega)
  simp only [F_X5_lives_29, if_pos this, zj, Nat.sub_zero]
  split <;> rfl
theorem c_lives (a : Int32) (S M : zS) (h : Rel S M) : AnsR S (f_X4_lives a S) (f_X5_lives a M) := by
  have hR : Rel S (upd M.1 0 0, M.2) := h
  have se : rSe S (upd M.1 0 0, M.2) := h.2.2.2.2.2.1
  unfold f_X4_lives f_X5_lives
  rw [zl, zj]
  rw [m_in' a (-1) 3 (-1) 3 rfl rfl, x_isPlace, Option.bind_some, Option.bind_some]
  have hx := x_livesLoop se a
  have hm := m_livesLoop (upd M.1 0 0, M.2) ⟨h.2.2.2.2.2.1.2.1, h.2.2.2.2.2.1.2.2.1⟩ a
  by_cases c : a = -1
  · have c1 : -1 ≤ a ∧ a ≤ 3 := by rw [c]; decide
    have c2 : a < 4 := by rw [c]; decide
    rw [if_pos c, if_pos c1, if_neg (show ¬ (1 : Int32) = 0 by decide), hx, hm c2]
    exact ansR rfl rfl rfl hR
  · rw [if_neg c]
    by_cases d : 0 ≤ a ∧ a < 4
    · have c1 : -1 ≤ a ∧ a ≤ 3 := by grind
      rw [if_pos d, if_pos c1, if_neg (show ¬ (1 : Int32) = 0 by decide), if_neg (show ¬ (1 : Int32) = 0 by decide), hx, hm d.2]
      exact ansR rfl rfl rfl hR
    · have c1 : ¬ (-1 ≤ a ∧ a ≤ 3) := by grind
      rw [if_neg d, if_neg c1, if_pos rfl, if_pos rfl]
      exact ansR rfl rfl rfl hR
