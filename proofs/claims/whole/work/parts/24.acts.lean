/-! ===== the class's states kept, acts remembered and taken back ===== -/
theorem ofN_le {a b : Nat} (h : a ≤ b) (hb : b ≤ 6000) : Int32.ofNat a ≤ Int32.ofNat b := by
  have e1 : (Int32.ofNat a).toInt = (a : Int) := Int32.toInt_ofNat_of_lt (by omega)
  have e2 : (Int32.ofNat b).toInt = (b : Int) := Int32.toInt_ofNat_of_lt (by omega)
  exact Int32.le_iff_toInt_le.mpr (by omega)
theorem gdO {n i : Nat} {α : Type} {k : Option α} (h : i < n) (hn : n ≤ 6000) : gd (zin (Int32.ofNat i) n) k = k := gdz (m := Int32.ofNat n) rfl (by omega) (ofN_lt h hn).1 (ofN_lt h hn).2
/-- a row with a state laid from o on -/
def srow (f : Nat → Int32) (o : Nat) (s : Nat → Int32) : Nat → Int32 := upd (upd (upd (upd f o (s 15)) (o + 1) (s 16)) (o + 2) (s 17)) (o + 3) (s 18)
theorem srow_at (f : Nat → Int32) (o : Nat) (s : Nat → Int32) {c : Nat} (hc : c < 4) : srow f o s (o + c) = s (15 + c) := by
  unfold srow upd
  rcases (by omega : c = 0 ∨ c = 1 ∨ c = 2 ∨ c = 3) with rfl | rfl | rfl | rfl <;> simp
theorem srow_ne (f : Nat → Int32) (o : Nat) (s : Nat → Int32) {j : Nat} (h : j < o ∨ o + 4 ≤ j) : srow f o s j = f j := by
  unfold srow upd
  rw [if_neg (by omega), if_neg (by omega), if_neg (by omega), if_neg (by omega)]
theorem x_storeIn (k i : Nat) (hi : i * 4 + 4 ≤ xlen k) (hl : xlen k ≤ 6000) (S : zS) : f_X2_storeIn k (Int32.ofNat i) S = some (S.1, S.2.1, zur S.2.2 k (srow (S.2.2 k) (i * 4) S.1)) := by
  have e : Int32.ofNat i * 4 = Int32.ofNat (i * 4) := (Int32.ofNat_mul i 4).symm
  have e1 : Int32.ofNat (i * 4) + 1 = Int32.ofNat (i * 4 + 1) := (Int32.ofNat_add (i * 4) 1).symm
  have e2 : Int32.ofNat (i * 4) + 2 = Int32.ofNat (i * 4 + 2) := (Int32.ofNat_add (i * 4) 2).symm
  have e3 : Int32.ofNat (i * 4) + 3 = Int32.ofNat (i * 4 + 3) := (Int32.ofNat_add (i * 4) 3).symm
  have e4 : Int32.ofNat (i * 4) + 4 = Int32.ofNat (i * 4 + 4) := (Int32.ofNat_add (i * 4) 4).symm
  have h0 := ofN_b (n := i * 4) (by omega)
  have h4 := ofN_b (n := xlen k) hl
  have hle := ofN_le hi hl
  rw [← e4] at hle
  have c1 : ¬ Int32.ofNat (i * 4) < 0 := by grind
  have c2 : ¬ Int32.ofNat (xlen k) - 4 < Int32.ofNat (i * 4) := by grind
  unfold f_X2_storeIn
  simp only [e, zl, zj, if_neg c1, if_neg c2, e1, e2, e3, gdO (show i * 4 < xlen k by omega) hl, gdO (show i * 4 + 1 < xlen k by omega) hl, gdO (show i * 4 + 2 < xlen k by omega) hl, gdO (show i * 4 + 3 < xlen k by omega) hl, zur_at, zur_zur, toN_ofN (show i * 4 < 2147483648 by omega), toN_ofN (show i * 4 + 1 < 2147483648 by omega), toN_ofN (show i * 4 + 2 < 2147483648 by omega), toN_ofN (show i * 4 + 3 < 2147483648 by omega)]
  rfl
theorem x_fetchFrom (k i : Nat) (hi : i * 4 + 4 ≤ xlen k) (hl : xlen k ≤ 6000) (S : zS) : f_X2_fetchFrom k (Int32.ofNat i) S = some (upd (upd (upd (upd S.1 15 (S.2.2 k (i * 4))) 16 (S.2.2 k (i * 4 + 1))) 17 (S.2.2 k (i * 4 + 2))) 18 (S.2.2 k (i * 4 + 3)), S.2) := by
  have e : Int32.ofNat i * 4 = Int32.ofNat (i * 4) := (Int32.ofNat_mul i 4).symm
  have e1 : Int32.ofNat (i * 4) + 1 = Int32.ofNat (i * 4 + 1) := (Int32.ofNat_add (i * 4) 1).symm
  have e2 : Int32.ofNat (i * 4) + 2 = Int32.ofNat (i * 4 + 2) := (Int32.ofNat_add (i * 4) 2).symm
  have e3 : Int32.ofNat (i * 4) + 3 = Int32.ofNat (i * 4 + 3) := (Int32.ofNat_add (i * 4) 3).symm
  have e4 : Int32.ofNat (i * 4) + 4 = Int32.ofNat (i * 4 + 4) := (Int32.ofNat_add (i * 4) 4).symm
  have h0 := ofN_b (n := i * 4) (by omega)
  have h4 := ofN_b (n := xlen k) hl
  have hle := ofN_le hi hl
  rw [← e4] at hle
  have c1 : ¬ Int32.ofNat (i * 4) < 0 := by grind
  have c2 : ¬ Int32.ofNat (xlen k) - 4 < Int32.ofNat (i * 4) := by grind
  unfold f_X2_fetchFrom
  simp only [e, zl, zj, if_neg c1, if_neg c2, e1, e2, e3, gdO (show i * 4 < xlen k by omega) hl, gdO (show i * 4 + 1 < xlen k by omega) hl, gdO (show i * 4 + 2 < xlen k by omega) hl, gdO (show i * 4 + 3 < xlen k by omega) hl, toN_ofN (show i * 4 < 2147483648 by omega), toN_ofN (show i * 4 + 1 < 2147483648 by omega), toN_ofN (show i * 4 + 2 < 2147483648 by omega), toN_ofN (show i * 4 + 3 < 2147483648 by omega)]
theorem rem14 : ∀ m, m < 14 → ∀ n, n < 15 → zrem (Int32.ofNat m + Int32.ofNat n) 14 = Int32.ofNat ((m + n) % 14) := by decide +kernel
theorem rem14' {a b : Int32} (a0 : 0 ≤ a) (a1 : a < 14) (b0 : 0 ≤ b) (b1 : b ≤ 14) : zrem (a + b) 14 = Int32.ofNat ((a.toNatClampNeg + b.toNatClampNeg) % 14) := by
  have h1 := toN_lt (i := a) (n := 14) 14 rfl (by decide) a1 (by decide)
  have h2 := toN_lt (i := b) (n := 15) 15 rfl (by decide) (by grind) (by decide)
  have := rem14 _ h1 _ h2
  rwa [ofN_toN a0, ofN_toN b0] at this
theorem x_remember (S : zS) (h0 : 0 ≤ S.1 20) (h1 : S.1 20 ≤ 14) (f0 : 0 ≤ S.1 19) (f1 : S.1 19 < 14) : ∃ S', f_X0_remember S = some S' ∧ S'.2.1 = S.2.1 ∧ (∀ j, j ≠ 19 → j ≠ 20 → S'.1 j = S.1 j) ∧ (∀ j, j ≠ 7 → S'.2.2 j = S.2.2 j) ∧ (0 ≤ S'.1 19 ∧ S'.1 19 < 14) ∧
    ((S.1 20 = 14 ∧ S'.1 20 = 14 ∧ (∀ k c, k < 13 → c < 4 → S'.2.2 7 (4 * (((S'.1 19).toNatClampNeg + k) % 14) + c) = S.2.2 7 (4 * (((S.1 19).toNatClampNeg + (k + 1)) % 14) + c)) ∧ (∀ c, c < 4 → S'.2.2 7 (4 * (((S'.1 19).toNatClampNeg + 13) % 14) + c) = S.1 (15 + c))) ∨
     (S.1 20 < 14 ∧ S'.1 20 = S.1 20 + 1 ∧ (∀ k c, k < (S.1 20).toNatClampNeg → c < 4 → S'.2.2 7 (4 * (((S'.1 19).toNatClampNeg + k) % 14) + c) = S.2.2 7 (4 * (((S.1 19).toNatClampNeg + k) % 14) + c)) ∧ (∀ c, c < 4 → S'.2.2 7 (4 * (((S'.1 19).toNatClampNeg + (S.1 20).toNatClampNeg) % 14) + c) = S.1 (15 + c)))) := by
  have hf := toN_lt (i := S.1 19) (n := 14) 14 rfl (by decide) f1 (by decide)
  have hm := toN_lt (i := S.1 20) (n := 15) 15 rfl (by decide) (by grind) (by decide)
  unfold f_X0_remember
  rw [zj]
  by_cases c : S.1 20 < 14
  · have hm2 := toN_lt (i := S.1 20) (n := 14) 14 rfl (by decide) c (by decide)
    rw [if_pos c]
    have ex : xlen 7 = 56 := rfl
    have hs := x_storeIn 7 (((S.1 19).toNatClampNeg + (S.1 20).toNatClampNeg) % 14) (by rw [ex]; omega) (by rw [ex]; decide) S
    rw [← rem14' f0 f1 h0 h1] at hs
    simp only [hs, Option.bind_some, zl]
    refine ⟨_, rfl, rfl, ?_, ?_, ?_, Or.inr ⟨c, ?_, ?_, ?_⟩⟩
    · intro j h1 h2; simp only [upd_apply, if_neg h2]
    · intro j h; simp only [zur_ne _ _ h]
    · simp only [upd_apply]; exact ⟨f0, f1⟩
    · simp only [upd_apply, if_true]
    · intro k d hk hd
      simp only [zur_at, upd_apply, show ¬ (19 : Nat) = 20 by decide, if_false]
      rw [srow_ne]
      omega
    · intro d hd
      simp only [zur_at, upd_apply, show ¬ (19 : Nat) = 20 by decide, if_false]
      rw [Nat.mul_comm 4, srow_at _ _ _ hd]
  · have c14 : S.1 20 = 14 := by grind
    rw [if_neg c]
    simp only [zl]
    have e20 : upd (upd S.1 19 (zrem (S.1 19 + 1) 14)) 20 (upd S.1 19 (zrem (S.1 19 + 1) 14) 20 - 1) 20 = 13 := by
      simp only [upd_apply, show ¬ (20 : Nat) = 19 by decide, if_false, if_true, c14]; decide
    have e19 : upd (upd S.1 19 (zrem (S.1 19 + 1) 14)) 20 (upd S.1 19 (zrem (S.1 19 + 1) 14) 20 - 1) 19 = Int32.ofNat (((S.1 19).toNatClampNeg + 1) % 14) := by
      simp only [upd_apply, show ¬ (19 : Nat) = 20 by decide, if_false, if_true]
      exact rem14' f0 f1 (b := 1) (by decide) (by decide)
    have e19' : zrem (S.1 19 + 1) 14 = Int32.ofNat (((S.1 19).toNatClampNeg + 1) % 14) := rem14' f0 f1 (b := 1) (by decide) (by decide)
    have ex : xlen 7 = 56 := rfl
    have hs := x_storeIn 7 ((((S.1 19).toNatClampNeg + 1) % 14 + 13) % 14) (by rw [ex]; omega) (by rw [ex]; decide) (upd (upd S.1 19 (zrem (S.1 19 + 1) 14)) 20 (upd S.1 19 (zrem (S.1 19 + 1) 14) 20 - 1), S.2)
    rw [← rem14 (((S.1 19).toNatClampNeg + 1) % 14) (Nat.mod_lt _ (by decide)) 13 (by decide), ← e19] at hs
    have e20' : Int32.ofNat 13 = upd (upd S.1 19 (zrem (S.1 19 + 1) 14)) 20 (upd S.1 19 (zrem (S.1 19 + 1) 14) 20 - 1) 20 := e20.symm
    rw [e20'] at hs
    simp only [hs, Option.bind_some]
    have eN : (Int32.ofNat (((S.1 19).toNatClampNeg + 1) % 14)).toNatClampNeg = ((S.1 19).toNatClampNeg + 1) % 14 := toN_ofN (by omega)
    refine ⟨_, rfl, rfl, ?_, ?_, ?_, Or.inl ⟨c14, ?_, ?_, ?_⟩⟩
    · intro j h1 h2; simp only [upd_apply, if_neg h2, if_neg h1]
    · intro j h; simp only [zur_ne _ _ h]
    · simp only [upd_apply, show ¬ (19 : Nat) = 20 by decide, if_false, if_true, e19']; exact ofN_lt (n := 14) (Nat.mod_lt _ (by decide)) (by decide)
    · simp only [upd_apply, show ¬ (20 : Nat) = 19 by decide, if_false, if_true, c14]; decide
    · intro k d hk hd
      simp only [upd_apply, show ¬ (19 : Nat) = 20 by decide, if_false, if_true, e19', eN, zur_at]
      rw [srow_ne _ _ _ (by omega)]
      exact congrArg (S.2.2 7) (by omega)
    · intro d hd
      simp only [upd_apply, show ¬ (19 : Nat) = 20 by decide, if_false, if_true, e19', eN, zur_at]
      rw [Nat.mul_comm 4, srow_at _ _ _ hd]
      rw [upd_apply, if_neg (by omega), upd_apply, if_neg (by omega)]
theorem note_rel (S M : zS) (hA : rAc S M) (hP : rPg S M) : ∃ S' M', f_X0_remember S = some S' ∧ f_X5_note M = some M' ∧ rAc S' M' ∧ S'.2.1 = S.2.1 ∧ M'.2.1 = M.2.1 ∧ (∀ j, j ≠ 19 → j ≠ 20 → S'.1 j = S.1 j) ∧ (∀ j, j ≠ 7 → S'.2.2 j = S.2.2 j) ∧ (∀ j, j ≠ 18 → M'.1 j = M.1 j) ∧ (∀ j, j ≠ 17 → M'.2.2 j = M.2.2 j) := by
  obtain ⟨a1, a2, a3, a4, a5, a6⟩ := hA
  obtain ⟨S', s1, s2, s3, s4, s5, s6⟩ := x_remember S (by rw [a1]; exact a2) (by rw [a1]; exact a3) a4 a5
  obtain ⟨M', m1, m2, m3, m4, m5⟩ := m_note M a2 a3
  refine ⟨S', M', s1, m1, ?_, s2, m2, s3, s4, m3, m4⟩
  rcases s6 with ⟨b1, b2, b3, b4⟩ | ⟨b1, b2, b3, b4⟩
  · rcases m5 with ⟨c1, c2, c3, c4⟩ | ⟨c1, -⟩
    · refine ⟨b2.trans c2.symm, by rw [c2]; decide, by rw [c2]; decide, s5.1, s5.2, ?_⟩
      intro k hk
      rw [c2] at hk
      have hk : k < 14 := hk
      by_cases h : k = 13
      · subst h
        refine st4.cong (p := M.2.2 14) ?_ (fun j hj => (c4 j hj).symm)
        have q0 := b4 0 (by decide)
        have q1 := b4 1 (by decide)
        have q2 := b4 2 (by decide)
        have q3 := b4 3 (by decide)
        rw [Nat.add_zero] at q0
        rw [q0, q1, q2, q3]
        exact hP
      · have q := a6 (k + 1) (by rw [c1]; show k + 1 < 14; omega)
        refine st4.cong (p := fun j => M.2.2 17 (22 * (k + 1) + j)) ?_ (fun j hj => (c3 k j (by omega) hj).symm)
        have q0 := b3 k 0 (by omega) (by decide)
        have q1 := b3 k 1 (by omega) (by decide)
        have q2 := b3 k 2 (by omega) (by decide)
        have q3 := b3 k 3 (by omega) (by decide)
        rw [Nat.add_zero] at q0
        rw [q0, q1, q2, q3]
        exact q
    · exfalso; grind
  · rcases m5 with ⟨c1, -⟩ | ⟨c1, c2, c3, c4⟩
    · exfalso; grind
    · have hm2 := toN_lt (i := M.1 18) (n := 14) 14 rfl (by decide) c1 (by decide)
      have e : (M.1 18 + 1).toNatClampNeg = (M.1 18).toNatClampNeg + 1 := by
        have := ofN_toN a2
        rw [← this, toN_ofN (by omega), ← ofN_s, toN_ofN (by omega)]
      refine ⟨by rw [b2, c2, a1], by rw [c2]; grind, by rw [c2]; grind, s5.1, s5.2, ?_⟩
      intro k hk
      rw [c2, e] at hk
      rw [a1] at b3 b4
      by_cases h : k = (M.1 18).toNatClampNeg
      · subst h
        refine st4.cong (p := M.2.2 14) ?_ (fun j hj => (c4 j hj).symm)
        have q0 := b4 0 (by decide)
        have q1 := b4 1 (by decide)
        have q2 := b4 2 (by decide)
        have q3 := b4 3 (by decide)
        rw [Nat.add_zero] at q0
        rw [q0, q1, q2, q3]
        exact hP
      · have q := a6 k (by omega)
        refine st4.cong (p := fun j => M.2.2 17 (22 * k + j)) ?_ (fun j hj => (c3 k j (by omega) hj).symm)
        have q0 := b3 k 0 (by omega) (by decide)
        have q1 := b3 k 1 (by omega) (by decide)
        have q2 := b3 k 2 (by omega) (by decide)
        have q3 := b3 k 3 (by omega) (by decide)
        rw [Nat.add_zero] at q0
        rw [q0, q1, q2, q3]
        exact q
