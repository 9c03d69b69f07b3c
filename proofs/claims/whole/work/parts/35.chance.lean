/-! ===== chance ===== -/
/-- ways in time: n steps are left, the next is i, at place a, so much is left -/
def cw (half kd ti x : Int32) (r : Int32 → Int32) : Nat → Int32 → Int32 → Int32 → Int32
  | 0, _, _, left => if 0 ≤ left then 1 else 0
  | n + 1, i, a, left => if 0 ≤ left then (if r a = 2 then 10 else x) * cw half kd ti x r n (i + 1) (zrem (a + 2) 4) (left - sStp half kd (r a) i ti) + (10 - (if r a = 2 then 10 else x)) * cw half kd ti x r n (i + 1) (zrem (a + 1) 4) (left - sStp half kd (r a) i ti) else 0
theorem cw_neg {half kd ti x : Int32} {r : Int32 → Int32} {n : Nat} {i a left : Int32} (h : ¬ 0 ≤ left) : cw half kd ti x r n i a left = 0 := by
  cases n <;> simp only [cw, if_neg h]
theorem zrem_b {a : Int32} (ha : 0 ≤ a ∧ a < 4) : (0 ≤ zrem (a + 2) 4 ∧ zrem (a + 2) 4 < 4) ∧ (0 ≤ zrem (a + 1) 4 ∧ zrem (a + 1) 4 < 4) := by
  rcases i4 ha.1 ha.2 with rfl | rfl | rfl | rfl <;> decide
theorem cw_b {half kd ti x : Int32} {r : Int32 → Int32} (hx : 0 ≤ x ∧ x ≤ 10) : ∀ n i a left, ∃ k, k ≤ 10 ^ n ∧ cw half kd ti x r n i a left = nI k := by
  intro n
  induction n with
  | zero =>
    intro i a left
    by_cases h : 0 ≤ left
    · exact ⟨1, by decide, by simp only [cw, if_pos h]; rfl⟩
    · exact ⟨0, by decide, by simp only [cw, if_neg h]; rfl⟩
  | succ n ih =>
    intro i a left
    by_cases h : 0 ≤ left
    · obtain ⟨k1, h1, e1⟩ := ih (i + 1) (zrem (a + 2) 4) (left - sStp half kd (r a) i ti)
      obtain ⟨k2, h2, e2⟩ := ih (i + 1) (zrem (a + 1) 4) (left - sStp half kd (r a) i ti)
      have hs : ∃ s, s ≤ 10 ∧ (if r a = 2 then 10 else x) = nI s := by
        by_cases q : r a = 2
        · exact ⟨10, by decide, by rw [if_pos q]; rfl⟩
        · rw [if_neg q]
          exact exN (x := x) (n := 10) 10 rfl (by decide) hx.1 hx.2
      obtain ⟨s, s1, s2⟩ := hs
      refine ⟨s * k1 + (10 - s) * k2, ?_, ?_⟩
      · have a1 : s * k1 ≤ s * 10 ^ n := Nat.mul_le_mul_left _ h1
        have a2 : (10 - s) * k2 ≤ (10 - s) * 10 ^ n := Nat.mul_le_mul_left _ h2
        have a3 : s * 10 ^ n + (10 - s) * 10 ^ n = 10 * 10 ^ n := by rw [← Nat.add_mul]; congr 1; omega
        rw [Nat.pow_succ, Nat.mul_comm (10 ^ n)]
        omega
      · simp only [cw, if_pos h, s2, e1, e2]
        rw [show (10 : Int32) = nI 10 from rfl, pk_sub s1, pk_mul, pk_mul, nI_add]
    · exact ⟨0, Nat.zero_le _, by rw [cw_neg h]; rfl⟩
/-- one row of slips, told by the bits of m -/
def wlk (half kd ti x t : Int32) (r : Int32 → Int32) : Nat → Int32 → Int32 → Int32 → Int32 → Nat → Int32
  | 0, _, _, s, y, _ => if t < s then 0 else y
  | n + 1, i, a, s, y, m => wlk half kd ti x t r n (i + 1) (sNext a (if m % 2 = 1 then 2 else r a)) (s + sStp half kd (r a) i ti) (y * (if r a = 2 then (if m % 2 = 1 then 0 else 10) else (if m % 2 = 1 then x else 10 - x))) (m / 2)
def smF (f : Nat → Int32) : Nat → Int32
  | 0 => 0
  | c + 1 => smF f c + f c
theorem smF_add (f g : Nat → Int32) : ∀ c, smF (fun m => f m + g m) c = smF f c + smF g c := by
  intro c
  induction c with
  | zero => rfl
  | succ c ih => simp only [smF, ih]; grind
theorem smF_two (f : Nat → Int32) : ∀ c, smF f (2 * c) = smF (fun m => f (2 * m) + f (2 * m + 1)) c := by
  intro c
  induction c with
  | zero => rfl
  | succ c ih =>
    rw [show 2 * (c + 1) = 2 * c + 1 + 1 by omega]
    simp only [smF, ih]; grind
theorem smF_cong {f g : Nat → Int32} (h : ∀ m, f m = g m) : ∀ c, smF f c = smF g c := by
  intro c
  rw [show f = g from funext h]
theorem sum_arith {t s u : Int32} {n : Nat} (ht : 0 ≤ t ∧ t ≤ 60) (hs : 0 ≤ s ∧ s ≤ 100) (hu : 1 ≤ u ∧ u ≤ 8) : (t < s ↔ ¬ 0 ≤ t - s) ∧ t - (s + u) = t - s - u ∧ (¬ 0 ≤ t - s → ¬ 0 ≤ t - s - u) ∧ 0 ≤ s + u := by
  refine ⟨?_, by grind, ?_, ?_⟩
  · constructor
    · intro h; grind
    · intro h; grind
  · intro h; grind
  · grind
theorem sumW (half kd ti x t : Int32) (r : Int32 → Int32) (hti : 0 ≤ ti ∧ ti < 4) (ht : 0 ≤ t ∧ t ≤ 60) : ∀ n : Nat, n ≤ 6 → ∀ (i a s y : Int32), 0 ≤ s → s ≤ 100 - 8 * Int32.ofNat n →
    smF (fun m => wlk half kd ti x t r n i a s y m) (2 ^ n) = y * cw half kd ti x r n i a (t - s) := by
  intro n
  induction n with
  | zero =>
    intro _ i a s y h0 h1
    have h1 : s ≤ 100 := h1
    have := (sum_arith (n := 0) ht ⟨h0, h1⟩ (u := 1) (by decide)).1
    show 0 + (if t < s then 0 else y) = y * (if 0 ≤ t - s then 1 else 0)
    by_cases q : t < s
    · rw [if_pos q, if_neg (this.mp q)]; grind
    · rw [if_neg q, if_pos (by by_cases z : 0 ≤ t - s; exact z; exact absurd (this.mpr z) q)]; grind
  | succ n ih =>
    intro hn i a s y h0 h1
    rw [ofN_s] at h1
    have hb := ofN_b (n := n) (by omega)
    have hb6 := ofN_le (show n ≤ 6 by omega) (by decide)
    have e6 : Int32.ofNat 6 = 6 := rfl
    rw [e6] at hb6
    have hst := sStp_b (half := half) (kd := kd) (g := r a) (i := i) hti
    have h2 : s ≤ 100 := by
      generalize Int32.ofNat n = u at *
      clear ih hst
      grind
    have h3 : s + sStp half kd (r a) i ti ≤ 100 - 8 * Int32.ofNat n := by
      generalize Int32.ofNat n = u at *
      generalize sStp half kd (r a) i ti = v at *
      clear ih
      grind
    obtain ⟨a1, a2, a3, a4⟩ := sum_arith (n := 0) ht ⟨h0, h2⟩ hst
    rw [Nat.pow_succ, Nat.mul_comm, smF_two, smF_add]
    have f0 : ∀ m, wlk half kd ti x t r (n + 1) i a s y (2 * m) = wlk half kd ti x t r n (i + 1) (sNext a (r a)) (s + sStp half kd (r a) i ti) (y * (if r a = 2 then 10 else 10 - x)) m := by
      intro m
      simp only [wlk, show ¬ 2 * m % 2 = 1 by omega, if_false, show 2 * m / 2 = m by omega]
    have f1 : ∀ m, wlk half kd ti x t r (n + 1) i a s y (2 * m + 1) = wlk half kd ti x t r n (i + 1) (sNext a 2) (s + sStp half kd (r a) i ti) (y * (if r a = 2 then 0 else x)) m := by
      intro m
      simp only [wlk, show (2 * m + 1) % 2 = 1 by omega, if_true, show (2 * m + 1) / 2 = m by omega]
    rw [smF_cong f0, smF_cong f1, ih (by omega) _ _ _ _ a4 h3, ih (by omega) _ _ _ _ a4 h3, a2]
    have z2 : sNext a 2 = zrem (a + 2) 4 := rfl
    by_cases q : 0 ≤ t - s
    · simp only [cw, if_pos q]
      by_cases w : r a = 2
      · simp only [if_pos w]
        rw [w, z2]
        grind
      · have z1 : sNext a (r a) = zrem (a + 1) 4 := by unfold sNext; rw [if_neg w]
        simp only [if_neg w]
        rw [z1, z2]
        grind
    · rw [cw_neg (a3 q), cw_neg (a3 q), cw_neg q]
      grind
theorem hasbit : ∀ m : Nat, m < 64 → ∀ i : Nat, i < 6 → f_X5_has (Int32.ofNat m) (Int32.ofNat i) = some (if m / 2 ^ i % 2 = 1 then 1 else 0) := by decide +kernel
theorem m_walk {S M : zS} (h : Rel S M) (g t x y5 : Int32) (rc : Int32 × Int32 → Option (Int32 × zS)) (m : Nat) (hm : m < 64) (hg : 0 ≤ g ∧ g < M.1 5) : ∀ n fuel i a s y, (M.1 4).toNatClampNeg = i + n → n < fuel → (0 ≤ a ∧ a < 4) →
    zfix (F_X5_chance_71 M y5 rc (nI m) t g x) fuel (a, s, y, nI i) = rc (y5 + wlk (M.1 4 / 2) (M.2.2 6 g.toNatClampNeg) (M.2.2 14 (16 + g).toNatClampNeg) x t (fun k => M.2.2 14 (0 + 4 * g + k).toNatClampNeg) n (nI i) a s y (m / 2 ^ i), nI m + 1) := by
  obtain ⟨t1, t2, t3, t4, t5, t6, t7, t8, t9, t10, t11⟩ := h.2.1
  have hg4 : 0 ≤ g ∧ g < 4 := ⟨hg.1, Int32.lt_of_lt_of_le hg.2 t6⟩
  have hN : (M.1 4).toNatClampNeg < 7 := toN_lt (n := 7) 7 rfl (by decide) (Int32.lt_of_le_of_lt t3 (by decide)) (by decide)
  have eN : M.1 4 = nI (M.1 4).toNatClampNeg := (ofN_toN (Int32.le_trans (by decide) t2)).symm
  intro n
  induction n with
  | zero =>
    intro fuel i a s y e hf ha
    obtain ⟨f, rfl⟩ : ∃ f, fuel = f + 1 := ⟨fuel - 1, by omega⟩
    have hle : M.1 4 ≤ nI i := by rw [eN]; exact nI_le (by omega) (by omega)
    rw [zfix_s]
    simp only [F_X5_chance_71, if_pos hle, zj, zl, wlk]
    split <;> rfl
  | succ n ih =>
    intro fuel i a s y e hf ha
    obtain ⟨f, rfl⟩ : ∃ f, fuel = f + 1 := ⟨fuel - 1, by omega⟩
    have hle : ¬ M.1 4 ≤ nI i := by rw [eN]; exact nI_ge (by omega) (by omega)
    have c1 : 0 ≤ 0 + 4 * g + a ∧ 0 + 4 * g + a < 22 := by
      rcases i4 hg4.1 hg4.2 with rfl | rfl | rfl | rfl <;> rcases i4 ha.1 ha.2 with rfl | rfl | rfl | rfl <;> decide
    have hbit : f_X5_has (nI m) (nI i) = some (if m / 2 ^ i % 2 = 1 then 1 else 0) := hasbit m hm i (by omega)
    have hd : m / 2 ^ (i + 1) = m / 2 ^ i / 2 := by rw [Nat.pow_succ, Nat.div_div_eq_div_mul]
    rw [zfix_s]
    simp only [F_X5_chance_71, if_neg hle, gdz22 c1.1 c1.2, hbit, m_takes _ _ _ _ _ hg4 ha, Option.bind_some, zj, zl, m_next, nI_1, ih f (i + 1) _ _ _ (by omega) (by omega) (sNext_b ha), wlk, hd]
    by_cases q : m / 2 ^ i % 2 = 1
    · simp only [if_pos q, show ¬ (1 : Int32) = 0 by decide, if_false]
      split <;> rfl
    · simp only [if_neg q, if_true]
      split <;> rfl
/-- one row of slips as the class goes it: a bit is a slip, over a wet ground too -/
def wlx (half kd ti x t : Int32) (r : Int32 → Int32) : Nat → Int32 → Int32 → Int32 → Int32 → Nat → Int32
  | 0, _, _, s, y, _ => if t < s then 0 else y
  | n + 1, i, a, s, y, m => wlx half kd ti x t r n (i + 1) (sNext a (if m % 2 = 1 then 2 else 0)) (s + sStp half kd (r a) i ti) (y * (if m % 2 = 1 then (if r a = 2 then 10 else x) else 10 - (if r a = 2 then 10 else x))) (m / 2)
theorem sumX (half kd ti x t : Int32) (r : Int32 → Int32) (hti : 0 ≤ ti ∧ ti < 4) (ht : 0 ≤ t ∧ t ≤ 60) : ∀ n : Nat, n ≤ 6 → ∀ (i a s y : Int32), 0 ≤ s → s ≤ 100 - 8 * Int32.ofNat n →
    smF (fun m => wlx half kd ti x t r n i a s y m) (2 ^ n) = y * cw half kd ti x r n i a (t - s) := by
  intro n
  induction n with
  | zero =>
    intro _ i a s y h0 h1
    have h1 : s ≤ 100 := h1
    have := (sum_arith (n := 0) ht ⟨h0, h1⟩ (u := 1) (by decide)).1
    show 0 + (if t < s then 0 else y) = y * (if 0 ≤ t - s then 1 else 0)
    by_cases q : t < s
    · rw [if_pos q, if_neg (this.mp q)]; grind
    · rw [if_neg q, if_pos (by by_cases z : 0 ≤ t - s; exact z; exact absurd (this.mpr z) q)]; grind
  | succ n ih =>
    intro hn i a s y h0 h1
    rw [ofN_s] at h1
    have hb := ofN_b (n := n) (by omega)
    have hb6 := ofN_le (show n ≤ 6 by omega) (by decide)
    have e6 : Int32.ofNat 6 = 6 := rfl
    rw [e6] at hb6
    have hst := sStp_b (half := half) (kd := kd) (g := r a) (i := i) hti
    have h2 : s ≤ 100 := by
      generalize Int32.ofNat n = u at *
      clear ih hst
      grind
    have h3 : s + sStp half kd (r a) i ti ≤ 100 - 8 * Int32.ofNat n := by
      generalize Int32.ofNat n = u at *
      generalize sStp half kd (r a) i ti = v at *
      clear ih
      grind
    obtain ⟨a1, a2, a3, a4⟩ := sum_arith (n := 0) ht ⟨h0, h2⟩ hst
    rw [Nat.pow_succ, Nat.mul_comm, smF_two, smF_add]
    have f0 : ∀ m, wlx half kd ti x t r (n + 1) i a s y (2 * m) = wlx half kd ti x t r n (i + 1) (sNext a 0) (s + sStp half kd (r a) i ti) (y * (10 - (if r a = 2 then 10 else x))) m := by
      intro m
      simp only [wlx, show ¬ 2 * m % 2 = 1 by omega, if_false, show 2 * m / 2 = m by omega]
    have f1 : ∀ m, wlx half kd ti x t r (n + 1) i a s y (2 * m + 1) = wlx half kd ti x t r n (i + 1) (sNext a 2) (s + sStp half kd (r a) i ti) (y * (if r a = 2 then 10 else x)) m := by
      intro m
      simp only [wlx, show (2 * m + 1) % 2 = 1 by omega, if_true, show (2 * m + 1) / 2 = m by omega]
    rw [smF_cong f0, smF_cong f1, ih (by omega) _ _ _ _ a4 h3, ih (by omega) _ _ _ _ a4 h3, a2]
    have z2 : sNext a 2 = zrem (a + 2) 4 := rfl
    have z1 : sNext a 0 = zrem (a + 1) 4 := rfl
    by_cases q : 0 ≤ t - s
    · simp only [cw, if_pos q]
      rw [z1, z2]
      generalize (if r a = 2 then 10 else x) = p
      generalize cw half kd ti x r n (i + 1) (zrem (a + 1) 4) (t - s - sStp half kd (r a) i ti) = c1
      generalize cw half kd ti x r n (i + 1) (zrem (a + 2) 4) (t - s - sStp half kd (r a) i ti) = c2
      clear ih hst h3 f0 f1 a1 a2 a3 a4 hb hb6 h1
      grind
    · rw [cw_neg (a3 q), cw_neg (a3 q), cw_neg q]
      grind
theorem hasbitX : ∀ m : Nat, m < 64 → ∀ i : Nat, i < 6 → f_X4_isIn (Int32.ofNat m) (Int32.ofNat i) = some (if m / 2 ^ i % 2 = 1 then 1 else 0) := by decide +kernel
theorem x_ways {S M : zS} (h : Rel S M) (g t x : Int32) (m : Nat) (hm : m < 64) (hg : 0 ≤ g ∧ g < M.1 5) : ∀ n fuel i a s y, (M.1 4).toNatClampNeg = i + n → n < fuel → (0 ≤ a ∧ a < 4) →
    zfix (F_X4_waysInTime_12 S t g (nI m) x) fuel (y, s, a, nI i) = some (wlx (M.1 4 / 2) (M.2.2 6 g.toNatClampNeg) (M.2.2 14 (16 + g).toNatClampNeg) x t (fun k => M.2.2 14 (0 + 4 * g + k).toNatClampNeg) n (nI i) a s y (m / 2 ^ i)) := by
  have pg := h.2.2.1
  obtain ⟨t1, t2, t3, t4, t5, t6, t7, t8, t9, t10, t11⟩ := h.2.1
  have hg4 : 0 ≤ g ∧ g < 4 := ⟨hg.1, Int32.lt_of_lt_of_le hg.2 t6⟩
  have hN : (M.1 4).toNatClampNeg < 7 := toN_lt (n := 7) 7 rfl (by decide) (Int32.lt_of_le_of_lt t3 (by decide)) (by decide)
  have eN : M.1 4 = nI (M.1 4).toNatClampNeg := (ofN_toN (Int32.le_trans (by decide) t2)).symm
  intro n
  induction n with
  | zero =>
    intro fuel i a s y e hf ha
    obtain ⟨f, rfl⟩ : ∃ f, fuel = f + 1 := ⟨fuel - 1, by omega⟩
    have hle : S.1 10 ≤ nI i := by rw [t1, eN]; exact nI_le (by omega) (by omega)
    rw [zfix_s]
    simp only [F_X4_waysInTime_12, if_pos hle, zj, wlx]
    split <;> rfl
  | succ n ih =>
    intro fuel i a s y e hf ha
    obtain ⟨f, rfl⟩ : ∃ f, fuel = f + 1 := ⟨fuel - 1, by omega⟩
    have hle : ¬ S.1 10 ≤ nI i := by rw [t1, eN]; exact nI_ge (by omega) (by omega)
    have q := pg.1.gr hg4.1 hg4.2 ha.1 ha.2
    have qb : 0 ≤ M.2.2 14 (0 + 4 * g + a).toNatClampNeg ∧ M.2.2 14 (0 + 4 * g + a).toNatClampNeg < 4 := by rw [← q]; exact and3 _
    unfold gr at q
    have hbit : f_X4_isIn (nI m) (nI i) = some (if m / 2 ^ i % 2 = 1 then 1 else 0) := hasbitX m hm i (by omega)
    have hd : m / 2 ^ (i + 1) = m / 2 ^ i / 2 := by rw [Nat.pow_succ, Nat.div_div_eq_div_mul]
    have st := fun i => x_stepMinutes g (M.2.2 14 (0 + 4 * g + a).toNatClampNeg) i (S.1 16) S qb
    simp only [pg.1.td hg4.1 hg4.2, t10 g hg.1 hg.2, t1] at st
    have stp : ∀ (s' a' y' : Int32), (0 ≤ a' ∧ a' < 4) → zfix (F_X4_waysInTime_12 S t g (nI m) x) f (y', s', a', nI (i + 1)) = some (wlx (M.1 4 / 2) (M.2.2 6 g.toNatClampNeg) (M.2.2 14 (16 + g).toNatClampNeg) x t (fun k => M.2.2 14 (0 + 4 * g + k).toNatClampNeg) n (nI (i + 1)) a' s' y' (m / 2 ^ (i + 1))) := fun s' a' y' h' => ih f (i + 1) a' s' y' (by omega) (by omega) h'
    rw [zfix_s]
    simp only [F_X4_waysInTime_12, if_neg hle, x_groundAt, q, Option.bind_some, hbit, st, zl, zj, x_placeBehind, stp _ _ _ (sNext_b ha), wlx, nI_1, hd]
    by_cases b : m / 2 ^ i % 2 = 1
    · simp only [if_pos b, show ¬ (1 : Int32) = 0 by decide, if_false]
      split <;> rfl
    · simp only [if_neg b, if_true]
      split <;> rfl
theorem pw10 : ∀ k : Nat, k < 7 → f_X5_power 10 (Int32.ofNat k) = some (Int32.ofNat (10 ^ k)) ∧ zshl 1 (Int32.ofNat k) = Int32.ofNat (2 ^ k) ∧ 10 ^ k ≤ 1000000 ∧ 2 ^ k ≤ 64 := by decide +kernel
theorem x_chanceSum {S M : zS} (h : Rel S M) (g t x u y : Int32) (hg : 0 ≤ g ∧ g < M.1 5) (ht : 0 ≤ t ∧ t ≤ 60) (A : Nat) (hA : cw (M.1 4 / 2) (M.2.2 6 g.toNatClampNeg) (M.2.2 14 (16 + g).toNatClampNeg) x (fun k => M.2.2 14 (0 + 4 * g + k).toNatClampNeg) (M.1 4).toNatClampNeg 0 0 t = nI A) :
    zfix (F_X4_chance_73 S y u g t x) zN (0, 0) = (f_X4_fraction (nI A) y u).bind fun r => some r := by
  have pg := h.2.2.1
  have t1 := h.2.1.1
  have t2 := h.2.1.2.1
  have t3 := h.2.1.2.2.1
  have t6 := h.2.1.2.2.2.2.2.1
  have hg4 : 0 ≤ g ∧ g < 4 := ⟨hg.1, Int32.lt_of_lt_of_le hg.2 t6⟩
  have hN : (M.1 4).toNatClampNeg < 7 := toN_lt (n := 7) 7 rfl (by decide) (Int32.lt_of_le_of_lt t3 (by decide)) (by decide)
  have eN : M.1 4 = nI (M.1 4).toNatClampNeg := (ofN_toN (Int32.le_trans (by decide) t2)).symm
  have tb := pg.1.b (16 + g).toNatClampNeg (by rw [tN_16 hg4.1 hg4.2]; have := tN_c hg4.1 hg4.2; omega)
  have sw := sumX (M.1 4 / 2) (M.2.2 6 g.toNatClampNeg) (M.2.2 14 (16 + g).toNatClampNeg) x t (fun k => M.2.2 14 (0 + 4 * g + k).toNatClampNeg) tb ht (M.1 4).toNatClampNeg (by omega) 0 0 0 1 (by decide) (by
    have := ofN_le (show (M.1 4).toNatClampNeg ≤ 6 by omega) (by decide)
    have hb := ofN_b (n := (M.1 4).toNatClampNeg) (by omega)
    have e6 : Int32.ofNat 6 = 6 := rfl
    rw [e6] at this
    generalize Int32.ofNat (M.1 4).toNatClampNeg = u at *
    clear hA h pg
    grind)
  have e0 : t - 0 = t := by simp
  have e1 : ∀ z : Int32, 1 * z = z := by intro z; simp
  rw [e0, e1, hA] at sw
  obtain ⟨-, p2, -, p4⟩ := pw10 _ hN
  have p2 : zshl 1 (S.1 10) = nI (2 ^ (M.1 4).toNatClampNeg) := by rw [t1, eN]; exact (nI_clamp (show (M.1 4).toNatClampNeg < 2 ^ 31 by omega)).symm ▸ p2
  obtain ⟨e', fu, ⟨-, he1⟩, he⟩ := zfix_run (F := F_X4_chance_73 S y u g t x) (fun n e => n ≤ 2 ^ (M.1 4).toNatClampNeg ∧ e = (smF (fun m => wlx (M.1 4 / 2) (M.2.2 6 g.toNatClampNeg) (M.2.2 14 (16 + g).toNatClampNeg) x t (fun k => M.2.2 14 (0 + 4 * g + k).toNatClampNeg) (M.1 4).toNatClampNeg 0 0 0 1 m) (2 ^ (M.1 4).toNatClampNeg - n), nI (2 ^ (M.1 4).toNatClampNeg - n))) (by
    rintro n e ⟨h1, rfl⟩
    obtain ⟨c, hc⟩ : ∃ c, c = 2 ^ (M.1 4).toNatClampNeg - (n + 1) := ⟨_, rfl⟩
    refine ⟨_, ?_, by omega, rfl⟩
    intro rc
    rw [← hc, show 2 ^ (M.1 4).toNatClampNeg - n = c + 1 by omega]
    have hle : ¬ nI (2 ^ (M.1 4).toNatClampNeg) ≤ nI c := nI_ge (by omega) (by omega)
    have mw := x_ways h g t x c (by omega) hg (M.1 4).toNatClampNeg zN 0 0 0 1 (by omega) (by unfold zN; omega) (by decide)
    rw [Nat.pow_zero, Nat.div_one, show nI 0 = 0 from rfl] at mw
    have mw : f_X4_waysInTime g (nI c) t x S = _ := mw
    simp only [F_X4_chance_73, p2, if_neg hle, mw, Option.bind_some, zl]
    rw [nI_succ]
    simp only [smF]) (2 ^ (M.1 4).toNatClampNeg) (0, 0) zN ⟨Nat.le_refl _, by rw [Nat.sub_self]; rfl⟩ (by unfold zN; omega)
  rw [he, he1, Nat.sub_zero, sw]
  have hle : nI (2 ^ (M.1 4).toNatClampNeg) ≤ nI (2 ^ (M.1 4).toNatClampNeg) := Int32.le_refl _
  simp only [F_X4_chance_73, p2, if_pos hle]
theorem x_chanceLoop {S M : zS} (h : Rel S M) (g t x u : Int32) (hg : 0 ≤ g ∧ g < M.1 5) (ht : 0 ≤ t ∧ t ≤ 60) (A : Nat) (hA : cw (M.1 4 / 2) (M.2.2 6 g.toNatClampNeg) (M.2.2 14 (16 + g).toNatClampNeg) x (fun k => M.2.2 14 (0 + 4 * g + k).toNatClampNeg) (M.1 4).toNatClampNeg 0 0 t = nI A) (hA2 : A ≤ 1000000) :
    zfix (F_X4_chance_42 S u g t x) zN (1, 0) = some (frI A (10 ^ (M.1 4).toNatClampNeg) u) := by
  have t1 := h.2.1.1
  have t2 := h.2.1.2.1
  have t3 := h.2.1.2.2.1
  have hN : (M.1 4).toNatClampNeg < 7 := toN_lt (n := 7) 7 rfl (by decide) (Int32.lt_of_le_of_lt t3 (by decide)) (by decide)
  have eN : M.1 4 = nI (M.1 4).toNatClampNeg := (ofN_toN (Int32.le_trans (by decide) t2)).symm
  obtain ⟨-, -, p3, -⟩ := pw10 _ hN
  obtain ⟨e', fu, ⟨-, he1⟩, he⟩ := zfix_run (F := F_X4_chance_42 S u g t x) (fun n e => n ≤ (M.1 4).toNatClampNeg ∧ e = (nI (10 ^ ((M.1 4).toNatClampNeg - n)), nI ((M.1 4).toNatClampNeg - n))) (by
    rintro n e ⟨h1, rfl⟩
    obtain ⟨c, hc⟩ : ∃ c, c = (M.1 4).toNatClampNeg - (n + 1) := ⟨_, rfl⟩
    refine ⟨_, ?_, by omega, rfl⟩
    intro rc
    rw [← hc, show (M.1 4).toNatClampNeg - n = c + 1 by omega]
    have hle : ¬ S.1 10 ≤ nI c := by rw [t1, eN]; exact nI_ge (by omega) (by omega)
    simp only [F_X4_chance_42, if_neg hle, zl, nI_1]
    rw [show (10 : Int32) = nI 10 from rfl, pk_mul, Nat.pow_succ]) (M.1 4).toNatClampNeg (1, 0) zN ⟨Nat.le_refl _, by rw [Nat.sub_self]; rfl⟩ (by unfold zN; omega)
  rw [he, he1, Nat.sub_zero]
  have hle : S.1 10 ≤ nI (M.1 4).toNatClampNeg := by rw [t1, ← eN]; exact Int32.le_refl _
  simp only [F_X4_chance_42, if_pos hle]
  rw [x_chanceSum h g t x u _ hg ht A hA, x_fracLoop A (10 ^ (M.1 4).toNatClampNeg) u (by omega) (Nat.pow_pos (by decide)) (by omega)]
  rfl
theorem m_chanceLoop {S M : zS} (h : Rel S M) (g t x u : Int32) (hg : 0 ≤ g ∧ g < M.1 5) (hx : 0 ≤ x ∧ x ≤ 10) (ht : 0 ≤ t ∧ t ≤ 60) (A : Nat) (hA : cw (M.1 4 / 2) (M.2.2 6 g.toNatClampNeg) (M.2.2 14 (16 + g).toNatClampNeg) x (fun k => M.2.2 14 (0 + 4 * g + k).toNatClampNeg) (M.1 4).toNatClampNeg 0 0 t = nI A) (hA2 : A ≤ 1000000) :
    zfix (F_X5_chance_48 M u t g x) zN (0, 0) = some (frI A (10 ^ (M.1 4).toNatClampNeg) u, M) := by
  have pg := h.2.2.1
  have t2 := h.2.1.2.1
  have t3 := h.2.1.2.2.1
  have t6 := h.2.1.2.2.2.2.2.1
  have hg4 : 0 ≤ g ∧ g < 4 := ⟨hg.1, Int32.lt_of_lt_of_le hg.2 t6⟩
  have hN : (M.1 4).toNatClampNeg < 7 := toN_lt (n := 7) 7 rfl (by decide) (Int32.lt_of_le_of_lt t3 (by decide)) (by decide)
  have eN : M.1 4 = nI (M.1 4).toNatClampNeg := (ofN_toN (Int32.le_trans (by decide) t2)).symm
  have tb := pg.1.b (16 + g).toNatClampNeg (by rw [tN_16 hg4.1 hg4.2]; have := tN_c hg4.1 hg4.2; omega)
  have sw := sumW (M.1 4 / 2) (M.2.2 6 g.toNatClampNeg) (M.2.2 14 (16 + g).toNatClampNeg) x t (fun k => M.2.2 14 (0 + 4 * g + k).toNatClampNeg) tb ht (M.1 4).toNatClampNeg (by omega) 0 0 0 1 (by decide) (by
    have := ofN_le (show (M.1 4).toNatClampNeg ≤ 6 by omega) (by decide)
    have hb := ofN_b (n := (M.1 4).toNatClampNeg) (by omega)
    have e6 : Int32.ofNat 6 = 6 := rfl
    rw [e6] at this
    generalize Int32.ofNat (M.1 4).toNatClampNeg = u at *
    clear hA h pg
    grind)
  have e0 : t - 0 = t := by simp
  have e1 : ∀ z : Int32, 1 * z = z := by intro z; simp
  rw [e0, e1, hA] at sw
  obtain ⟨p1, p2, p3, p4⟩ := pw10 _ hN
  have p1 : f_X5_power 10 (M.1 4) = some (nI (10 ^ (M.1 4).toNatClampNeg)) := by rw [eN]; exact (nI_clamp (show (M.1 4).toNatClampNeg < 2 ^ 31 by omega)).symm ▸ p1
  have p2 : zshl 1 (M.1 4) = nI (2 ^ (M.1 4).toNatClampNeg) := by rw [eN]; exact (nI_clamp (show (M.1 4).toNatClampNeg < 2 ^ 31 by omega)).symm ▸ p2
  obtain ⟨e', fu, ⟨-, he1⟩, he⟩ := zfix_run (F := F_X5_chance_48 M u t g x) (fun n e => n ≤ 2 ^ (M.1 4).toNatClampNeg ∧ e = (smF (fun m => wlk (M.1 4 / 2) (M.2.2 6 g.toNatClampNeg) (M.2.2 14 (16 + g).toNatClampNeg) x t (fun k => M.2.2 14 (0 + 4 * g + k).toNatClampNeg) (M.1 4).toNatClampNeg 0 0 0 1 m) (2 ^ (M.1 4).toNatClampNeg - n), nI (2 ^ (M.1 4).toNatClampNeg - n))) (by
    rintro n e ⟨h1, rfl⟩
    obtain ⟨c, hc⟩ : ∃ c, c = 2 ^ (M.1 4).toNatClampNeg - (n + 1) := ⟨_, rfl⟩
    refine ⟨_, ?_, by omega, rfl⟩
    intro rc
    rw [← hc, show 2 ^ (M.1 4).toNatClampNeg - n = c + 1 by omega]
    have hle : ¬ nI (2 ^ (M.1 4).toNatClampNeg) ≤ nI c := nI_ge (by omega) (by omega)
    have mw := m_walk h g t x (smF (fun m => wlk (M.1 4 / 2) (M.2.2 6 g.toNatClampNeg) (M.2.2 14 (16 + g).toNatClampNeg) x t (fun k => M.2.2 14 (0 + 4 * g + k).toNatClampNeg) (M.1 4).toNatClampNeg 0 0 0 1 m) c) rc c (by omega) hg (M.1 4).toNatClampNeg zN 0 0 0 1 (by omega) (by unfold zN; omega) (by decide)
    rw [Nat.pow_zero, Nat.div_one] at mw
    simp only [F_X5_chance_48, p2, if_neg hle]
    rw [show nI 0 = 0 from rfl] at mw
    rw [mw, nI_succ]
    simp only [smF]) (2 ^ (M.1 4).toNatClampNeg) (0, 0) zN ⟨Nat.le_refl _, by rw [Nat.sub_self]; rfl⟩ (by unfold zN; omega)
  rw [he, he1, Nat.sub_zero, sw]
  have hle : nI (2 ^ (M.1 4).toNatClampNeg) ≤ nI (2 ^ (M.1 4).toNatClampNeg) := Int32.le_refl _
  simp only [F_X5_chance_48, p2, if_pos hle, p1, Option.bind_some]
  rw [m_frac A (10 ^ (M.1 4).toNatClampNeg) u (by omega) (Nat.pow_pos (by decide)) (by omega)]
  rfl
theorem c_chance (a b c d : Int32) (S M : zS) (h : Rel S M) : AnsR S (f_X4_chance a b c d S) (f_X5_chance a b c d M) := by
  have hR : Rel S (upd M.1 0 0, M.2) := h
  obtain ⟨t1, t2, t3, t4, t5, t6, t7, t8, t9, t10, t11⟩ := h.2.1
  have hN : (M.1 4).toNatClampNeg < 7 := toN_lt (n := 7) 7 rfl (by decide) (Int32.lt_of_le_of_lt t3 (by decide)) (by decide)
  unfold f_X4_chance f_X5_chance
  rw [zl, x_hasLegger, Option.bind_some, zj, m_noLegger a (upd M.1 0 0, M.2) t5, Option.bind_some, t4, m_in' b 0 60 0 60 rfl rfl, Option.bind_some, zj, m_in' c 0 10 0 10 rfl rfl, Option.bind_some]
  rw [show (upd M.1 0 0, M.2).1 5 = M.1 5 from rfl]
  by_cases e : 0 ≤ a ∧ a < M.1 5
  · rw [if_pos e, if_pos e, if_neg (show ¬ (1 : Int32) = 0 by decide), if_pos rfl]
    by_cases f : 0 ≤ b ∧ b ≤ 60
    · rw [if_neg (Int32.not_lt.mpr f.1), if_neg (Int32.not_lt.mpr f.2), if_pos f, if_neg (show ¬ (1 : Int32) = 0 by decide)]
      by_cases g : 0 ≤ c ∧ c ≤ 10
      · rw [if_neg (Int32.not_lt.mpr g.1), if_pos g.2, if_pos g, if_neg (show ¬ (1 : Int32) = 0 by decide)]
        obtain ⟨A, hA, hA2⟩ := cw_b (half := M.1 4 / 2) (kd := M.2.2 6 a.toNatClampNeg) (ti := M.2.2 14 (16 + a).toNatClampNeg) (r := fun k => M.2.2 14 (0 + 4 * a + k).toNatClampNeg) g (M.1 4).toNatClampNeg 0 0 b
        have p3 := (pw10 _ hN).2.2.1
        have q1 := x_chanceLoop hR a b c d e f A hA2 (by omega)
        have q2 := m_chanceLoop hR a b c d e g f A hA2 (by omega)
        exact ansR q1 q2 rfl hR
      · rw [if_neg g, if_pos rfl]
        by_cases g0 : c < 0
        · rw [if_pos g0]; exact ansR rfl rfl rfl hR
        · rw [if_neg g0, if_neg (fun z => g ⟨Int32.not_lt.mp g0, z⟩)]; exact ansR rfl rfl rfl hR
    · rw [if_neg f, if_pos rfl]
      by_cases g0 : b < 0
      · rw [if_pos g0]; exact ansR rfl rfl rfl hR
      · rw [if_neg g0, if_pos (Int32.not_le.mp (fun z => f ⟨Int32.not_lt.mp g0, z⟩))]; exact ansR rfl rfl rfl hR
  · rw [if_neg e, if_neg e, if_pos rfl, if_neg (show ¬ (1 : Int32) = 0 by decide)]
    exact ansR rfl rfl rfl hR
