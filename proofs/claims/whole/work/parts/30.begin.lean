/-! ===== begin ===== -/
def cG (tm : Int32 → Int32 → Int32) (L p q : Int32) : Int32 := if tm p q * 100 + 10 * p + q < L then tm p q * 100 + 10 * p + q else L
def mG (tm : Int32 → Int32 → Int32) (ld : Int32) (a : Int32 × Int32) (p q : Int32) : Int32 × Int32 := if a.1 = -9 then (10 * p + q, tm p q + ld) else if a.2 ≤ tm p q + ld then a else (10 * p + q, tm p q + ld)
def cGf (tm : Int32 → Int32 → Int32) : Nat → Int32
  | 0 => 100000
  | c + 1 => cG tm (cGf tm c) (Int32.ofNat (c / 4)) (Int32.ofNat (c % 4))
def mGf (tm : Int32 → Int32 → Int32) (ld : Int32) : Nat → Int32 × Int32
  | 0 => (-9, -9)
  | c + 1 => mG tm ld (mGf tm ld c) (Int32.ofNat (c / 4)) (Int32.ofNat (c % 4))
theorem x_leastBegin (g k : Int32) (S : zS) (tm : Int32 → Int32 → Int32) (ht : ∀ p q, 0 ≤ p → p < 4 → 0 ≤ q → q < 4 → f_X4_pairMinutes g k p q (S.1 16) S = some (tm p q)) : f_X4_leastBegin g k S = some (cGf tm 16) := by
  have hi : ∀ rc rc2 L p q, 0 ≤ p → p < 4 → 0 ≤ q → q < 4 → F_X4_leastBegin_16 rc p g k S rc2 (L, q) = rc2 (cG tm L p q, q + 1) := by
    intro rc rc2 L p q p0 p1 q0 q1
    simp only [F_X4_leastBegin_16, if_neg (Int32.not_le.mpr q1), ht p q p0 p1 q0 q1, Option.bind_some, zl, cG]
  have hx : ∀ rc rc2 L p, F_X4_leastBegin_16 rc p g k S rc2 (L, 4) = rc (L, p + 1) := by
    intro rc rc2 L p
    simp only [F_X4_leastBegin_16, show (4 : Int32) ≤ 4 by decide, if_true]
  have inner : ∀ rc L p, 0 ≤ p → p < 4 → zfix (F_X4_leastBegin_16 rc p g k S) zN (L, 0) = rc (cG tm (cG tm (cG tm (cG tm L p 0) p 1) p 2) p 3, p + 1) := by
    intro rc L p p0 p1
    rw [zN_5, zfix_s, hi _ _ _ _ _ p0 p1 (by decide) (by decide), zfix_s, show (0 : Int32) + 1 = 1 by decide, hi _ _ _ _ _ p0 p1 (by decide) (by decide), zfix_s, show (1 : Int32) + 1 = 2 by decide, hi _ _ _ _ _ p0 p1 (by decide) (by decide), zfix_s, show (2 : Int32) + 1 = 3 by decide, hi _ _ _ _ _ p0 p1 (by decide) (by decide), zfix_s, show (3 : Int32) + 1 = 4 by decide, hx]
  have ho : ∀ rc L p, 0 ≤ p → p < 4 → F_X4_leastBegin_7 g k S rc (L, p) = rc (cG tm (cG tm (cG tm (cG tm L p 0) p 1) p 2) p 3, p + 1) := by
    intro rc L p p0 p1
    simp only [F_X4_leastBegin_7, if_neg (Int32.not_le.mpr p1), inner _ _ _ p0 p1]
  have hox : ∀ rc L, F_X4_leastBegin_7 g k S rc (L, 4) = some L := by
    intro rc L
    simp only [F_X4_leastBegin_7, show (4 : Int32) ≤ 4 by decide, if_true]
  unfold f_X4_leastBegin
  rw [zN_5, zfix_s, ho _ _ _ (by decide) (by decide), zfix_s, show (0 : Int32) + 1 = 1 by decide, ho _ _ _ (by decide) (by decide), zfix_s, show (1 : Int32) + 1 = 2 by decide, ho _ _ _ (by decide) (by decide), zfix_s, show (2 : Int32) + 1 = 3 by decide, ho _ _ _ (by decide) (by decide), zfix_s, show (3 : Int32) + 1 = 4 by decide, hox]
  rfl
theorem upd_27 (f : Nat → Int32) (a b c d : Int32) : upd (upd (upd (upd f 27 a) 28 b) 27 c) 28 d = upd (upd f 27 c) 28 d := by
  funext j; simp only [upd_apply]; split
  · rfl
  · split <;> rfl
theorem k16 : ∀ c : Nat, c < 16 → Int32.ofNat c / 4 = Int32.ofNat (c / 4) ∧ zrem (Int32.ofNat c) 4 = Int32.ofNat (c % 4) ∧ ¬ (16 : Int32) ≤ Int32.ofNat c := by decide +kernel
theorem m_findBegin (b g k : Int32) (M : zS) (tm : Int32 → Int32 → Int32) (hb : 0 ≤ b ∧ b < 3) (ht : ∀ p q, 0 ≤ p → p < 4 → 0 ≤ q → q < 4 → ∀ u v, f_X5_timeOf 14 g k p q (upd (upd M.1 27 u) 28 v, M.2) = some (tm p q)) :
    f_X5_findBegin b g k M = some (upd (upd M.1 27 (mGf tm (M.2.2 8 b.toNatClampNeg) 16).1) 28 (mGf tm (M.2.2 8 b.toNatClampNeg) 16).2, M.2) := by
  unfold f_X5_findBegin
  simp only [zl]
  obtain ⟨e', fu, ⟨-, he1⟩, he⟩ := zfix_run (F := F_X5_findBegin_15 g k b) (fun n e => n ≤ 16 ∧ e = (Int32.ofNat (16 - n), (upd (upd M.1 27 (mGf tm (M.2.2 8 b.toNatClampNeg) (16 - n)).1) 28 (mGf tm (M.2.2 8 b.toNatClampNeg) (16 - n)).2, M.2))) (by
    rintro n e ⟨h1, rfl⟩
    obtain ⟨c, hc⟩ : ∃ c, c = 16 - (n + 1) := ⟨_, rfl⟩
    obtain ⟨k1, k2, k3⟩ := k16 c (by omega)
    have p1 := ofN_lt (i := c / 4) (n := 4) (by omega) (by decide)
    have q1 := ofN_lt (i := c % 4) (n := 4) (by omega) (by decide)
    refine ⟨_, ?_, by omega, rfl⟩
    intro rc
    rw [← hc, show 16 - n = c + 1 by omega, ofN_s]
    simp only [F_X5_findBegin_15, if_neg k3, k1, k2, ht _ _ p1.1 p1.2 q1.1 q1.2, Option.bind_some, gdz3 hb.1 hb.2, zl, zj, mGf, mG, upd_27, show upd (upd M.1 27 (mGf tm (M.2.2 8 b.toNatClampNeg) c).1) 28 (mGf tm (M.2.2 8 b.toNatClampNeg) c).2 27 = (mGf tm (M.2.2 8 b.toNatClampNeg) c).1 from rfl, show upd (upd M.1 27 (mGf tm (M.2.2 8 b.toNatClampNeg) c).1) 28 (mGf tm (M.2.2 8 b.toNatClampNeg) c).2 28 = (mGf tm (M.2.2 8 b.toNatClampNeg) c).2 from rfl]
    split
    · rfl
    · split <;> rfl) 16 (0, (upd (upd M.1 27 (-9)) 28 (-9), M.2)) zN ⟨by decide, rfl⟩ (by unfold zN; decide)
  rw [he, he1]
  simp only [F_X5_findBegin_15, show (16 : Int32) ≤ Int32.ofNat (16 - 0) by decide, if_true]
theorem begin_rel (tm : Int32 → Int32 → Int32) (ld : Int32) (l : Nat) (hl : ld = nI l) (hl2 : l ≤ 9) (ht : ∀ p q, 0 ≤ p → p < 4 → 0 ≤ q → q < 4 → 0 ≤ tm p q ∧ tm p q ≤ 54) :
    ∃ T B : Nat, T ≤ 54 ∧ B < 60 ∧ cGf tm 16 = nI (T * 100 + B) ∧ (mGf tm ld 16).1 = nI B ∧ (mGf tm ld 16).2 = nI (T + l) := by
  have main : ∀ c, c ≤ 16 → (c = 0 ∧ cGf tm c = 100000 ∧ mGf tm ld c = (-9, -9)) ∨ (∃ T B : Nat, T ≤ 54 ∧ B < 60 ∧ (∀ d, c ≤ d → B < 10 * (d / 4) + d % 4) ∧ cGf tm c = nI (T * 100 + B) ∧ (mGf tm ld c).1 = nI B ∧ (mGf tm ld c).2 = nI (T + l)) := by
    intro c
    induction c with
    | zero => intro _; exact Or.inl ⟨rfl, rfl, rfl⟩
    | succ c ih =>
      intro hc
      right
      have p1 := ofN_lt (i := c / 4) (n := 4) (by omega) (by decide)
      have q1 := ofN_lt (i := c % 4) (n := 4) (by omega) (by decide)
      obtain ⟨u0, u1⟩ := ht _ _ p1.1 p1.2 q1.1 q1.2
      obtain ⟨U, hU, hU2⟩ := exN (n := 54) 54 rfl (by decide) u0 u1
      have c10 : (10 : Int32) = nI 10 := rfl
      have c100 : (100 : Int32) = nI 100 := rfl
      have f1 : Int32.ofNat (c / 4) = nI (c / 4) := rfl
      have f2 : Int32.ofNat (c % 4) = nI (c % 4) := rfl
      have e1 : tm (Int32.ofNat (c / 4)) (Int32.ofNat (c % 4)) * 100 + 10 * Int32.ofNat (c / 4) + Int32.ofNat (c % 4) = nI (U * 100 + (10 * (c / 4) + c % 4)) := by
        rw [hU2, c10, c100, f1, f2, pk_mul, pk_mul, nI_add, nI_add, Nat.add_assoc]
      have e2 : (10 : Int32) * Int32.ofNat (c / 4) + Int32.ofNat (c % 4) = nI (10 * (c / 4) + c % 4) := by rw [c10, f1, f2, pk_mul, nI_add]
      have e3 : tm (Int32.ofNat (c / 4)) (Int32.ofNat (c % 4)) + ld = nI (U + l) := by rw [hU2, hl, nI_add]
      simp only [cGf, mGf, cG, mG, e1, e2, e3]
      rcases ih (by omega) with ⟨h0, h1, h2⟩ | ⟨T, B, h1, h2, h3, h4, h5, h6⟩
      · rw [h1, h2, if_pos rfl]
        have : nI (U * 100 + (10 * (c / 4) + c % 4)) < 100000 := by
          have : (100000 : Int32) = nI 100000 := rfl
          rw [this]; exact nI_lt (by omega) (by omega)
        rw [if_pos this]
        exact ⟨U, 10 * (c / 4) + c % 4, hU, by omega, by intro d hd; omega, rfl, rfl, rfl⟩
      · have n1 : ¬ (mGf tm ld c).1 = -9 := by
          rw [h5]
          intro h
          have : (0 : Int32) ≤ nI B := nI_pos' (by omega)
          rw [h] at this
          exact absurd this (by decide)
        rw [if_neg n1, h4, h6]
        have h3c := h3 c (Nat.le_refl _)
        by_cases z : T + l ≤ U + l
        · rw [if_pos (nI_le z (by omega)), if_neg (nI_nlt (by omega) (by omega))]
          exact ⟨T, B, h1, h2, fun d hd => h3 d (by omega), rfl, h5, h6⟩
        · rw [if_neg (nI_ge (by omega) (by omega)), if_pos (nI_lt (by omega) (by omega))]
          exact ⟨U, 10 * (c / 4) + c % 4, hU, by omega, by intro d hd; omega, rfl, rfl, rfl⟩
  rcases main 16 (Nat.le_refl _) with ⟨h, -⟩ | ⟨T, B, h1, h2, h3, h4, h5, h6⟩
  · omega
  · exact ⟨T, B, h1, h2, h4, h5, h6⟩
theorem nI_dm {T B : Nat} (hT : T ≤ 54) (hB : B < 60) : zrem (nI (T * 100 + B)) 100 = nI B ∧ nI (T * 100 + B) / 100 = nI T := by
  have h := dm100 T (by omega) B hB
  have e : Int32.ofNat T * 100 + Int32.ofNat B = nI (T * 100 + B) := by
    show nI T * nI 100 + nI B = _
    rw [pk_mul, nI_add]
  rw [e] at h
  exact h
theorem i2 {x : Int32} (h : 0 ≤ x ∧ x ≤ 1) (h0 : ¬ x = 0) : x = 1 := by grind
theorem i2n {x : Int32} (h : ¬ (0 ≤ x ∧ x ≤ 1)) : ¬ x = 0 ∧ ¬ x = 1 := by
  constructor
  · rintro rfl; exact h (by decide)
  · rintro rfl; exact h (by decide)
theorem c_begin (a b c d : Int32) (S M : zS) (h : Rel S M) : AnsR S (f_X4_begin a b c d S) (f_X5_begin a b c d M) := by
  have hR : Rel S (upd M.1 0 0, M.2) := h
  have tn := h.2.1
  have pg := h.2.2.1
  obtain ⟨t1, t2, t3, t4, t5, t6, t7, t8, t9, t10, t11⟩ := h.2.1
  unfold f_X4_begin f_X5_begin
  simp only [zl, zj, x_pairRefusal, m_noPair a b c (upd M.1 0 0, M.2) t5 t8, Option.bind_some, t4, t7, show upd M.1 0 0 7 = M.1 7 from rfl, show upd M.1 0 0 5 = M.1 5 from rfl, m_in' d 0 1 0 1 rfl rfl]
  by_cases r : (0 ≤ a ∧ a < M.1 7) ∧ (0 ≤ b ∧ b < M.1 5) ∧ 0 ≤ c ∧ c < M.1 5
  · simp only [if_pos r]
    by_cases e : b = c
    · simp only [if_pos e, show ¬ (-2 : Int32) = 0 by decide, if_false]
      exact ansR rfl rfl rfl hR
    · simp only [if_neg e, if_true]
      have ha3 : 0 ≤ a ∧ a < 3 := ⟨r.1.1, Int32.lt_of_lt_of_le r.1.2 t9⟩
      obtain ⟨l1, l2, l3⟩ := t11 a r.1.1 r.1.2
      obtain ⟨l, hl, hl2⟩ := exN (n := 9) 9 rfl (by decide) l2 l3
      have e1 := x_leastBegin b c S (fun p q => mT M 14 b c p q) (fun p q p0 p1 q0 q1 => (mT_eq tn (S.1 16) 14 pg.1 r.2.1 r.2.2 ⟨p0, p1⟩ ⟨q0, q1⟩).1)
      have e2 : f_X5_findBegin a b c (upd M.1 0 0, M.2) = some (upd (upd (upd M.1 0 0) 27 (mGf (fun p q => mT M 14 b c p q) (M.2.2 8 a.toNatClampNeg) 16).1) 28 (mGf (fun p q => mT M 14 b c p q) (M.2.2 8 a.toNatClampNeg) 16).2, M.2) :=
        m_findBegin a b c (upd M.1 0 0, M.2) (fun p q => mT M 14 b c p q) ha3 (fun p q p0 p1 q0 q1 u v => by
          have tn3 : rTn S (upd (upd (upd M.1 0 0) 27 u) 28 v, M.2) := tn
          exact (mT_eq tn3 (S.1 16) 14 pg.1 (g := b) (k := c) (p := p) (q := q) r.2.1 r.2.2 ⟨p0, p1⟩ ⟨q0, q1⟩).2.1)
      obtain ⟨T, B, y1, y2, y3, y4, y5⟩ := begin_rel (fun p q => mT M 14 b c p q) (M.2.2 8 a.toNatClampNeg) l hl2 hl (fun p q p0 p1 q0 q1 => (mT_eq tn (S.1 16) 14 pg.1 r.2.1 r.2.2 ⟨p0, p1⟩ ⟨q0, q1⟩).2.2)
      simp only [e1, e2, Option.bind_some, x_loadOf, l1]
      generalize mGf (fun p q => mT M 14 b c p q) (M.2.2 8 a.toNatClampNeg) 16 = A at *
      generalize cGf (fun p q => mT M 14 b c p q) 16 = L at *
      have hR2 : Rel S (upd (upd (upd M.1 0 0) 27 A.1) 28 A.2, M.2) := h
      obtain ⟨z1, z2⟩ := nI_dm y1 y2
      by_cases f : 0 ≤ d ∧ d ≤ 1
      · simp only [if_pos f, show ¬ (1 : Int32) = 0 by decide, if_false, show upd (upd (upd M.1 0 0) 27 A.1) 28 A.2 27 = A.1 from rfl, show upd (upd (upd M.1 0 0) 27 A.1) 28 A.2 28 = A.2 from rfl]
        by_cases d0 : d = 0
        · simp only [if_pos d0]
          exact ansR rfl rfl (by rw [y3, z1, y4]) hR2
        · have d1 : d = 1 := i2 f d0
          simp only [if_neg d0, if_pos d1]
          exact ansR rfl rfl (by rw [y3, z2, y5, hl2, nI_add]) hR2
      · have d0 : ¬ d = 0 := (i2n f).1
        have d1 : ¬ d = 1 := (i2n f).2
        simp only [if_neg f, if_neg d0, if_neg d1, if_true]
        exact ansR rfl rfl rfl hR
  · simp only [if_neg r, show ¬ (-1 : Int32) = 0 by decide, if_false]
    exact ansR rfl rfl rfl hR
