/-! ===== minutes: what steps, one alone, a pair take ===== -/
theorem and3 (x : Int32) : 0 ≤ x &&& 3 ∧ x &&& 3 < 4 := by
  have h : (x &&& 3).toBitVec.toNat ≤ 3 := by
    rw [Int32.toBitVec_and, BitVec.toNat_and]
    exact Nat.and_le_right
  have e : (x &&& 3).toInt = ((x &&& 3).toBitVec.toNat : Int) := by
    show (x &&& 3).toBitVec.toInt = _
    exact BitVec.toInt_eq_toNat_of_lt (by omega)
  have e3 : (4 : Int32).toInt = 4 := rfl
  have e4 : (0 : Int32).toInt = 0 := rfl
  exact ⟨Int32.le_iff_toInt_le.mpr (by omega), Int32.lt_iff_toInt_lt.mpr (by omega)⟩
def gr (w g k : Int32) : Int32 := zushr (zushr w (8 * g)) (2 * k) &&& 3
def td (w g : Int32) : Int32 := zushr w (2 * g) &&& 3
def sStp (half kd g i t : Int32) : Int32 :=
  (if kd = 1 then sMin g + 1 else if kd = 2 then (if sMin g ≤ 1 then sMin g else sMin g - 1) else if kd = 3 then (if i = half then sMin g + 2 else sMin g) else sMin g) + t
theorem sMin_b (g : Int32) : 1 ≤ sMin g ∧ sMin g ≤ 3 := by unfold sMin; grind
theorem sStp_b {half kd g i t : Int32} (ht : 0 ≤ t ∧ t < 4) : 1 ≤ sStp half kd g i t ∧ sStp half kd g i t ≤ 8 := by
  have := sMin_b g
  unfold sStp
  generalize sMin g = m at *
  split
  · grind
  · split
    · split <;> grind
    · split
      · split <;> grind
      · grind
theorem sNext_b {a g : Int32} (h : 0 ≤ a ∧ a < 4) : 0 ≤ sNext a g ∧ sNext a g < 4 := by
  unfold sNext
  rcases i4 h.1 h.2 with rfl | rfl | rfl | rfl <;> split <;> decide
def sMax (a b : Int32) : Int32 := if a < b then b else a
/-- what a pair's steps take: n are left, the next is i, from places a and b on -/
def sTim (half k1 k2 t1 t2 : Int32) (r1 r2 : Int32 → Int32) : Nat → Int32 → Int32 → Int32 → Int32
  | 0, _, _, _ => 0
  | n + 1, i, a, b => (sMax (sStp half k1 (r1 a) i t1) (sStp half k2 (r2 b) i t2) + (if r1 a = r2 b then 0 else 1)) + sTim half k1 k2 t1 t2 r1 r2 n (i + 1) (sNext a (r1 a)) (sNext b (r2 b))
theorem sTim_b {half k1 k2 t1 t2 : Int32} {r1 r2 : Int32 → Int32} (h1 : 0 ≤ t1 ∧ t1 < 4) (h2 : 0 ≤ t2 ∧ t2 < 4) : ∀ n : Nat, n ≤ 6 → ∀ i a b, 0 ≤ sTim half k1 k2 t1 t2 r1 r2 n i a b ∧ sTim half k1 k2 t1 t2 r1 r2 n i a b ≤ 9 * Int32.ofNat n := by
  intro n
  induction n with
  | zero => intro _ i a b; simp only [sTim]; decide
  | succ n ih =>
    intro hn i a b
    have hi := ih (by omega) (i + 1) (sNext a (r1 a)) (sNext b (r2 b))
    have hb := ofN_b (n := n) (by omega)
    have hb6 : Int32.ofNat n ≤ 5 := by
      have e : (Int32.ofNat n).toInt = (n : Int) := Int32.toInt_ofNat_of_lt (by omega)
      have e2 : (5 : Int32).toInt = 5 := rfl
      exact Int32.le_iff_toInt_le.mpr (by omega)
    have hs1 := sStp_b (half := half) (kd := k1) (g := r1 a) (i := i) h1
    have hs2 := sStp_b (half := half) (kd := k2) (g := r2 b) (i := i) h2
    rw [ofN_s]
    simp only [sTim, sMax]
    generalize sTim half k1 k2 t1 t2 r1 r2 n (i + 1) (sNext a (r1 a)) (sNext b (r2 b)) = T at *
    generalize sStp half k1 (r1 a) i t1 = u at *
    generalize sStp half k2 (r2 b) i t2 = v at *
    grind
theorem x_stepMinutes (g k i w : Int32) (S : zS) (hk : 0 ≤ k ∧ k < 4) : f_X4_stepMinutes g k i w S = some (sStp (S.1 10 / 2) (zushr (S.1 13) (2 * g) &&& 3) k i (td w g)) := by
  simp only [f_X4_stepMinutes, x_minutesOver, x_kindOf, x_timesTired, Option.bind_some, zl, zj, sStp, td]
  have hm := sMin_b k
  have h3 := and3 (zushr (S.1 13) (2 * g))
  generalize zushr (S.1 13) (2 * g) &&& 3 = kd at *
  generalize sMin k = mm at *
  generalize zushr w (2 * g) &&& 3 = t at *
  by_cases k1 : kd = 1
  · simp only [if_pos k1]
  · by_cases k2 : kd = 2
    · have e : (if 1 < mm - 1 then mm - 1 else 1) = (if mm ≤ 1 then mm else mm - 1) := by
        clear k1 k2 h3
        rcases (by grind : mm = 1 ∨ mm = 2 ∨ mm = 3) with rfl | rfl | rfl <;> decide
      simp only [if_neg k1, if_pos k2]; rw [e]
    · by_cases k3 : kd = 3
      · simp only [if_neg k1, if_neg k2, if_pos k3]; split <;> simp
      · simp only [if_neg k1, if_neg k2, if_neg k3]
theorem m_takes (kk : Nat) (g i a : Int32) (M : zS) (hg : 0 ≤ g ∧ g < 4) (ha : 0 ≤ a ∧ a < 4) : f_X5_takes kk g i a M = some (sStp (M.1 4 / 2) (M.2.2 6 g.toNatClampNeg) (M.2.2 kk (0 + 4 * g + a).toNatClampNeg) i (M.2.2 kk (16 + g).toNatClampNeg)) := by
  obtain ⟨hg0, hg1⟩ := hg
  obtain ⟨ha0, ha1⟩ := ha
  have e1 : 0 ≤ 0 + 4 * g + a := by grind
  have e2 : 0 + 4 * g + a < 22 := by grind
  have e3 : 0 ≤ 16 + g := by grind
  have e4 : 16 + g < 22 := by grind
  simp only [f_X5_takes, gdz22 e1 e2, gdz22 e3 e4, gdz4 hg0 hg1, m_minutes, Option.bind_some, zl, zj, sStp]
  generalize M.2.2 6 g.toNatClampNeg = kd at *
  generalize sMin (M.2.2 kk (0 + 4 * g + a).toNatClampNeg) = mm at *
  generalize M.2.2 kk (16 + g).toNatClampNeg = t at *
  by_cases k1 : kd = 1
  · have k2 : ¬ kd = 2 := by grind
    have k3 : ¬ kd = 3 := by grind
    simp only [if_pos k1, if_neg k2, if_neg k3]; simp
  · by_cases k2 : kd = 2
    · have k3 : ¬ kd = 3 := by grind
      simp only [if_neg k1, if_pos k2, if_neg k3]; simp only [Int32.add_zero]
      split <;> simp
    · by_cases k3 : kd = 3
      · simp only [if_neg k1, if_neg k2, if_pos k3]; simp only [Int32.add_zero, Int32.sub_zero]; split <;> simp
      · simp only [if_neg k1, if_neg k2, if_neg k3]; simp
theorem x_pairMinutes (g k p q w : Int32) (S : zS) (r1 r2 : Int32 → Int32) (h1 : ∀ a, 0 ≤ a → a < 4 → gr (S.1 15) g a = r1 a) (h2 : ∀ a, 0 ≤ a → a < 4 → gr (S.1 15) k a = r2 a) (hs : 0 ≤ S.1 10 ∧ S.1 10 ≤ 6) (hp : 0 ≤ p ∧ p < 4) (hq : 0 ≤ q ∧ q < 4) :
    f_X4_pairMinutes g k p q w S = some (sTim (S.1 10 / 2) (zushr (S.1 13) (2 * g) &&& 3) (zushr (S.1 13) (2 * k) &&& 3) (td w g) (td w k) r1 r2 (S.1 10).toNatClampNeg 0 p q) := by
  have hN : (S.1 10).toNatClampNeg ≤ 6 := by
    have := toN_lt (i := S.1 10) (n := 7) 7 rfl (by decide) (by grind) (by decide); omega
  have hN2 := ofN_toN hs.1
  generalize hT : sTim (S.1 10 / 2) (zushr (S.1 13) (2 * g) &&& 3) (zushr (S.1 13) (2 * k) &&& 3) (td w g) (td w k) r1 r2 (S.1 10).toNatClampNeg 0 p q = T
  obtain ⟨⟨s, a, b, i⟩, fu, ⟨e1, -, -, -, -, e6⟩, he⟩ := zfix_run (F := F_X4_pairMinutes_13 S g k w)
    (fun n e => S.1 10 = e.2.2.2 + Int32.ofNat n ∧ n ≤ 6 ∧ 0 ≤ e.2.2.2 ∧ (0 ≤ e.2.1 ∧ e.2.1 < 4) ∧ (0 ≤ e.2.2.1 ∧ e.2.2.1 < 4) ∧ e.1 + sTim (S.1 10 / 2) (zushr (S.1 13) (2 * g) &&& 3) (zushr (S.1 13) (2 * k) &&& 3) (td w g) (td w k) r1 r2 n e.2.2.2 e.2.1 e.2.2.1 = T)
    (by
      intro n e h
      obtain ⟨s, a, b, i⟩ := e
      obtain ⟨e1, e2, e3, e4, e5, e6⟩ := h
      dsimp only at e1 e3 e4 e5 e6
      rw [ofN_s] at e1
      have hb := ofN_b (n := n) (by omega)
      have hlt : ¬ S.1 10 ≤ i := by grind
      have q1 := h1 a e4.1 e4.2
      have q2 := h2 b e5.1 e5.2
      unfold gr at q1 q2
      refine ⟨(s + (sMax (sStp (S.1 10 / 2) (zushr (S.1 13) (2 * g) &&& 3) (r1 a) i (td w g)) (sStp (S.1 10 / 2) (zushr (S.1 13) (2 * k) &&& 3) (r2 b) i (td w k)) + (if r1 a = r2 b then 0 else 1)), sNext a (r1 a), sNext b (r2 b), i + 1), ?_, by grind, by omega, by grind, sNext_b e4, sNext_b e5, ?_⟩
      · intro rc
        have b1 : 0 ≤ r1 a ∧ r1 a < 4 := by rw [← q1]; exact and3 _
        have b2 : 0 ≤ r2 b ∧ r2 b < 4 := by rw [← q2]; exact and3 _
        simp only [F_X4_pairMinutes_13, if_neg hlt, x_groundAt, q1, q2, Option.bind_some, x_stepMinutes _ _ _ _ _ b1, x_stepMinutes _ _ _ _ _ b2, zl, zj, x_placeBehind, sMax]
        split <;> simp only [Int32.add_assoc]
      · dsimp only
        rw [← e6]
        simp only [sTim, Int32.add_assoc])
    (S.1 10).toNatClampNeg (0, p, q, 0) zN ⟨by rw [hN2]; simp, hN, by show (0 : Int32) ≤ 0; decide, hp, hq, by dsimp only; rw [hT]; simp⟩ (by unfold zN; omega)
  dsimp only at e1 e6
  unfold f_X4_pairMinutes
  rw [he]
  have : S.1 10 ≤ i := by
    have : Int32.ofNat 0 = 0 := rfl
    grind
  simp only [F_X4_pairMinutes_13, if_pos this]
  simp only [sTim] at e6
  rw [← e6]; simp
theorem m_timeOf (kk : Nat) (g k p q : Int32) (M : zS) (hg : 0 ≤ g ∧ g < 4) (hk : 0 ≤ k ∧ k < 4) (hs : 0 ≤ M.1 4 ∧ M.1 4 ≤ 6) (hp : 0 ≤ p ∧ p < 4) (hq : 0 ≤ q ∧ q < 4) :
    f_X5_timeOf kk g k p q M = some (sTim (M.1 4 / 2) (M.2.2 6 g.toNatClampNeg) (M.2.2 6 k.toNatClampNeg) (M.2.2 kk (16 + g).toNatClampNeg) (M.2.2 kk (16 + k).toNatClampNeg) (fun a => M.2.2 kk (0 + 4 * g + a).toNatClampNeg) (fun a => M.2.2 kk (0 + 4 * k + a).toNatClampNeg) (M.1 4).toNatClampNeg 0 p q) := by
  have hN : (M.1 4).toNatClampNeg ≤ 6 := by
    have := toN_lt (i := M.1 4) (n := 7) 7 rfl (by decide) (by grind) (by decide); omega
  have hN2 := ofN_toN hs.1
  generalize hr1 : (fun a : Int32 => M.2.2 kk (0 + 4 * g + a).toNatClampNeg) = r1
  generalize hr2 : (fun a : Int32 => M.2.2 kk (0 + 4 * k + a).toNatClampNeg) = r2
  have hr1 : ∀ a : Int32, M.2.2 kk (0 + 4 * g + a).toNatClampNeg = r1 a := fun a => by rw [← hr1]
  have hr2 : ∀ a : Int32, M.2.2 kk (0 + 4 * k + a).toNatClampNeg = r2 a := fun a => by rw [← hr2]
  generalize hT : sTim (M.1 4 / 2) (M.2.2 6 g.toNatClampNeg) (M.2.2 6 k.toNatClampNeg) (M.2.2 kk (16 + g).toNatClampNeg) (M.2.2 kk (16 + k).toNatClampNeg) r1 r2 (M.1 4).toNatClampNeg 0 p q = T
  obtain ⟨⟨a, b, s, i⟩, fu, ⟨e1, -, -, -, -, e6⟩, he⟩ := zfix_run (F := F_X5_timeOf_14 M kk g k)
    (fun n e => M.1 4 = e.2.2.2 + Int32.ofNat n ∧ n ≤ 6 ∧ 0 ≤ e.2.2.2 ∧ (0 ≤ e.1 ∧ e.1 < 4) ∧ (0 ≤ e.2.1 ∧ e.2.1 < 4) ∧ e.2.2.1 + sTim (M.1 4 / 2) (M.2.2 6 g.toNatClampNeg) (M.2.2 6 k.toNatClampNeg) (M.2.2 kk (16 + g).toNatClampNeg) (M.2.2 kk (16 + k).toNatClampNeg) r1 r2 n e.2.2.2 e.1 e.2.1 = T)
    (by
      intro n e h
      obtain ⟨a, b, s, i⟩ := e
      obtain ⟨e1, e2, e3, e4, e5, e6⟩ := h
      dsimp only at e1 e3 e4 e5 e6
      rw [ofN_s] at e1
      have hb := ofN_b (n := n) (by omega)
      have hlt : ¬ M.1 4 ≤ i := by grind
      refine ⟨(sNext a (r1 a), sNext b (r2 b), s + (sMax (sStp (M.1 4 / 2) (M.2.2 6 g.toNatClampNeg) (r1 a) i (M.2.2 kk (16 + g).toNatClampNeg)) (sStp (M.1 4 / 2) (M.2.2 6 k.toNatClampNeg) (r2 b) i (M.2.2 kk (16 + k).toNatClampNeg)) + (if r1 a = r2 b then 0 else 1)), i + 1), ?_, by grind, by omega, by grind, sNext_b e4, sNext_b e5, ?_⟩
      · intro rc
        have c1 : 0 ≤ 0 + 4 * g + a := by grind
        have c2 : 0 + 4 * g + a < 22 := by grind
        have c3 : 0 ≤ 0 + 4 * k + b := by grind
        have c4 : 0 + 4 * k + b < 22 := by grind
        simp only [F_X5_timeOf_14, if_neg hlt, m_takes _ _ _ _ _ hg e4, m_takes _ _ _ _ _ hk e5, Option.bind_some, gdz22 c1 c2, gdz22 c3 c4, hr1, hr2, zl, zj, m_next, sMax]
        generalize sStp (M.1 4 / 2) (M.2.2 6 g.toNatClampNeg) (r1 a) i (M.2.2 kk (16 + g).toNatClampNeg) = u
        generalize sStp (M.1 4 / 2) (M.2.2 6 k.toNatClampNeg) (r2 b) i (M.2.2 kk (16 + k).toNatClampNeg) = v
        have e7 : (if u ≤ v then v else u) = (if u < v then v else u) := by grind
        rw [← e7]
        split <;> split <;> rfl
      · dsimp only
        rw [← e6]
        simp only [sTim, Int32.add_assoc])
    (M.1 4).toNatClampNeg (p, q, 0, 0) zN ⟨by rw [hN2]; simp, hN, by show (0 : Int32) ≤ 0; decide, hp, hq, by dsimp only; rw [hT]; simp⟩ (by unfold zN; omega)
  dsimp only at e1 e6
  unfold f_X5_timeOf
  rw [he]
  have : M.1 4 ≤ i := by
    have : Int32.ofNat 0 = 0 := rfl
    grind
  simp only [F_X5_timeOf_14, if_pos this]
  simp only [sTim] at e6
  rw [← e6]; simp
