/-! ===== judge; rests ===== -/
theorem pw1000 : ∀ k : Nat, k < 4 → f_X5_power 1000 (Int32.ofNat k) = some (Int32.ofNat (1000 ^ k)) := by decide +kernel
theorem zrem_nI {a d : Nat} (ha : a < 2147483648) (h0 : 0 < d) (hd : d < 2147483648) : zrem (nI a) (nI d) = nI (a % d) := pk_rem ha h0 hd
theorem x_legTold (R : Nat) (hR : R < 2147483648) : ∀ k : Nat, k < 4 → f_X4_legTold (nI R) (nI k) = some (nI (R / 1000 ^ k)) := by
  have c1000 : (1000 : Int32) = nI 1000 := rfl
  have hs : ∀ k i : Nat, i < k → k < 4 → ∀ rc x, F_X4_legTold_4 (nI k) rc (x, nI i) = rc (x / 1000, nI (i + 1)) := by
    intro k i h1 h2 rc x
    simp only [F_X4_legTold_4, if_neg (nI_ge h1 (by omega)), zl]
    rw [nI_1]
  have hx : ∀ k : Nat, k < 4 → ∀ rc x, F_X4_legTold_4 (nI k) rc (x, nI k) = some x := by
    intro k h2 rc x
    simp only [F_X4_legTold_4, if_pos (nI_le (Nat.le_refl k) (by omega))]
  intro k hk
  unfold f_X4_legTold
  rw [zN_5]
  show zfix (F_X4_legTold_4 (nI k)) (5995 + 1 + 1 + 1 + 1 + 1) (nI R, nI 0) = _
  rcases (by omega : k = 0 ∨ k = 1 ∨ k = 2 ∨ k = 3) with rfl | rfl | rfl | rfl
  · rw [zfix_s, hx _ (by decide)]; simp
  · rw [zfix_s, hs _ _ (by decide) (by decide), zfix_s, hx _ (by decide), c1000, pk_div hR (by decide) (by decide)]
  · rw [zfix_s, hs _ _ (by decide) (by decide), zfix_s, hs _ _ (by decide) (by decide), zfix_s, hx _ (by decide), c1000, pk_div hR (by decide) (by decide), pk_div (by omega) (by decide) (by decide), Nat.div_div_eq_div_mul]
  · rw [zfix_s, hs _ _ (by decide) (by decide), zfix_s, hs _ _ (by decide) (by decide), zfix_s, hs _ _ (by decide) (by decide), zfix_s, hx _ (by decide), c1000, pk_div hR (by decide) (by decide), pk_div (by omega) (by decide) (by decide), pk_div (by omega) (by decide) (by decide), Nat.div_div_eq_div_mul, Nat.div_div_eq_div_mul]
theorem judge_loop (S M : zS) (h : Rel S M) (N R : Nat) (hN : N ≤ 3) (hR : R < 2147483648) : ∀ m i th fu fu2, N = i + m → m < fu → m < fu2 → ∃ r, zfix (F_X4_judge_36 (nI N) (nI R) S) fu (th, nI i) = some r ∧ zfix (F_X5_judge_50 (nI N) M (nI R)) fu2 (th, nI i) = some (r, M) := by
  obtain ⟨t1, t2, t3, t4, t5, t6, t7, t8, t9, t10, t11⟩ := h.2.1
  have c1000 : (1000 : Int32) = nI 1000 := rfl
  have c1 : (1 : Int32) = nI 1 := rfl
  intro m
  induction m with
  | zero =>
    intro i th fu fu2 e h1 h2
    obtain ⟨f, rfl⟩ : ∃ f, fu = f + 1 := ⟨fu - 1, by omega⟩
    obtain ⟨f2, rfl⟩ : ∃ f, fu2 = f + 1 := ⟨fu2 - 1, by omega⟩
    have : nI N ≤ nI i := nI_le (by omega) (by omega)
    refine ⟨-9, ?_, ?_⟩
    · rw [zfix_s]; simp only [F_X4_judge_36, if_pos this]
    · rw [zfix_s]; simp only [F_X5_judge_50, if_pos this]
  | succ m ih =>
    intro i th fu fu2 e h1 h2
    obtain ⟨f, rfl⟩ : ∃ f, fu = f + 1 := ⟨fu - 1, by omega⟩
    obtain ⟨f2, rfl⟩ : ∃ f, fu2 = f + 1 := ⟨fu2 - 1, by omega⟩
    have hlt : ¬ nI N ≤ nI i := nI_ge (by omega) (by omega)
    have e1 : nI N - 1 - nI i = nI m := by
      rw [c1, pk_sub (by omega), pk_sub (by omega)]; congr 1; omega
    have e2 := x_legTold R hR m (by omega)
    have e3 : f_X5_power 1000 (nI m) = some (nI (1000 ^ m)) := pw1000 m (by omega)
    have hp : 1000 ^ m < 2147483648 := by
      rcases (by omega : m = 0 ∨ m = 1 ∨ m = 2) with rfl | rfl | rfl <;> decide
    have hp0 : 0 < 1000 ^ m := Nat.pow_pos (by decide)
    have e4 : nI R / nI (1000 ^ m) = nI (R / 1000 ^ m) := pk_div hR hp0 hp
    have hne : ¬ nI (1000 ^ m) = 0 := nI_ne0 hp0 hp
    simp only [zfix_s, F_X4_judge_36, F_X5_judge_50, if_neg hlt, e1, e2, e3, Option.bind_some, gdn hne, e4, zl, zj]
    generalize zrem (nI (R / 1000 ^ m)) 1000 = q
    simp only [x_pairRefusal, m_noPair _ _ _ _ t5 t8, Option.bind_some, t4, t7]
    by_cases c : (0 ≤ q / 100 ∧ q / 100 < M.1 7) ∧ (0 ≤ zrem (q / 10) 10 ∧ zrem (q / 10) 10 < M.1 5) ∧ 0 ≤ zrem q 10 ∧ zrem q 10 < M.1 5
    · simp only [if_pos c]
      by_cases d : zrem (q / 10) 10 = zrem q 10
      · simp only [if_pos d, show ¬ (-2 : Int32) = 0 by decide, if_false]
        exact ⟨_, rfl, rfl⟩
      · have hb : 0 ≤ q / 100 ∧ q / 100 < 4 := ⟨c.1.1, Int32.lt_of_lt_of_le c.1.2 (Int32.le_trans t9 (by decide))⟩
        simp only [if_neg d, if_true, x_isIn' _ _ hb, m_has _ _ hb, Option.bind_some]
        by_cases w : bt th (q / 100).toNatClampNeg = true
        · simp only [w, if_true, eq_self, show ¬ (1 : Int32) = 0 by decide, if_false]
          exact ⟨_, rfl, rfl⟩
        · have w := Bool.eq_false_iff.mpr w
          simp only [w, Bool.false_eq_true, if_false, if_true, nI_1]
          exact ih (i + 1) _ f f2 (by omega) (by omega) (by omega)
    · simp only [if_neg c, show ¬ (-1 : Int32) = 0 by decide, if_false]
      exact ⟨_, rfl, rfl⟩
theorem c_judge (a b : Int32) (S M : zS) (h : Rel S M) : AnsR S (f_X4_judge a b S) (f_X5_judge a b M) := by
  have hR : Rel S (upd M.1 0 0, M.2) := h
  unfold f_X4_judge f_X5_judge
  simp only [zl, zj, m_in' a 1 3 1 3 rfl rfl, Option.bind_some]
  by_cases c : 1 ≤ a ∧ a ≤ 3
  · have c1 : ¬ a < 1 := Int32.not_lt.mpr c.1
    have c2 : ¬ 3 < a := Int32.not_lt.mpr c.2
    obtain ⟨N, hN, rfl⟩ := exN (x := a) (n := 3) 3 rfl (by decide) (Int32.le_trans (by decide) c.1) c.2
    have hN1 : 1 ≤ N := by
      have : nI 1 ≤ nI N := c.1
      exact (nI_leI (by omega) (by omega)).mp this
    have e3 : f_X5_power 1000 (nI N) = some (nI (1000 ^ N)) := pw1000 N (by omega)
    have e5 : nI (1000 ^ N) - 1 = nI (1000 ^ N - 1) := pk_sub (Nat.pow_pos (by decide))
    have hp : 1000 ^ N < 2147483648 := by
      rcases (by omega : N = 1 ∨ N = 2 ∨ N = 3) with rfl | rfl | rfl <;> decide
    have hp0 : 0 < 1000 ^ N := Nat.pow_pos (by decide)
    simp only [if_pos c, if_neg c1, if_neg c2, show ¬ (1 : Int32) = 0 by decide, if_false, e3, Option.bind_some, e5, m_in' b 0 (nI (1000 ^ N - 1)).toInt64 0 (nI (1000 ^ N - 1)) rfl rfl]
    by_cases d : b < 0
    · have d' : ¬ (0 ≤ b ∧ b ≤ nI (1000 ^ N - 1)) := fun q => absurd d (Int32.not_lt.mpr q.1)
      simp only [if_pos d, if_neg d', if_true]
      exact ansR rfl rfl rfl hR
    · obtain ⟨R, hR1, rfl⟩ := nI_of d
      have e2 := x_legTold R (by omega) N (by omega)
      simp only [if_neg d, e2, Option.bind_some]
      by_cases f : R / 1000 ^ N = 0
      · have f1 : nI (R / 1000 ^ N) = 0 := by rw [f]; rfl
        have f2 : R < 1000 ^ N := (Nat.div_eq_zero_iff_lt hp0).mp f
        have f3 : 0 ≤ nI R ∧ nI R ≤ nI (1000 ^ N - 1) := ⟨nI_pos' hR1, nI_le (by omega) (by omega)⟩
        simp only [if_pos f1, if_pos f3, show ¬ (1 : Int32) = 0 by decide, if_false, gdz22 (show (0 : Int32) ≤ 20 by decide) (show (20 : Int32) < 22 by decide), show (20 : Int32).toNatClampNeg = 20 by decide]
        obtain ⟨r, q1, q2⟩ := judge_loop S (upd M.1 0 0, M.2) hR N R hN hR1 N 0 (S.1 17) zN zN (by omega) (by unfold zN; omega) (by unfold zN; omega)
        have e0 : nI 0 = 0 := rfl
        rw [e0] at q1 q2
        rw [h.2.2.1.2.1] at q1 q2
        rw [h.2.2.1.2.1, q1, q2]
        exact ansR rfl rfl rfl hR
      · have f1 : ¬ nI (R / 1000 ^ N) = 0 := nI_ne0 (Nat.pos_of_ne_zero f) (Nat.lt_of_le_of_lt (Nat.div_le_self _ _) hR1)
        have f3 : ¬ (0 ≤ nI R ∧ nI R ≤ nI (1000 ^ N - 1)) := by
          intro q
          have := (nI_leI hR1 (by omega)).mp q.2
          exact f ((Nat.div_eq_zero_iff_lt hp0).mpr (by omega))
        simp only [if_neg f1, if_neg f3, if_true]
        exact ansR rfl rfl rfl hR
  · simp only [if_neg c, if_true]
    by_cases c1 : a < 1
    · simp only [if_pos c1]
      exact ansR rfl rfl rfl hR
    · have c2 : 3 < a := Int32.not_le.mp (fun q => c ⟨Int32.not_lt.mp c1, q⟩)
      simp only [if_neg c1, if_pos c2]
      exact ansR rfl rfl rfl hR
/-! rests -/
def lossI (ld w a : Int32) : Int32 := if w = a then 6 + ld else if w ≤ a then w else ld + w
theorem x_loss (ld w a : Int32) : f_X4_loss ld w a = some (lossI ld w a) := by
  simp only [f_X4_loss, zj, lossI]
  split
  · rfl
  · split <;> rfl
theorem m_loss (w a ld : Int32) : f_X5_loss w a ld = some (lossI ld w a) := by
  simp only [f_X5_loss, zj, lossI]
  split
  · rfl
  · split <;> rfl
def stB (ld w a : Int32) : Bool := decide (lossI ld w a ≤ lossI ld 0 a) && (decide (lossI ld w a ≤ lossI ld 1 a) && (decide (lossI ld w a ≤ lossI ld 2 a) && decide (lossI ld w a ≤ lossI ld 3 a)))
theorem x_stays (ld w a : Int32) : f_X4_staysWith ld w a = some (if stB ld w a then 1 else 0) := by
  have hs : ∀ rc k, k ≤ 3 → F_X4_staysWith_2 ld a w rc k = if lossI ld w a ≤ lossI ld k a then rc (k + 1) else some 0 := by
    intro rc k hk
    simp only [F_X4_staysWith_2, if_neg (Int32.not_lt.mpr hk), x_loss, Option.bind_some]
  have hx : ∀ rc, F_X4_staysWith_2 ld a w rc 4 = some 1 := by
    intro rc
    simp only [F_X4_staysWith_2, show (3 : Int32) < 4 by decide, if_true]
  unfold f_X4_staysWith stB
  rw [zN_5, zfix_s, hs _ _ (by decide), zfix_s, show (0 : Int32) + 1 = 1 by decide, hs _ _ (by decide), zfix_s, show (1 : Int32) + 1 = 2 by decide, hs _ _ (by decide), zfix_s, show (2 : Int32) + 1 = 3 by decide, hs _ _ (by decide), zfix_s, show (3 : Int32) + 1 = 4 by decide, hx]
  by_cases h0 : lossI ld w a ≤ lossI ld 0 a
  · by_cases h1 : lossI ld w a ≤ lossI ld 1 a
    · by_cases h2 : lossI ld w a ≤ lossI ld 2 a
      · by_cases h3 : lossI ld w a ≤ lossI ld 3 a
        · simp [h0, h1, h2, h3]
        · simp [h0, h1, h2, h3]
      · simp [h0, h1, h2]
    · simp [h0, h1]
  · simp [h0]
def rS (l1 l2 : Int32) (p : Int32 × Int32) (w a : Int32) : Int32 × Int32 := if stB l1 w a && stB l2 a w then (p.1 + 1, if p.1 = 0 then 10 * w + a else p.2) else p
def rS4 (l1 l2 : Int32) (p : Int32 × Int32) (w : Int32) : Int32 × Int32 := rS l1 l2 (rS l1 l2 (rS l1 l2 (rS l1 l2 p w 0) w 1) w 2) w 3
def rS16 (l1 l2 : Int32) : Int32 × Int32 := rS4 l1 l2 (rS4 l1 l2 (rS4 l1 l2 (rS4 l1 l2 (0, -9) 0) 1) 2) 3
theorem x_restsLoop (S : zS) (b o c l1 l2 : Int32) (h1 : f_X1_loadOf b S = some l1) (h2 : f_X1_loadOf o S = some l2) : zfix (F_X4_rests_51 c b S o) zN (0, -9, 0) = some (if c = 0 then (rS16 l1 l2).1 else (rS16 l1 l2).2) := by
  have hi : ∀ rc w rc2 (p : Int32 × Int32) a, a ≤ 3 → F_X4_rests_60 rc w b S o rc2 (p.1, p.2, a) = rc2 ((rS l1 l2 p w a).1, (rS l1 l2 p w a).2, a + 1) := by
    intro rc w rc2 p a ha
    simp only [F_X4_rests_60, if_neg (Int32.not_lt.mpr ha), h1, h2, x_stays, Option.bind_some, zj, rS]
    by_cases q1 : stB l1 w a = true
    · by_cases q2 : stB l2 a w = true
      · simp only [q1, q2, eq_self, Bool.and_true, if_true, show ¬ (1 : Int32) = 0 by decide, if_false]
        split <;> rfl
      · have q2 := Bool.eq_false_iff.mpr q2
        simp only [q1, q2, eq_self, Bool.and_false, Bool.false_eq_true, if_true, show ¬ (1 : Int32) = 0 by decide, if_false]
    · have q1 := Bool.eq_false_iff.mpr q1
      simp only [q1, Bool.false_and, Bool.false_eq_true, if_true, if_false]
  have hix : ∀ rc w rc2 (p : Int32 × Int32), F_X4_rests_60 rc w b S o rc2 (p.1, p.2, 4) = rc (p.1, p.2, w + 1) := by
    intro rc w rc2 p
    simp only [F_X4_rests_60, show (3 : Int32) < 4 by decide, if_true]
  have inner : ∀ rc w (p : Int32 × Int32), zfix (F_X4_rests_60 rc w b S o) zN (p.1, p.2, 0) = rc ((rS4 l1 l2 p w).1, (rS4 l1 l2 p w).2, w + 1) := by
    intro rc w p
    rw [zN_5, zfix_s, hi _ _ _ _ _ (by decide), zfix_s, show (0 : Int32) + 1 = 1 by decide, hi _ _ _ _ _ (by decide), zfix_s, show (1 : Int32) + 1 = 2 by decide, hi _ _ _ _ _ (by decide), zfix_s, show (2 : Int32) + 1 = 3 by decide, hi _ _ _ _ _ (by decide), zfix_s, show (3 : Int32) + 1 = 4 by decide, hix]
    rfl
  have ho : ∀ rc (p : Int32 × Int32) w, w ≤ 3 → F_X4_rests_51 c b S o rc (p.1, p.2, w) = rc ((rS4 l1 l2 p w).1, (rS4 l1 l2 p w).2, w + 1) := by
    intro rc p w hw
    simp only [F_X4_rests_51, if_neg (Int32.not_lt.mpr hw), inner]
  have hox : ∀ rc (p : Int32 × Int32), F_X4_rests_51 c b S o rc (p.1, p.2, 4) = some (if c = 0 then p.1 else p.2) := by
    intro rc p
    simp only [F_X4_rests_51, show (3 : Int32) < 4 by decide, if_true, zj]
    split <;> rfl
  have e0 : ((0 : Int32), (-9 : Int32), (0 : Int32)) = (((0, -9) : Int32 × Int32).1, ((0, -9) : Int32 × Int32).2, 0) := rfl
  rw [e0]
  rw [zN_5, zfix_s, ho _ _ _ (by decide), zfix_s, show (0 : Int32) + 1 = 1 by decide, ho _ _ _ (by decide), zfix_s, show (1 : Int32) + 1 = 2 by decide, ho _ _ _ (by decide), zfix_s, show (2 : Int32) + 1 = 3 by decide, ho _ _ _ (by decide), zfix_s, show (3 : Int32) + 1 = 4 by decide, hox]
  rfl
def rSt (M : zS) (p : Int32 × Int32) : zS := (upd (upd M.1 31 p.1) 32 p.2, M.2)
theorem rSt_1 (M : zS) (p : Int32 × Int32) : (rSt M p).1 31 = p.1 := rfl
theorem rSt_2 (M : zS) (p : Int32 × Int32) : (rSt M p).1 32 = p.2 := rfl
theorem rSt_set (M : zS) (p : Int32 × Int32) (x y : Int32) : (upd (upd (rSt M p).1 32 y) 31 x, (rSt M p).2) = rSt M (x, y) := by
  unfold rSt
  refine Prod.ext ?_ rfl
  funext j
  simp only [upd_apply]
  by_cases h : j = 31
  · subst h; simp
  · simp only [if_neg h]
    by_cases h2 : j = 32 <;> simp only [h2, if_true, if_false]
theorem fr_hk (l1 l2 : Int32) (M : zS) : ∀ rc P b a rc2 (is k : Int32), k ≤ 3 → (is = 0 ∨ is = 1) → F_X5_findRests_33 P rc b a l1 l2 rc2 (is, k) = rc2 (if is = 1 ∧ lossI l1 a b ≤ lossI l1 k b ∧ lossI l2 b a ≤ lossI l2 k a then 1 else 0, k + 1) := by
  intro rc P b a rc2 is k hk his
  have hk4 : ¬ 4 ≤ k := Int32.not_le.mpr (Int32.lt_of_le_of_lt hk (by decide))
  simp only [F_X5_findRests_33, if_neg hk4, m_loss, Option.bind_some, zj]
  rcases his with rfl | rfl
  · simp only [if_true, show ¬ (0 : Int32) = 1 by decide, false_and, if_false]
  · simp only [show ¬ (1 : Int32) = 0 by decide, if_false, true_and]
    by_cases q1 : lossI l1 k b < lossI l1 a b
    · rw [if_pos q1, if_neg (fun q => absurd q1 (Int32.not_lt.mpr q.1))]
    · rw [if_neg q1]
      by_cases q2 : lossI l2 k a < lossI l2 b a
      · rw [if_pos q2, if_neg (fun q => absurd q2 (Int32.not_lt.mpr q.2))]
      · rw [if_neg q2, if_pos ⟨Int32.not_lt.mp q1, Int32.not_lt.mp q2⟩]
theorem fr_hkx (l1 l2 : Int32) (M : zS) : ∀ rc p b a rc2 (is : Int32), (is = 0 ∨ is = 1) → F_X5_findRests_33 (rSt M p) rc b a l1 l2 rc2 (is, 4) = rc (b + 1, rSt M (if is = 1 then (p.1 + 1, if p.1 = 0 then 10 * a + b else p.2) else p)) := by
  intro rc p b a rc2 is his
  simp only [F_X5_findRests_33, show (4 : Int32) ≤ 4 by decide, if_true, zj, zl, rSt_1, rSt_2, show ∀ y, upd (rSt M p).1 32 y 31 = p.1 from fun y => rfl, rSt_set]
  rcases his with rfl | rfl
  · simp only [if_true, show ¬ (0 : Int32) = 1 by decide, if_false, Int32.add_zero]
  · simp only [show ¬ (1 : Int32) = 0 by decide, if_false, if_true]
    split <;> rfl
theorem fr_ite01 : ∀ (P : Prop) [Decidable P], ((if P then 1 else 0 : Int32) = 0 ∨ (if P then 1 else 0 : Int32) = 1) ∧ ((if P then 1 else 0 : Int32) = 1 ↔ P) := by
  intro P _
  by_cases h : P <;> simp [h]
theorem fr_hb (l1 l2 : Int32) (M : zS) : ∀ rc a rc2 p b, b ≤ 3 → F_X5_findRests_21 rc a l1 l2 rc2 (b, rSt M p) = rc2 (b + 1, rSt M (rS l1 l2 p a b)) := by
  intro rc a rc2 p b hb
  have hb4 : ¬ 4 ≤ b := Int32.not_le.mpr (Int32.lt_of_le_of_lt hb (by decide))
  simp only [F_X5_findRests_21, if_neg hb4]
  rw [zN_5, zfix_s, fr_hk l1 l2 M _ _ _ _ _ _ _ (by decide) (Or.inr rfl), zfix_s, show (0 : Int32) + 1 = 1 by decide, fr_hk l1 l2 M _ _ _ _ _ _ _ (by decide) (fr_ite01 _).1, zfix_s, show (1 : Int32) + 1 = 2 by decide, fr_hk l1 l2 M _ _ _ _ _ _ _ (by decide) (fr_ite01 _).1, zfix_s, show (2 : Int32) + 1 = 3 by decide, fr_hk l1 l2 M _ _ _ _ _ _ _ (by decide) (fr_ite01 _).1, zfix_s, show (3 : Int32) + 1 = 4 by decide, fr_hkx l1 l2 M _ _ _ _ _ _ (fr_ite01 _).1]
  simp only [(fr_ite01 _).2, rS, stB, Bool.and_eq_true, decide_eq_true_eq]
  by_cases q : (lossI l1 a b ≤ lossI l1 0 b ∧ lossI l1 a b ≤ lossI l1 1 b ∧ lossI l1 a b ≤ lossI l1 2 b ∧ lossI l1 a b ≤ lossI l1 3 b) ∧ lossI l2 b a ≤ lossI l2 0 a ∧ lossI l2 b a ≤ lossI l2 1 a ∧ lossI l2 b a ≤ lossI l2 2 a ∧ lossI l2 b a ≤ lossI l2 3 a
  · rw [if_pos q, if_pos]
    obtain ⟨⟨a1, a2, a3, a4⟩, b1, b2, b3, b4⟩ := q
    exact ⟨⟨⟨⟨trivial, a1, b1⟩, a2, b2⟩, a3, b3⟩, a4, b4⟩
  · rw [if_neg q, if_neg]
    rintro ⟨⟨⟨⟨-, a1, b1⟩, a2, b2⟩, a3, b3⟩, a4, b4⟩
    exact q ⟨⟨a1, a2, a3, a4⟩, b1, b2, b3, b4⟩
theorem fr_hbx (l1 l2 : Int32) (M : zS) : ∀ rc a rc2 p, F_X5_findRests_21 rc a l1 l2 rc2 (4, rSt M p) = rc (a + 1, rSt M p) := by
  intro rc a rc2 p
  simp only [F_X5_findRests_21, show (4 : Int32) ≤ 4 by decide, if_true]
theorem fr_ha (l1 l2 : Int32) (M : zS) : ∀ rc p a, a ≤ 3 → F_X5_findRests_13 l1 l2 rc (a, rSt M p) = rc (a + 1, rSt M (rS4 l1 l2 p a)) := by
  intro rc p a ha
  have ha4 : ¬ 4 ≤ a := Int32.not_le.mpr (Int32.lt_of_le_of_lt ha (by decide))
  simp only [F_X5_findRests_13, if_neg ha4]
  rw [zN_5, zfix_s, fr_hb l1 l2 M _ _ _ _ _ (by decide), zfix_s, show (0 : Int32) + 1 = 1 by decide, fr_hb l1 l2 M _ _ _ _ _ (by decide), zfix_s, show (1 : Int32) + 1 = 2 by decide, fr_hb l1 l2 M _ _ _ _ _ (by decide), zfix_s, show (2 : Int32) + 1 = 3 by decide, fr_hb l1 l2 M _ _ _ _ _ (by decide), zfix_s, show (3 : Int32) + 1 = 4 by decide, fr_hbx l1 l2 M]
  rfl
theorem fr_hax (l1 l2 : Int32) (M : zS) : ∀ rc p, F_X5_findRests_13 l1 l2 rc (4, rSt M p) = some (rSt M p) := by
  intro rc p
  simp only [F_X5_findRests_13, show (4 : Int32) ≤ 4 by decide, if_true]
theorem m_findRests (l1 l2 : Int32) (M : zS) : f_X5_findRests l1 l2 M = some (rSt M (rS16 l1 l2)) := by
  unfold f_X5_findRests
  rw [zl, zl]
  dsimp only
  have e0 : (upd (upd M.1 31 0) 32 (-9), M.2) = rSt M (0, -9) := rfl
  rw [e0]
  rw [zN_5, zfix_s, fr_ha l1 l2 M _ _ _ (by decide), zfix_s, show (0 : Int32) + 1 = 1 by decide, fr_ha l1 l2 M _ _ _ (by decide), zfix_s, show (1 : Int32) + 1 = 2 by decide, fr_ha l1 l2 M _ _ _ (by decide), zfix_s, show (2 : Int32) + 1 = 3 by decide, fr_ha l1 l2 M _ _ _ (by decide), zfix_s, show (3 : Int32) + 1 = 4 by decide, fr_hax l1 l2 M]
  rfl
theorem c_rests (a b c : Int32) (S M : zS) (h : Rel S M) : AnsR S (f_X4_rests a b c S) (f_X5_rests a b c M) := by
  have hR : Rel S (upd M.1 0 0, M.2) := h
  obtain ⟨t1, t2, t3, t4, t5, t6, t7, t8, t9, t10, t11⟩ := h.2.1
  unfold f_X4_rests f_X5_rests
  simp only [zl, zj, x_hasBoat, m_noBoat _ (upd M.1 0 0, M.2) t8, Option.bind_some, t7, show upd M.1 0 0 7 = M.1 7 from rfl, m_in' c 0 1 0 1 rfl rfl]
  by_cases d : 0 ≤ a ∧ a < M.1 7
  · simp only [if_pos d, show ¬ (1 : Int32) = 0 by decide, if_false, if_true]
    by_cases e : 0 ≤ b ∧ b < M.1 7
    · simp only [if_pos e, show ¬ (1 : Int32) = 0 by decide, if_false, if_true]
      by_cases f : a = b
      · simp only [if_pos f]
        exact ansR rfl rfl rfl hR
      · simp only [if_neg f]
        by_cases g : 0 ≤ c ∧ c ≤ 1
        · have l1 := (t11 a d.1 d.2).1
          have l2 := (t11 b e.1 e.2).1
          have q1 := x_restsLoop S a b c _ _ (show f_X1_loadOf a S = some (M.2.2 8 a.toNatClampNeg) by rw [x_loadOf, l1]) (show f_X1_loadOf b S = some (M.2.2 8 b.toNatClampNeg) by rw [x_loadOf, l2])
          have hR2 : Rel S (rSt (upd M.1 0 0, M.2) (rS16 (M.2.2 8 a.toNatClampNeg) (M.2.2 8 b.toNatClampNeg))) := h
          simp only [if_pos g, show ¬ (1 : Int32) = 0 by decide, if_false, gdz3 d.1 (Int32.lt_of_lt_of_le d.2 t9), gdz3 e.1 (Int32.lt_of_lt_of_le e.2 t9), m_findRests, Option.bind_some, q1, rSt_1, rSt_2]
          by_cases c0 : c = 0
          · simp only [if_pos c0]
            exact ansR rfl rfl rfl hR2
          · have c1 : c = 1 := i2 g c0
            simp only [if_neg c0, if_pos c1]
            exact ansR rfl rfl rfl hR2
        · simp only [if_neg g, if_neg (i2n g).1, if_neg (i2n g).2, if_true]
          exact ansR rfl rfl rfl hR
    · simp only [if_neg e, show ¬ (1 : Int32) = 0 by decide, if_false, if_true]
      exact ansR rfl rfl rfl hR
  · simp only [if_neg d, show ¬ (1 : Int32) = 0 by decide, if_false, if_true]
    exact ansR rfl rfl rfl hR
