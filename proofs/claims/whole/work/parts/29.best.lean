/-! ===== pairs gone through one by one; best ===== -/
def fJ {α : Type} (st : α → Int32 → Int32 → α) (i : Int32) : Nat → Int32 → α → α
  | 0, _, a => a
  | m + 1, j, a => fJ st i m (j + 1) (st a i j)
def fO {α : Type} (st : α → Int32 → Int32 → α) : Nat → Int32 → α → α
  | 0, _, a => a
  | m + 1, i, a => fO st m (i + 1) (fJ st i m (i + 1) a)
theorem exN {x : Int32} {n : Nat} (m : Int32) (hm : m = Int32.ofNat n) (hn : n ≤ 6000) (h0 : 0 ≤ x) (h1 : x ≤ m) : ∃ k, k ≤ n ∧ x = nI k := by
  refine ⟨x.toNatClampNeg, ?_, (ofN_toN h0).symm⟩
  have h1' := Int32.le_iff_toInt_le.mp h1
  have hm' : m.toInt = (n : Int) := by rw [hm]; exact Int32.toInt_ofNat_of_lt (by omega)
  have : x.toNatClampNeg = x.toInt.toNat := rfl
  omega
theorem ar1 {n j : Int32} {m : Nat} (e : n = j + Int32.ofNat (m + 1)) (hm : m + 1 ≤ 4) (h0 : 0 ≤ j) (hj : j ≤ n) (hn : n ≤ 4) : j < n ∧ n = (j + 1) + Int32.ofNat m ∧ 0 ≤ j + 1 ∧ j + 1 ≤ n ∧ j < j + 1 := by
  obtain ⟨N, hN, rfl⟩ := exN (x := n) (n := 4) 4 rfl (by decide) (Int32.le_trans h0 hj) hn
  obtain ⟨J, hJ, rfl⟩ := exN (x := j) (n := 4) 4 rfl (by decide) h0 (Int32.le_trans hj hn)
  have e : nI N = nI J + nI (m + 1) := e
  rw [nI_add, nI_eq (by omega) (by omega)] at e
  subst e
  have e1 : (1 : Int32) = nI 1 := rfl
  show nI J < nI (J + (m + 1)) ∧ nI (J + (m + 1)) = nI J + 1 + nI m ∧ 0 ≤ nI J + 1 ∧ nI J + 1 ≤ nI (J + (m + 1)) ∧ nI J < nI J + 1
  rw [e1, nI_add, nI_add]
  refine ⟨nI_lt (by omega) (by omega), by congr 1; omega, nI_pos' (by omega), nI_le (by omega) (by omega), nI_lt (by omega) (by omega)⟩
theorem bl1 {t u i j ld bp : Int32} (t0 : 0 ≤ t) (t1 : t ≤ 54) (u0 : 0 ≤ u) (u1 : u ≤ 54) (l0 : 0 ≤ ld) (l1 : ld ≤ 9) (i0 : 0 ≤ i) (ij : i < j) (j1 : j ≤ 3) (b0 : 0 ≤ bp) (b1 : bp < 10 * i + j) :
    ((t + ld ≤ u + ld → ¬ u * 100 + 10 * i + j < t * 100 + bp) ∧ (¬ t + ld ≤ u + ld → u * 100 + 10 * i + j < t * 100 + bp)) ∧ ¬ (t * 100 + bp = -9) ∧ 0 ≤ 10 * i + j ∧ 10 * i + j < 10 * i + j + 1 ∧ 10 * i + j < 60 := by
  obtain ⟨T, hT, rfl⟩ := exN (x := t) (n := 54) 54 rfl (by decide) t0 t1
  obtain ⟨U, hU, rfl⟩ := exN (x := u) (n := 54) 54 rfl (by decide) u0 u1
  obtain ⟨L, hL, rfl⟩ := exN (x := ld) (n := 9) 9 rfl (by decide) l0 l1
  obtain ⟨I, hI, rfl⟩ := exN (x := i) (n := 3) 3 rfl (by decide) i0 (Int32.le_trans (Int32.le_of_lt ij) j1)
  obtain ⟨J, hJ, rfl⟩ := exN (x := j) (n := 3) 3 rfl (by decide) (Int32.le_trans i0 (Int32.le_of_lt ij)) j1
  rw [nI_ltI (by omega) (by omega)] at ij
  have c10 : (10 : Int32) = nI 10 := rfl
  have c100 : (100 : Int32) = nI 100 := rfl
  have c1 : (1 : Int32) = nI 1 := rfl
  have c60 : (60 : Int32) = nI 60 := rfl
  rw [c10, pk_mul, nI_add] at b1
  obtain ⟨B, hB, rfl⟩ := exN (x := bp) (n := 60) 60 rfl (by decide) b0 (Int32.le_trans (Int32.le_of_lt b1) (by rw [c60]; exact nI_le (by omega) (by omega)))
  rw [nI_ltI (by omega) (by omega)] at b1
  simp only [c10, c100, c1, c60, pk_mul, nI_add]
  rw [nI_leI (by omega) (by omega), nI_ltI (by omega) (by omega), nI_ltI (by omega) (by omega), nI_ltI (by omega) (by omega)]
  refine ⟨⟨by omega, by omega⟩, ?_, nI_pos' (by omega), by omega, by omega⟩
  intro h
  have : (0 : Int32) ≤ nI (T * 100 + B) := nI_pos' (by omega)
  rw [h] at this
  exact absurd this (by decide)
theorem bl2 {u i j : Int32} (i0 : 0 ≤ i) (ij : i < j) (j1 : j ≤ 3) : 0 ≤ 10 * i + j ∧ 10 * i + j < 10 * i + j + 1 ∧ 10 * i + j < 60 := (bl1 (t := 0) (u := 0) (ld := 0) (bp := 0) (by decide) (by decide) (by decide) (by decide) (by decide) (by decide) i0 ij j1 (by decide) (by
  obtain ⟨I, hI, rfl⟩ := exN (x := i) (n := 3) 3 rfl (by decide) i0 (Int32.le_trans (Int32.le_of_lt ij) j1)
  obtain ⟨J, hJ, rfl⟩ := exN (x := j) (n := 3) 3 rfl (by decide) (Int32.le_trans i0 (Int32.le_of_lt ij)) j1
  rw [nI_ltI (by omega) (by omega)] at ij
  have c10 : (10 : Int32) = nI 10 := rfl
  have c0 : (0 : Int32) = nI 0 := rfl
  rw [c10, pk_mul, nI_add, c0]
  exact nI_lt (by omega) (by omega))).2.2
theorem ar0 {n j : Int32} (e : n = j + Int32.ofNat 0) : n ≤ j := by
  have e0 : Int32.ofNat 0 = 0 := rfl
  rw [e0] at e
  grind
theorem ar2 {i j n : Int32} (h0 : 0 ≤ i) (hi : i ≤ 4) (h : i < j) (hj : j ≤ 4) : 0 ≤ 10 * i + j ∧ 10 * i + j ≤ 10 * i + 10 ∧ 10 * i + 10 ≤ 60 ∧ 10 * i + (j + 1) = 10 * i + j + 1 := by grind
theorem ar3 {i : Int32} (h0 : 0 ≤ i) (hi : i ≤ 4) : 0 ≤ 10 * i ∧ 10 * i ≤ 60 ∧ 10 * i ≤ 10 * i + (i + 1) ∧ 10 * i + (i + 1) ≤ 60 ∧ 10 * (i + 1) = 10 * i + 10 := by grind
theorem fJ_run {α X Y ρ : Type} {n : Int32} {Fi : (X → Option ρ) → Int32 → (Y → Option ρ) → Y → Option ρ} {eO : α → Int32 → X} {eI : α → Int32 → Y} {st : α → Int32 → Int32 → α} (hn : n ≤ 4)
    (hI : ∀ rc rc2 a i j, 0 ≤ i → i < j → j < n → Fi rc i rc2 (eI a j) = rc2 (eI (st a i j) (j + 1)))
    (hIx : ∀ rc rc2 a i j, n ≤ j → Fi rc i rc2 (eI a j) = rc (eO a (i + 1))) (rc : X → Option ρ) (i : Int32) (h0 : 0 ≤ i) :
    ∀ m fuel a j, n = j + Int32.ofNat m → m ≤ 4 → i < j → j ≤ n → m < fuel → zfix (Fi rc i) fuel (eI a j) = rc (eO (fJ st i m j a) (i + 1)) := by
  intro m
  induction m with
  | zero =>
    intro fuel a j e _ hj _ hf
    obtain ⟨f, rfl⟩ : ∃ f, fuel = f + 1 := ⟨fuel - 1, by omega⟩
    rw [zfix_s, hIx _ _ _ _ _ (ar0 e)]
    rfl
  | succ m ih =>
    intro fuel a j e hm hj hjn hf
    obtain ⟨f, rfl⟩ : ∃ f, fuel = f + 1 := ⟨fuel - 1, by omega⟩
    obtain ⟨q1, q2, q3, q4, q5⟩ := ar1 e hm (Int32.le_trans h0 (Int32.le_of_lt hj)) hjn hn
    rw [zfix_s, hI _ _ _ _ _ h0 hj q1, ih f _ _ q2 (by omega) (Int32.lt_trans hj q5) q4 (by omega)]
    rfl
theorem fO_run {α X Y ρ : Type} {n : Int32} {Fo : (X → Option ρ) → X → Option ρ} {Fi : (X → Option ρ) → Int32 → (Y → Option ρ) → Y → Option ρ} {eO : α → Int32 → X} {eI : α → Int32 → Y} {st : α → Int32 → Int32 → α} {K : α → Option ρ} (hn0 : 0 ≤ n) (hn : n ≤ 4)
    (hO : ∀ rc a i, 0 ≤ i → i < n → Fo rc (eO a i) = zfix (Fi rc i) zN (eI a (i + 1)))
    (hOx : ∀ rc a i, n ≤ i → Fo rc (eO a i) = K a)
    (hI : ∀ rc rc2 a i j, 0 ≤ i → i < j → j < n → Fi rc i rc2 (eI a j) = rc2 (eI (st a i j) (j + 1)))
    (hIx : ∀ rc rc2 a i j, n ≤ j → Fi rc i rc2 (eI a j) = rc (eO a (i + 1))) (a : α) :
    zfix Fo zN (eO a 0) = K (fO st n.toNatClampNeg 0 a) := by
  have main : ∀ m fuel a i, n = i + Int32.ofNat m → m ≤ 4 → 0 ≤ i → i ≤ n → m < fuel → zfix Fo fuel (eO a i) = K (fO st m i a) := by
    intro m
    induction m with
    | zero =>
      intro fuel a i e _ h0 _ hf
      obtain ⟨f, rfl⟩ : ∃ f, fuel = f + 1 := ⟨fuel - 1, by omega⟩
      rw [zfix_s, hOx _ _ _ (ar0 e)]
      rfl
    | succ m ih =>
      intro fuel a i e hm h0 hin hf
      obtain ⟨f, rfl⟩ : ∃ f, fuel = f + 1 := ⟨fuel - 1, by omega⟩
      obtain ⟨q1, q2, q3, q4, q5⟩ := ar1 e hm h0 hin hn
      rw [zfix_s, hO _ _ _ h0 q1, fJ_run hn hI hIx _ i h0 m zN a (i + 1) q2 (by omega) q5 q4 (by unfold zN; omega), ih f _ _ q2 (by omega) q3 q4 (by omega)]
      rfl
  have hN : n.toNatClampNeg < 5 := toN_lt (n := 5) 5 rfl (by decide) (by grind) (by decide)
  exact main n.toNatClampNeg zN a 0 (by rw [ofN_toN hn0]; simp) (by omega) (by decide) hn0 (by unfold zN; omega)
/-- two goings through the same pairs keep what one step keeps; R's number is above all pairs gone through -/
theorem fO_rel {α β : Type} {s1 : α → Int32 → Int32 → α} {s2 : β → Int32 → Int32 → β} {R : Int32 → α → β → Prop} {n : Int32} (hn : n ≤ 4)
    (hs : ∀ i j a b, 0 ≤ i → i < j → j < n → R (10 * i + j) a b → R (10 * i + j + 1) (s1 a i j) (s2 b i j))
    (hm : ∀ p q a b, R p a b → 0 ≤ p → p ≤ q → q ≤ 60 → R q a b) :
    ∀ m i a b, n = i + Int32.ofNat m → m ≤ 4 → 0 ≤ i → i ≤ n → R (10 * i) a b → R 60 (fO s1 m i a) (fO s2 m i b) := by
  have inner : ∀ i, 0 ≤ i → ∀ m j a b, n = j + Int32.ofNat m → m ≤ 4 → i < j → j ≤ n → R (10 * i + j) a b → R (10 * i + 10) (fJ s1 i m j a) (fJ s2 i m j b) := by
    intro i h0 m
    induction m with
    | zero =>
      intro j a b e _ hj hjn h
      obtain ⟨q1, q2, q3, q4⟩ := ar2 (n := n) h0 (by clear hs hm; grind) hj (Int32.le_trans hjn hn)
      exact hm _ _ _ _ h q1 q2 q3
    | succ m ih =>
      intro j a b e h4 hj hjn h
      obtain ⟨q1, q2, q3, q4, q5⟩ := ar1 e h4 (Int32.le_trans h0 (Int32.le_of_lt hj)) hjn hn
      obtain ⟨-, -, -, r4⟩ := ar2 (n := n) h0 (by clear hs hm ih; grind) hj (Int32.le_trans hjn hn)
      have := hs i j a b h0 hj q1 h
      exact ih (j + 1) _ _ q2 (by omega) (Int32.lt_trans hj q5) q4 (by rw [r4]; exact this)
  intro m
  induction m with
  | zero =>
    intro i a b e _ h0 hin h
    obtain ⟨q1, q2, -⟩ := ar3 h0 (Int32.le_trans hin hn)
    exact hm _ _ _ _ h q1 q2 (by decide)
  | succ m ih =>
    intro i a b e h4 h0 hin h
    obtain ⟨q1, q2, q3, q4, q5⟩ := ar1 e h4 h0 hin hn
    obtain ⟨r1, r2, r3, r4, r5⟩ := ar3 h0 (Int32.le_trans hin hn)
    have := inner i h0 m (i + 1) a b q2 (by omega) q5 q4 (hm _ _ _ _ h r1 r3 r4)
    exact ih (i + 1) _ _ q2 (by omega) q3 q4 (by rw [r5]; exact this)
/-- what a pair takes on a page of the reference -/
def mT (M : zS) (kk : Nat) (g k p q : Int32) : Int32 := sTim (M.1 4 / 2) (M.2.2 6 g.toNatClampNeg) (M.2.2 6 k.toNatClampNeg) (M.2.2 kk (16 + g).toNatClampNeg) (M.2.2 kk (16 + k).toNatClampNeg) (fun a => M.2.2 kk (0 + 4 * g + a).toNatClampNeg) (fun a => M.2.2 kk (0 + 4 * k + a).toNatClampNeg) (M.1 4).toNatClampNeg 0 p q
theorem mT_eq {S M : zS} (ht : rTn S M) (T : Int32) (kk : Nat) (hp : cPg (S.1 15) T (M.2.2 kk)) {g k p q : Int32} (hg : 0 ≤ g ∧ g < M.1 5) (hk : 0 ≤ k ∧ k < M.1 5) (hp1 : 0 ≤ p ∧ p < 4) (hq : 0 ≤ q ∧ q < 4) :
    f_X4_pairMinutes g k p q T S = some (mT M kk g k p q) ∧ f_X5_timeOf kk g k p q M = some (mT M kk g k p q) ∧ 0 ≤ mT M kk g k p q ∧ mT M kk g k p q ≤ 54 := by
  obtain ⟨t, e1, e2, e3⟩ := pair_eq ht (S.1 15) T kk rfl hp g k p q hg hk hp1 hq
  have e4 := m_timeOf kk g k p q M (by obtain ⟨-, -, -, -, -, h, -⟩ := ht; grind) (by obtain ⟨-, -, -, -, -, h, -⟩ := ht; grind) (by obtain ⟨-, h1, h2, -⟩ := ht; grind) hp1 hq
  have : t = mT M kk g k p q := by rw [e2] at e4; exact Option.some.inj e4
  subst this
  exact ⟨e1, e2, e3⟩
def both (w i j : Int32) : Bool := bt w i.toNatClampNeg && bt w j.toNatClampNeg
def cB (tm : Int32 → Int32 → Int32) (w : Int32) (L i j : Int32) : Int32 := if both w i j then (if L = -9 then tm i j * 100 + 10 * i + j else if tm i j * 100 + 10 * i + j < L then tm i j * 100 + 10 * i + j else L) else L
def mB (tm : Int32 → Int32 → Int32) (ld w : Int32) (a : Int32 × Int32) (i j : Int32) : Int32 × Int32 := if both w i j then (if a.1 = -9 then (10 * i + j, tm i j + ld) else if a.2 ≤ tm i j + ld then a else (10 * i + j, tm i j + ld)) else a
theorem x_leastPair (w : Int32) (S : zS) (tm : Int32 → Int32 → Int32) (hn : 0 ≤ S.1 11 ∧ S.1 11 ≤ 4) (ht : ∀ i j, 0 ≤ i → i < j → j < S.1 11 → f_X4_pairMinutes i j 0 0 (S.1 16) S = some (tm i j)) :
    f_X4_leastPair w S = some (fO (cB tm w) (S.1 11).toNatClampNeg 0 (-9)) := by
  unfold f_X4_leastPair
  refine fO_run (n := S.1 11) (Fo := F_X4_leastPair_5 S w) (Fi := fun rc i => F_X4_leastPair_21 S rc i w) (eO := fun a i => (a, i)) (eI := fun a i => (a, i)) (K := some) hn.1 hn.2 ?_ ?_ ?_ ?_ (-9)
  · intro rc a i h0 h1
    simp only [F_X4_leastPair_5, if_neg (show ¬ S.1 11 ≤ i by grind), zl]
  · intro rc a i h
    simp only [F_X4_leastPair_5, if_pos h]
  · intro rc rc2 a i j h0 h1 h2
    have hi : 0 ≤ i ∧ i < 4 := by grind
    have hj : 0 ≤ j ∧ j < 4 := by grind
    simp only [F_X4_leastPair_21, if_neg (show ¬ S.1 11 ≤ j by grind), x_isIn' _ _ hi, x_isIn' _ _ hj, Option.bind_some, zl, zj, ht i j h0 h1 h2, cB, both]
    by_cases qi : bt w i.toNatClampNeg = true
    · by_cases qj : bt w j.toNatClampNeg = true
      · simp only [qi, qj, eq_self, if_true, Bool.and_true, show ¬ (1 : Int32) = 0 by decide, if_false]
        split
        · rfl
        · split <;> rfl
      · have qj := Bool.eq_false_iff.mpr qj
        simp only [qi, qj, eq_self, Bool.false_eq_true, if_false, if_true, Bool.and_false, show ¬ (1 : Int32) = 0 by decide]
    · have qi := Bool.eq_false_iff.mpr qi
      simp only [qi, Bool.false_eq_true, if_false, if_true, Bool.false_and]
  · intro rc rc2 a i j h
    simp only [F_X4_leastPair_21, if_pos h]
theorem upd_25 (f : Nat → Int32) (a b c d : Int32) : upd (upd (upd (upd f 25 a) 26 b) 25 c) 26 d = upd (upd f 25 c) 26 d := by
  funext j; simp only [upd_apply]; split
  · rfl
  · split <;> rfl
theorem m_findBest (b w : Int32) (M : zS) (tm : Int32 → Int32 → Int32) (hn : 0 ≤ M.1 5 ∧ M.1 5 ≤ 4) (hb : 0 ≤ b ∧ b < 3) (ht : ∀ i j, 0 ≤ i → i < j → j < M.1 5 → ∀ u v, f_X5_timeOf 14 i j 0 0 (upd (upd M.1 25 u) 26 v, M.2) = some (tm i j)) :
    f_X5_findBest b w M = some (upd (upd M.1 25 (fO (mB tm (M.2.2 8 b.toNatClampNeg) w) (M.1 5).toNatClampNeg 0 (-9, -9)).1) 26 (fO (mB tm (M.2.2 8 b.toNatClampNeg) w) (M.1 5).toNatClampNeg 0 (-9, -9)).2, M.2) := by
  unfold f_X5_findBest
  simp only [zl]
  refine fO_run (n := M.1 5) (Fo := F_X5_findBest_14 b w) (Fi := fun rc i => F_X5_findBest_27 rc i b w) (eO := fun (a : Int32 × Int32) i => (i, (upd (upd M.1 25 a.1) 26 a.2, M.2))) (eI := fun (a : Int32 × Int32) i => (i, (upd (upd M.1 25 a.1) 26 a.2, M.2))) (K := fun a => some (upd (upd M.1 25 a.1) 26 a.2, M.2)) hn.1 hn.2 ?_ ?_ ?_ ?_ (-9, -9)
  · intro rc a i h0 h1
    simp only [F_X5_findBest_14, show upd (upd M.1 25 a.1) 26 a.2 5 = M.1 5 from rfl, if_neg (show ¬ M.1 5 ≤ i by grind), zl]
  · intro rc a i h
    simp only [F_X5_findBest_14, show upd (upd M.1 25 a.1) 26 a.2 5 = M.1 5 from rfl, if_pos h]
  · intro rc rc2 a i j h0 h1 h2
    have hi : 0 ≤ i ∧ i < 4 := by grind
    have hj : 0 ≤ j ∧ j < 4 := by grind
    simp only [F_X5_findBest_27, show upd (upd M.1 25 a.1) 26 a.2 5 = M.1 5 from rfl, show upd (upd M.1 25 a.1) 26 a.2 25 = a.1 from rfl, show upd (upd M.1 25 a.1) 26 a.2 26 = a.2 from rfl, if_neg (show ¬ M.1 5 ≤ j by grind), m_has _ _ hi, m_has _ _ hj, Option.bind_some, zl, zj, ht i j h0 h1 h2, gdz3 hb.1 hb.2, mB, both, upd_25]
    by_cases qi : bt w i.toNatClampNeg = true
    · by_cases qj : bt w j.toNatClampNeg = true
      · simp only [qi, qj, eq_self, if_true, Bool.and_true, show ¬ (1 : Int32) = 0 by decide, if_false]
        split
        · rfl
        · split <;> rfl
      · have qj := Bool.eq_false_iff.mpr qj
        simp only [qi, qj, eq_self, Bool.false_eq_true, if_false, if_true, Bool.and_false, show ¬ (1 : Int32) = 0 by decide]
    · have qi := Bool.eq_false_iff.mpr qi
      simp only [qi, Bool.false_eq_true, if_false, if_true, Bool.false_and]
  · intro rc rc2 a i j h
    simp only [F_X5_findBest_27, show upd (upd M.1 25 a.1) 26 a.2 5 = M.1 5 from rfl, if_pos h]
/-- the class's least number and the reference's pair and time -/
def bR (ld p L : Int32) (a : Int32 × Int32) : Prop := (L = -9 ∧ a.1 = -9 ∧ a.2 = -9) ∨ (∃ t, 0 ≤ t ∧ t ≤ 54 ∧ 0 ≤ a.1 ∧ a.1 < p ∧ a.1 < 60 ∧ L = t * 100 + a.1 ∧ a.2 = t + ld)
theorem best_rel (tm : Int32 → Int32 → Int32) (ld w v n : Int32) (hn : 0 ≤ n ∧ n ≤ 4) (hl : 0 ≤ ld ∧ ld ≤ 9) (ht : ∀ i j, 0 ≤ i → i < j → j < n → 0 ≤ tm i j ∧ tm i j ≤ 54) (hw : ∀ i, 0 ≤ i → i < n → bt w i.toNatClampNeg = bt v i.toNatClampNeg) :
    bR ld 60 (fO (cB tm w) n.toNatClampNeg 0 (-9)) (fO (mB tm ld v) n.toNatClampNeg 0 (-9, -9)) := by
  have hN : n.toNatClampNeg < 5 := toN_lt (n := 5) 5 rfl (by decide) (by grind) (by decide)
  refine fO_rel (R := bR ld) (n := n) hn.2 ?_ ?_ n.toNatClampNeg 0 (-9) (-9, -9) (by rw [ofN_toN hn.1]; simp) (by omega) (by decide) hn.1 (Or.inl ⟨rfl, rfl, rfl⟩)
  · intro i j L a h0 h1 h2 h
    have j3 : j ≤ 3 := by clear hw ht; grind
    have e : both v i j = both w i j := by unfold both; rw [hw i h0 (Int32.lt_trans h1 h2), hw j (Int32.le_trans h0 (Int32.le_of_lt h1)) h2]
    obtain ⟨z1, z2, z3⟩ := bl2 (u := 0) h0 h1 j3
    unfold cB mB
    rw [e]
    cases both w i j
    · simp only [Bool.false_eq_true, if_false]
      rcases h with h | ⟨t, q1, q2, q3, q4, q5, q6, q7⟩
      · exact Or.inl h
      · exact Or.inr ⟨t, q1, q2, q3, Int32.lt_trans q4 z2, q5, q6, q7⟩
    · simp only [if_true]
      obtain ⟨g1, g2⟩ := ht i j h0 h1 h2
      generalize tm i j = u at *
      have new : bR ld (10 * i + j + 1) (u * 100 + 10 * i + j) (10 * i + j, u + ld) := Or.inr ⟨u, g1, g2, z1, z2, z3, Int32.add_assoc _ _ _, rfl⟩
      rcases h with ⟨h1', h2', h3'⟩ | ⟨t, q1, q2, q3, q4, q5, q6, q7⟩
      · rw [if_pos h1', if_pos h2']
        exact new
      · obtain ⟨⟨y1, y2⟩, y3, -⟩ := bl1 q1 q2 g1 g2 hl.1 hl.2 h0 h1 j3 q3 q4
        have n1 : ¬ L = -9 := by rw [q6]; exact y3
        have n2 : ¬ a.1 = -9 := fun w => absurd q3 (by rw [w]; decide)
        rw [if_neg n1, if_neg n2, q6, q7]
        by_cases c : t + ld ≤ u + ld
        · rw [if_pos c, if_neg (y1 c)]
          exact Or.inr ⟨t, q1, q2, q3, Int32.lt_trans q4 z2, q5, rfl, q7⟩
        · rw [if_neg c, if_pos (y2 c)]
          exact new
  · intro p q L a h h0 h1 h2
    rcases h with h | ⟨t, q1, q2, q3, q4, q5, q6, q7⟩
    · exact Or.inl h
    · exact Or.inr ⟨t, q1, q2, q3, Int32.lt_of_lt_of_le q4 h1, q5, q6, q7⟩
theorem all_bits : ∀ n : Nat, n < 5 → ∀ i : Nat, i < n → bt (zshl 1 (Int32.ofNat n) - 1) i = true ∧ bt 15 i = true := by decide +kernel
theorem dm100 : ∀ t : Nat, t < 55 → ∀ a : Nat, a < 60 → zrem (Int32.ofNat t * 100 + Int32.ofNat a) 100 = Int32.ofNat a ∧ (Int32.ofNat t * 100 + Int32.ofNat a) / 100 = Int32.ofNat t := by decide +kernel
theorem dm100' {t a : Int32} (t0 : 0 ≤ t) (t1 : t ≤ 54) (a0 : 0 ≤ a) (a1 : a < 60) : zrem (t * 100 + a) 100 = a ∧ (t * 100 + a) / 100 = t := by
  have h1 := toN_lt (i := t) (n := 55) 55 rfl (by decide) (by grind) (by decide)
  have h2 := toN_lt (i := a) (n := 60) 60 rfl (by decide) a1 (by decide)
  have := dm100 _ h1 _ h2
  rwa [ofN_toN t0, ofN_toN a0] at this
theorem c_best (a b : Int32) (S M : zS) (h : Rel S M) : AnsR S (f_X4_best a b S) (f_X5_best a b M) := by
  have hR : Rel S (upd M.1 0 0, M.2) := h
  have tn := h.2.1
  have pg := h.2.2.1
  obtain ⟨t1, t2, t3, t4, t5, t6, t7, t8, t9, t10, t11⟩ := h.2.1
  unfold f_X4_best f_X5_best
  simp only [zl, zj, x_hasBoat, m_noBoat a (upd M.1 0 0, M.2) t8, Option.bind_some, t7, show upd M.1 0 0 7 = M.1 7 from rfl, m_in' b 0 1 0 1 rfl rfl]
  by_cases c : 0 ≤ a ∧ a < M.1 7
  · simp only [if_pos c, show ¬ (1 : Int32) = 0 by decide, if_false, if_true]
    have ha3 : 0 ≤ a ∧ a < 3 := by grind
    obtain ⟨l1, l2⟩ := t11 a c.1 c.2
    have e1 := x_leastPair (zshl 1 (S.1 11) - 1) S (fun i j => mT M 14 i j 0 0) (by rw [t4]; exact ⟨t5, t6⟩) (fun i j h0 h1 h2 => (mT_eq tn (S.1 16) 14 pg.1 (by rw [t4] at h2; grind) (by rw [t4] at h2; grind) (by decide) (by decide)).1)
    have e2 := m_findBest a 15 (upd M.1 0 0, M.2) (fun i j => mT M 14 i j 0 0) ⟨t5, t6⟩ ha3 (fun i j h0 h1 h2 u v => by
      have h2 : j < M.1 5 := h2
      have tn3 : rTn S (upd (upd (upd M.1 0 0) 25 u) 26 v, M.2) := tn
      exact (mT_eq tn3 (S.1 16) 14 pg.1 (g := i) (k := j) (p := 0) (q := 0) (by show 0 ≤ i ∧ i < M.1 5; grind) (by show 0 ≤ j ∧ j < M.1 5; grind) (by decide) (by decide)).2.1)
    have e3 := best_rel (fun i j => mT M 14 i j 0 0) (M.2.2 8 a.toNatClampNeg) (zshl 1 (S.1 11) - 1) 15 (M.1 5) ⟨t5, t6⟩ l2 (fun i j h0 h1 h2 => (mT_eq tn (S.1 16) 14 pg.1 (g := i) (k := j) (p := 0) (q := 0) (by grind) (by grind) (by decide) (by decide)).2.2) (fun i h0 h1 => by
      have hn : (M.1 5).toNatClampNeg < 5 := toN_lt (n := 5) 5 rfl (by decide) (by grind) (by decide)
      have hi : i.toNatClampNeg < (M.1 5).toNatClampNeg := by
        have hi4 := tN_c h0 (Int32.lt_of_lt_of_le h1 t6)
        rw [← ofN_toN h0, ← ofN_toN t5] at h1
        exact (nI_ltI (a := i.toNatClampNeg) (b := (M.1 5).toNatClampNeg) (by omega) (by omega)).mp h1
      have := all_bits _ hn _ hi
      rw [ofN_toN t5] at this
      rw [t4, this.1, this.2])
    rw [t4] at e1 e3
    have e2' : f_X5_findBest a 15 (upd M.1 0 0, M.2) = some (upd (upd (upd M.1 0 0) 25 (fO (mB (fun i j => mT M 14 i j 0 0) (M.2.2 8 a.toNatClampNeg) 15) (M.1 5).toNatClampNeg 0 (-9, -9)).1) 26 (fO (mB (fun i j => mT M 14 i j 0 0) (M.2.2 8 a.toNatClampNeg) 15) (M.1 5).toNatClampNeg 0 (-9, -9)).2, M.2) := e2
    simp only [f_X1_allLeggers, Option.bind_some, t4, e1, e2', x_loadOf, l1]
    generalize fO (mB (fun i j => mT M 14 i j 0 0) (M.2.2 8 a.toNatClampNeg) 15) (M.1 5).toNatClampNeg 0 (-9, -9) = A at *
    generalize fO (cB (fun i j => mT M 14 i j 0 0) (zshl 1 (M.1 5) - 1)) (M.1 5).toNatClampNeg 0 (-9) = L at *
    have hR2 : Rel S (upd (upd (upd M.1 0 0) 25 A.1) 26 A.2, M.2) := h
    by_cases d : 0 ≤ b ∧ b ≤ 1
    · simp only [if_pos d, show ¬ (1 : Int32) = 0 by decide, if_false, show upd (upd (upd M.1 0 0) 25 A.1) 26 A.2 25 = A.1 from rfl, show upd (upd (upd M.1 0 0) 25 A.1) 26 A.2 26 = A.2 from rfl]
      rcases (by grind : b = 0 ∨ b = 1) with d0 | d0
      · simp only [if_pos d0]
        rcases e3 with ⟨q1, q2, q3⟩ | ⟨t, q1, q2, q3, q4, q5, q6, q7⟩
        · simp only [if_pos q1]
          exact ansR rfl rfl q2.symm hR2
        · rw [if_neg (by grind)]
          exact ansR rfl rfl (by rw [q6]; exact (dm100' q1 q2 q3 q4).1) hR2
      · have d1 : ¬ b = 0 := by grind
        simp only [if_neg d1, if_pos d0]
        rcases e3 with ⟨q1, q2, q3⟩ | ⟨t, q1, q2, q3, q4, q5, q6, q7⟩
        · simp only [if_pos q1]
          exact ansR rfl rfl q3.symm hR2
        · rw [if_neg (by grind)]
          exact ansR rfl rfl (by rw [q6, (dm100' q1 q2 q3 q4).2, q7]) hR2
    · have d1 : ¬ b = 0 := by grind
      have d2 : ¬ b = 1 := by grind
      simp only [if_neg d, if_neg d1, if_neg d2, if_true]
      exact ansR rfl rfl rfl hR
  · simp only [if_neg c, show ¬ (1 : Int32) = 0 by decide, if_false, if_true]
    exact ansR rfl rfl rfl hR
