/-! ===== the class's state and the reference's: what holds between them; rows copied ===== -/
theorem tN_page {g k : Int32} (h0 : 0 ≤ g) (h1 : g < 4) (h2 : 0 ≤ k) (h3 : k < 4) : (0 + 4 * g + k).toNatClampNeg = 4 * g.toNatClampNeg + k.toNatClampNeg := by
  rcases i4 h0 h1 with rfl | rfl | rfl | rfl <;> rcases i4 h2 h3 with rfl | rfl | rfl | rfl <;> decide
theorem tN_16 {g : Int32} (h0 : 0 ≤ g) (h1 : g < 4) : (16 + g).toNatClampNeg = 16 + g.toNatClampNeg := by
  rcases i4 h0 h1 with rfl | rfl | rfl | rfl <;> decide
theorem tN_aff (c : Nat) {a i : Int32} (h0 : 0 ≤ a) (h1 : 0 ≤ i) (hb : c * a.toNatClampNeg + i.toNatClampNeg < 2147483648) : (Int32.ofNat c * a + i).toNatClampNeg = c * a.toNatClampNeg + i.toNatClampNeg := by
  have e1 := ofN_toN h0
  have e2 := ofN_toN h1
  generalize a.toNatClampNeg = m at *
  generalize i.toNatClampNeg = n at *
  subst e1; subst e2
  rw [← Int32.ofNat_mul, ← Int32.ofNat_add, toN_ofN hb]
def cPg (G T : Int32) (p : Nat → Int32) : Prop := (∀ j, j < 16 → fl G (2 * j) = p j) ∧ (∀ g, g < 4 → fl T (2 * g) = p (16 + g))
def st4 (G T Th C : Int32) (p : Nat → Int32) : Prop := cPg G T p ∧ Th = p 20 ∧ C = p 21
def ro (f : Nat → Int32) (o : Nat) (p : Nat → Int32) : Prop := st4 (f o) (f (o + 1)) (f (o + 2)) (f (o + 3)) p
theorem st4.cong {G T Th C : Int32} {p q : Nat → Int32} (h : st4 G T Th C p) (e : ∀ j, j < 22 → p j = q j) : st4 G T Th C q := by
  obtain ⟨⟨h1, h2⟩, h3, h4⟩ := h
  exact ⟨⟨fun j hj => (h1 j hj).trans (e j (by omega)), fun g hg => (h2 g hg).trans (e _ (by omega))⟩, h3.trans (e 20 (by omega)), h4.trans (e 21 (by omega))⟩
theorem cPg.gr {G T : Int32} {p : Nat → Int32} (h : cPg G T p) {g k : Int32} (h0 : 0 ≤ g) (h1 : g < 4) (h2 : 0 ≤ k) (h3 : k < 4) : gr G g k = p (0 + 4 * g + k).toNatClampNeg := by
  have a := tN_c h0 h1
  have b := tN_c h2 h3
  rw [gr_fl G h0 h1 h2 h3, tN_page h0 h1 h2 h3, ← h.1 _ (by omega)]
  congr 1; omega
theorem cPg.td {G T : Int32} {p : Nat → Int32} (h : cPg G T p) {g : Int32} (h0 : 0 ≤ g) (h1 : g < 4) : td T g = p (16 + g).toNatClampNeg := by
  have a := tN_c h0 h1
  rw [td_fl T h0 h1, tN_16 h0 h1, ← h.2 _ a]
theorem cPg.b {G T : Int32} {p : Nat → Int32} (h : cPg G T p) (j : Nat) (hj : j < 20) : 0 ≤ p j ∧ p j < 4 := by
  by_cases c : j < 16
  · rw [← h.1 j c]; exact fl_b _ _
  · have := h.2 (j - 16) (by omega)
    rw [show 16 + (j - 16) = j by omega] at this
    rw [← this]; exact fl_b _ _
def rTx (S M : zS) : Prop := S.1 9 = M.1 2 ∧ 0 ≤ M.1 2 ∧ M.1 2 ≤ 40 ∧ (∀ i : Nat, i < (M.1 2).toNatClampNeg → S.2.2 6 i = M.2.2 1 i ∧ 0 ≤ M.2.2 1 i ∧ M.2.2 1 i ≤ 255)
def rTn (S M : zS) : Prop := S.1 10 = M.1 4 ∧ 1 ≤ M.1 4 ∧ M.1 4 ≤ 6 ∧ S.1 11 = M.1 5 ∧ 0 ≤ M.1 5 ∧ M.1 5 ≤ 4 ∧ S.1 12 = M.1 7 ∧ 0 ≤ M.1 7 ∧ M.1 7 ≤ 3 ∧
  (∀ g : Int32, 0 ≤ g → g < M.1 5 → zushr (S.1 13) (2 * g) &&& 3 = M.2.2 6 g.toNatClampNeg) ∧ (∀ b : Int32, 0 ≤ b → b < M.1 7 → zushr (S.1 14) (4 * b) &&& 15 = M.2.2 8 b.toNatClampNeg ∧ 0 ≤ M.2.2 8 b.toNatClampNeg ∧ M.2.2 8 b.toNatClampNeg ≤ 9)
def rPg (S M : zS) : Prop := st4 (S.1 15) (S.1 16) (S.1 17) (S.1 18) (M.2.2 14)
def rAc (S M : zS) : Prop := S.1 20 = M.1 18 ∧ 0 ≤ M.1 18 ∧ M.1 18 ≤ 14 ∧ 0 ≤ S.1 19 ∧ S.1 19 < 14 ∧ (∀ k : Nat, k < (M.1 18).toNatClampNeg → ro (S.2.2 7) (4 * (((S.1 19).toNatClampNeg + k) % 14)) (fun j => M.2.2 17 (22 * k + j)))
def rSl (S M : zS) : Prop := ∀ k : Nat, k < 2 → (M.2.2 20 k = if bt (S.1 6) k then 1 else 0) ∧ (bt (S.1 6) k = true → ro (S.2.2 4) (4 * k) (fun j => M.2.2 19 (22 * k + j)))
def rSe (S M : zS) : Prop := S.1 8 = M.1 21 ∧ 0 ≤ M.1 21 ∧ M.1 21 ≤ 6 ∧ (∀ k : Nat, k < (M.1 21).toNatClampNeg → (0 ≤ M.2.2 22 k ∧ M.2.2 22 k < 6) ∧ (1 ≤ M.2.2 23 k ∧ M.2.2 23 k ≤ 3)) ∧
  (∀ s m : Nat, s < 6 → m < 4 → (bt (S.1 7) (4 * s + m) = true ↔ ∃ k, k < (M.1 21).toNatClampNeg ∧ M.2.2 22 k = Int32.ofNat s ∧ M.2.2 23 k = Int32.ofNat m))
def Rel (S M : zS) : Prop := rTx S M ∧ rTn S M ∧ rPg S M ∧ rAc S M ∧ rSl S M ∧ rSe S M ∧ S.2.1 = M.2.1
/-- the class's call changes its state -/
def AnsW (x m : Option (Int32 × zS)) : Prop := ∃ r S' M', x = some (r, S') ∧ m = some (r, M') ∧ Rel S' M'
/-- it doesn't -/
def AnsR (S : zS) (x : Option Int32) (m : Option (Int32 × zS)) : Prop := ∃ r M', x = some r ∧ m = some (r, M') ∧ Rel S M'
def cpy (src dst : Nat → Int32) (a b n : Nat) : Nat → Int32 := fun j => if b ≤ j ∧ j < b + n then src (a + (j - b)) else dst j
theorem cpy_0 (src dst : Nat → Int32) (a b : Nat) : cpy src dst a b 0 = dst := by
  funext j; unfold cpy; rw [if_neg (by omega)]
theorem cpy_s (src dst : Nat → Int32) (a b n : Nat) : upd (cpy src dst a b n) (b + n) (src (a + n)) = cpy src dst a b (n + 1) := by
  funext j
  unfold upd cpy
  by_cases h : j = b + n
  · rw [if_pos h, if_pos (by omega)]; congr 1; omega
  · rw [if_neg h]
    by_cases h2 : b ≤ j ∧ j < b + n
    · rw [if_pos h2, if_pos (by omega)]
    · rw [if_neg h2, if_neg (by omega)]
theorem zur_same (a : Nat → Nat → Int32) (k : Nat) : zur a k (a k) = a := by
  funext j; unfold zur; split
  · rename_i h; rw [h]
  · rfl
theorem zur_zur (a : Nat → Nat → Int32) (k : Nat) (r s : Nat → Int32) : zur (zur a k r) k s = zur a k s := by
  funext j; unfold zur; split <;> rfl
theorem zur_at (a : Nat → Nat → Int32) (k : Nat) (r : Nat → Int32) : zur a k r k = r := if_pos rfl
theorem zur_ne (a : Nat → Nat → Int32) {k j : Nat} (r : Nat → Int32) (h : j ≠ k) : zur a k r j = a j := if_neg h
/-- a loop that copies a piece of a row, place by place -/
theorem copy_run {ρ : Type} {F : (Int32 × zS → Option ρ) → Int32 × zS → Option ρ} (S : zS) (k : Nat) (src : Nat → Int32) (a b N : Nat) (hN : N < 5000)
    (hF : ∀ i, i < N → ∀ rc, F rc (Int32.ofNat i, (S.1, S.2.1, zur S.2.2 k (cpy src (S.2.2 k) a b i))) = rc (Int32.ofNat i + 1, (S.1, S.2.1, zur (zur S.2.2 k (cpy src (S.2.2 k) a b i)) k (upd (cpy src (S.2.2 k) a b i) (b + i) (src (a + i)))))) :
    ∃ fu, zfix F zN (0, S) = F (zfix F fu) (Int32.ofNat N, (S.1, S.2.1, zur S.2.2 k (cpy src (S.2.2 k) a b N))) := by
  obtain ⟨⟨i, T⟩, fu, ⟨e1, e2⟩, he⟩ := zfix_run (F := F) (fun n e => n ≤ N ∧ e = (Int32.ofNat (N - n), (S.1, S.2.1, zur S.2.2 k (cpy src (S.2.2 k) a b (N - n)))))
    (by
      rintro n e ⟨h1, rfl⟩
      refine ⟨_, hF (N - (n + 1)) (by omega), by omega, ?_⟩
      rw [zur_zur, cpy_s, ← ofN_s, show N - (n + 1) + 1 = N - n by omega]) N (0, S) zN ⟨Nat.le_refl _, by
        rw [Nat.sub_self, cpy_0, zur_same]; rfl⟩ (by unfold zN; omega)
  refine ⟨fu, ?_⟩
  rw [he, e2]; rfl
theorem ofN_lt {i n : Nat} (h : i < n) (hn : n ≤ 6000) : 0 ≤ Int32.ofNat i ∧ Int32.ofNat i < Int32.ofNat n := by
  have a : (Int32.ofNat i).toInt = (i : Int) := Int32.toInt_ofNat_of_lt (by omega)
  have b : (Int32.ofNat n).toInt = (n : Int) := Int32.toInt_ofNat_of_lt (by omega)
  have e3 : (0 : Int32).toInt = 0 := rfl
  exact ⟨Int32.le_iff_toInt_le.mpr (by omega), Int32.lt_iff_toInt_lt.mpr (by omega)⟩
theorem m_copy (k0 k1 : Nat) (hk : k0 ≠ k1) (S : zS) : f_X5_copy k0 k1 S = some (S.1, S.2.1, zur S.2.2 k1 (cpy (S.2.2 k0) (S.2.2 k1) 0 0 22)) := by
  obtain ⟨fu, he⟩ := copy_run (F := F_X5_copy_2 k1 k0) S k1 (S.2.2 k0) 0 0 22 (by decide) (by
    intro i hi rc
    have hb := ofN_lt hi (by decide)
    have hb1 : Int32.ofNat i < 22 := hb.2
    have c : ¬ (22 : Int32) ≤ Int32.ofNat i := by grind
    simp only [F_X5_copy_2, if_neg c, gdz22 hb.1 hb1, zl, toN_ofN (show i < 2147483648 by omega), zur_at, zur_ne _ _ hk, Nat.zero_add])
  unfold f_X5_copy
  rw [he]
  have c : (22 : Int32) ≤ Int32.ofNat 22 := by decide
  simp only [F_X5_copy_2, if_pos c]
/-- the reference's note: the page comes behind the book's pages; the first is forgotten if there are 14 -/
theorem m_note (M : zS) (h0 : 0 ≤ M.1 18) (h1 : M.1 18 ≤ 14) : ∃ M', f_X5_note M = some M' ∧ M'.2.1 = M.2.1 ∧ (∀ j, j ≠ 18 → M'.1 j = M.1 j) ∧ (∀ j, j ≠ 17 → M'.2.2 j = M.2.2 j) ∧
    ((M.1 18 = 14 ∧ M'.1 18 = 14 ∧ (∀ k j, k < 13 → j < 22 → M'.2.2 17 (22 * k + j) = M.2.2 17 (22 * (k + 1) + j)) ∧ (∀ j, j < 22 → M'.2.2 17 (22 * 13 + j) = M.2.2 14 j)) ∨
     (M.1 18 < 14 ∧ M'.1 18 = M.1 18 + 1 ∧ (∀ k j, k < (M.1 18).toNatClampNeg → j < 22 → M'.2.2 17 (22 * k + j) = M.2.2 17 (22 * k + j)) ∧ (∀ j, j < 22 → M'.2.2 17 (22 * (M.1 18).toNatClampNeg + j) = M.2.2 14 j))) := by
  have store : ∀ T : zS, 0 ≤ T.1 18 → T.1 18 < 14 → zfix F_X5_note_51 zN (0, T) = some (upd T.1 18 (T.1 18 + 1), T.2.1, zur T.2.2 17 (cpy (T.2.2 14) (T.2.2 17) 0 (22 * (T.1 18).toNatClampNeg) 22)) := by
    intro T t0 t1
    have hm : (T.1 18).toNatClampNeg < 14 := toN_lt (n := 14) 14 rfl (by decide) t1 (by decide)
    obtain ⟨fu, he⟩ := copy_run (F := F_X5_note_51) T 17 (T.2.2 14) 0 (22 * (T.1 18).toNatClampNeg) 22 (by decide) (by
      intro i hi rc
      have hb := ofN_lt hi (by decide)
      have hb1 : Int32.ofNat i < 22 := hb.2
      have c : ¬ (22 : Int32) ≤ Int32.ofNat i := by grind
      have q := tN_aff 22 t0 hb.1 (by rw [toN_ofN (show i < 2147483648 by omega)]; omega)
      rw [toN_ofN (show i < 2147483648 by omega)] at q
      have q' : ((22 : Int32) * T.1 18 + Int32.ofNat i).toNatClampNeg = 22 * (T.1 18).toNatClampNeg + i := q
      have g0 : 0 ≤ (22 : Int32) * T.1 18 + Int32.ofNat i := by grind
      have g1 : (22 : Int32) * T.1 18 + Int32.ofNat i < 308 := by grind
      simp only [F_X5_note_51, if_neg c, gdz22 hb.1 hb1, gdz308 g0 g1, zl, toN_ofN (show i < 2147483648 by omega), q', zur_at, zur_ne _ _ (show (14 : Nat) ≠ 17 by decide), Nat.zero_add])
    rw [he]
    have c : (22 : Int32) ≤ Int32.ofNat 22 := by decide
    simp only [F_X5_note_51, if_pos c, zl]
  unfold f_X5_note
  rw [zj]
  by_cases c : M.1 18 = 14
  · rw [if_pos c]
    obtain ⟨fu, he⟩ := copy_run (F := F_X5_note_11 fun S_1 => zfix F_X5_note_51 zN (0, S_1)) M 17 (M.2.2 17) 22 0 286 (by decide) (by
      intro i hi rc
      have hb := ofN_lt hi (by decide)
      have hb1 : Int32.ofNat i < 286 := hb.2
      have c : ¬ (286 : Int32) ≤ Int32.ofNat i := by grind
      have g0 : 0 ≤ Int32.ofNat i + 22 := by grind
      have g1 : Int32.ofNat i + 22 < 308 := by grind
      have g2 : Int32.ofNat i < 308 := by grind
      have q : (Int32.ofNat i + 22).toNatClampNeg = i + 22 := by
        have : Int32.ofNat i + 22 = Int32.ofNat (i + 22) := (Int32.ofNat_add i 22).symm
        rw [this, toN_ofN (by omega)]
      have q2 : cpy (M.2.2 17) (M.2.2 17) 22 0 i (i + 22) = M.2.2 17 (22 + i) := by
        unfold cpy; rw [if_neg (by omega), Nat.add_comm]
      simp only [F_X5_note_11, if_neg c, gdz308 g0 g1, gdz308 hb.1 g2, zl, toN_ofN (show i < 2147483648 by omega), q, zur_at, q2, Nat.zero_add])
    rw [he]
    have c2 : (286 : Int32) ≤ Int32.ofNat 286 := by decide
    simp only [F_X5_note_11, if_pos c2, zl]
    have e18 : upd M.1 18 (M.1 18 - 1) 18 = 13 := by rw [upd_apply, if_pos rfl, c]; decide
    rw [store _ (by show 0 ≤ upd M.1 18 (M.1 18 - 1) 18; rw [e18]; decide) (by show upd M.1 18 (M.1 18 - 1) 18 < 14; rw [e18]; decide)]
    refine ⟨_, rfl, rfl, ?_, ?_, Or.inl ⟨c, ?_, ?_, ?_⟩⟩
    · intro j hj; simp only [upd_apply, if_neg hj]
    · intro j hj; simp only [zur_ne _ _ hj]
    · simp only [upd_apply, if_true, c]; decide
    · intro k j hk hj
      have e13 : (upd M.1 18 (M.1 18 - 1) 18).toNatClampNeg = 13 := by rw [e18]; decide
      simp only [zur_at, e13]
      unfold cpy
      rw [if_neg (by omega), if_pos (by omega)]; exact congrArg _ (by omega)
    · intro j hj
      have e13 : (upd M.1 18 (M.1 18 - 1) 18).toNatClampNeg = 13 := by rw [e18]; decide
      simp only [zur_at, e13, zur_ne _ _ (show (14 : Nat) ≠ 17 by decide)]
      unfold cpy
      rw [if_pos (by omega)]; exact congrArg _ (by omega)
  · rw [if_neg c]
    refine ⟨_, store M h0 (by grind), rfl, ?_, ?_, Or.inr ⟨by grind, ?_, ?_, ?_⟩⟩
    · intro j hj; simp only [upd_apply, if_neg hj]
    · intro j hj; simp only [zur_ne _ _ hj]
    · simp only [upd_apply, if_true]
    · intro k j hk hj
      simp only [zur_at]
      unfold cpy
      rw [if_neg]
      intro h
      have : 22 * k + 22 ≤ 22 * (M.1 18).toNatClampNeg := by omega
      omega
    · intro j hj
      simp only [zur_at]
      unfold cpy
      rw [if_pos (by omega)]; exact congrArg _ (by omega)
