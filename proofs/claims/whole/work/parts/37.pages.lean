/-! ===== pairs by number, pages, legs over them ===== -/
def prs (n : Nat) : List (Nat × Nat) := if n = 2 then [(0, 1)] else if n = 3 then [(0, 1), (0, 2), (1, 2)] else if n = 4 then [(0, 1), (0, 2), (0, 3), (1, 2), (1, 3), (2, 3)] else []
def npN (n : Nat) : Nat := (prs n).length
def p1 (n q : Nat) : Nat := ((prs n).getD q (0, 1)).1
def p2 (n q : Nat) : Nat := ((prs n).getD q (0, 1)).2
theorem prs_b : ∀ n : Nat, n < 5 → ∀ q : Nat, q < 6 → p1 n q < p2 n q ∧ p2 n q < 4 ∧ (q < npN n → p2 n q < n) := by decide +kernel
theorem npN_le : ∀ n : Nat, n < 5 → npN n ≤ 6 := by decide
theorem npN_0 : ∀ n : Nat, n < 5 → (npN n = 0 ↔ n < 2) := by decide
def fgC (n b q : Nat) : Nat := if q < npN n then 100 * b + 10 * p1 n q + p2 n q else 100 * b + 100 + q
theorem fg_mono' : ∀ n : Nat, n < 5 → ∀ q : Nat, q < 6 → q + 1 < npN n → 10 * p1 n q + p2 n q < 10 * p1 n (q + 1) + p2 n (q + 1) := by decide +kernel
theorem fg_mono (n : Nat) (hn : n < 5) (b q : Nat) : fgC n b q < fgC n b (q + 1) := by
  unfold fgC
  have h6 := npN_le n hn
  by_cases h : q < npN n
  · rw [if_pos h]
    obtain ⟨a1, a2, -⟩ := prs_b n hn q (by omega)
    by_cases h2 : q + 1 < npN n
    · rw [if_pos h2]
      have := fg_mono' n hn q (by omega) h2
      omega
    · rw [if_neg h2]; omega
  · rw [if_neg h, if_neg (by omega)]; omega
theorem fg_lt (n : Nat) (hn : n < 5) (b q : Nat) (hb : b < 3) (hq : q < npN n) : fgC n b q < 1000 := by
  unfold fgC
  have h6 := npN_le n hn
  obtain ⟨a1, a2, -⟩ := prs_b n hn q (by omega)
  rw [if_pos hq]; omega
theorem fO_fw {α : Type} (st : α → Int32 → Int32 → α) (n : Nat) (hn : n < 5) (a : α) : fO st n 0 a = fw (fun q a => st a (nI (p1 n q)) (nI (p2 n q))) (npN n) a := by
  rcases (by omega : n = 0 ∨ n = 1 ∨ n = 2 ∨ n = 3 ∨ n = 4) with rfl | rfl | rfl | rfl | rfl <;> rfl
/-- what a pair takes on a page -/
def pT (M : zS) (p : Nat → Int32) (g k : Int32) : Int32 := sTim (M.1 4 / 2) (M.2.2 6 g.toNatClampNeg) (M.2.2 6 k.toNatClampNeg) (p (16 + g).toNatClampNeg) (p (16 + k).toNatClampNeg) (fun a => p (0 + 4 * g + a).toNatClampNeg) (fun a => p (0 + 4 * k + a).toNatClampNeg) (M.1 4).toNatClampNeg 0 0 0
def okPg (p : Nat → Int32) : Prop := ∀ j, j < 20 → 0 ≤ p j ∧ p j < 4
theorem sTim_cong {half k1 k2 t1 t2 : Int32} {r1 r2 s1 s2 : Int32 → Int32} (h1 : ∀ a, 0 ≤ a → a < 4 → r1 a = s1 a) (h2 : ∀ a, 0 ≤ a → a < 4 → r2 a = s2 a) : ∀ n i a b, (0 ≤ a ∧ a < 4) → (0 ≤ b ∧ b < 4) → sTim half k1 k2 t1 t2 r1 r2 n i a b = sTim half k1 k2 t1 t2 s1 s2 n i a b := by
  intro n
  induction n with
  | zero => intro i a b _ _; rfl
  | succ n ih =>
    intro i a b ha hb
    simp only [sTim]
    rw [h1 a ha.1 ha.2, h2 b hb.1 hb.2, ih _ _ _ (sNext_b ha) (sNext_b hb)]
theorem pT_cong (M : zS) {p p' : Nat → Int32} (h : ∀ j, j < 20 → p j = p' j) {g k : Int32} (hg : 0 ≤ g ∧ g < 4) (hk : 0 ≤ k ∧ k < 4) : pT M p g k = pT M p' g k := by
  have cg := tN_c hg.1 hg.2
  have ck := tN_c hk.1 hk.2
  unfold pT
  rw [h (16 + g).toNatClampNeg (by rw [tN_16 hg.1 hg.2]; omega), h (16 + k).toNatClampNeg (by rw [tN_16 hk.1 hk.2]; omega)]
  refine sTim_cong ?_ ?_ _ _ _ _ (by decide) (by decide)
  · intro a h0 h1
    have := tN_c h0 h1
    exact h _ (by rw [tN_page hg.1 hg.2 h0 h1]; omega)
  · intro a h0 h1
    have := tN_c h0 h1
    exact h _ (by rw [tN_page hk.1 hk.2 h0 h1]; omega)
theorem pT_b (M : zS) (hs : 0 ≤ M.1 4 ∧ M.1 4 ≤ 6) {p : Nat → Int32} (h : okPg p) {g k : Int32} (hg : 0 ≤ g ∧ g < 4) (hk : 0 ≤ k ∧ k < 4) : ∃ t, t ≤ 54 ∧ pT M p g k = nI t := by
  have cg := tN_c hg.1 hg.2
  have ck := tN_c hk.1 hk.2
  have hN : (M.1 4).toNatClampNeg ≤ 6 := by
    have := toN_lt (i := M.1 4) (n := 7) 7 rfl (by decide) (Int32.lt_of_le_of_lt hs.2 (by decide)) (by decide); omega
  have b := sTim_b (half := M.1 4 / 2) (k1 := M.2.2 6 g.toNatClampNeg) (k2 := M.2.2 6 k.toNatClampNeg) (r1 := fun a => p (0 + 4 * g + a).toNatClampNeg) (r2 := fun a => p (0 + 4 * k + a).toNatClampNeg) (h (16 + g).toNatClampNeg (by rw [tN_16 hg.1 hg.2]; omega)) (h (16 + k).toNatClampNeg (by rw [tN_16 hk.1 hk.2]; omega)) (M.1 4).toNatClampNeg hN 0 0 0
  refine exN (n := 54) 54 rfl (by decide) b.1 (Int32.le_trans b.2 ?_)
  show 9 * nI (M.1 4).toNatClampNeg ≤ nI 54
  rw [show (9 : Int32) = nI 9 from rfl, pk_mul]
  exact nI_le (by omega) (by omega)
theorem tpg_b {p : Nat → Int32} (h : okPg p) {g : Int32} (hg : 0 ≤ g ∧ g < 4) : okPg (tpg p g) := by
  intro j hj
  have cg := tN_c hg.1 hg.2
  have b := h (16 + g).toNatClampNeg (by rw [tN_16 hg.1 hg.2]; omega)
  unfold tpg
  rw [upd_apply]
  by_cases q : j = (16 + g).toNatClampNeg
  · rw [if_pos q]
    rcases i4 b.1 b.2 with e | e | e | e <;> rw [e] <;> decide
  · rw [if_neg q]; exact h j hj
theorem gol_b {p : Nat → Int32} (h : okPg p) {b g k d : Int32} (hg : 0 ≤ g ∧ g < 4) (hk : 0 ≤ k ∧ k < 4) : okPg (gol p b g k d) := by
  refine tpg_b (tpg_b ?_ hg) hk
  intro j hj
  rw [upd_apply, if_neg (by omega), upd_apply, if_neg (by omega)]
  exact h j hj
theorem tpg_cong {m : Nat} (hm : m ≤ 22) (hm2 : 20 ≤ m) {p p' : Nat → Int32} (h : ∀ j, j < m → p j = p' j) {g : Int32} (hg : 0 ≤ g ∧ g < 4) : ∀ j, j < m → tpg p g j = tpg p' g j := by
  intro j hj
  have cg := tN_c hg.1 hg.2
  unfold tpg
  rw [upd_apply, upd_apply, h j hj, h (16 + g).toNatClampNeg (by rw [tN_16 hg.1 hg.2]; omega)]
theorem gol_cong {p p' : Nat → Int32} (h : ∀ j, j < 20 → p j = p' j) {b b' g k d d' : Int32} (hg : 0 ≤ g ∧ g < 4) (hk : 0 ≤ k ∧ k < 4) : ∀ j, j < 20 → gol p b g k d j = gol p' b' g k d' j := by
  unfold gol
  refine tpg_cong (by omega) (by omega) (tpg_cong (by omega) (by omega) ?_ hg) hk
  intro j hj
  rw [upd_apply, if_neg (by omega), upd_apply, if_neg (by omega), upd_apply, if_neg (by omega), upd_apply, if_neg (by omega)]
  exact h j hj
theorem gol_cong22 {p p' : Nat → Int32} (h : ∀ j, j < 22 → p j = p' j) {b g k d : Int32} (hg : 0 ≤ g ∧ g < 4) (hk : 0 ≤ k ∧ k < 4) : ∀ j, j < 22 → gol p b g k d j = gol p' b g k d j := by
  unfold gol
  refine tpg_cong (by omega) (by omega) (tpg_cong (by omega) (by omega) ?_ hg) hk
  intro j hj
  rw [upd_apply, upd_apply, upd_apply, upd_apply, h j hj, h 20 (by omega), h 21 (by omega)]
theorem gol_20 (p : Nat → Int32) (b : Int32) {g k : Int32} (d : Int32) (hg : 0 ≤ g ∧ g < 4) (hk : 0 ≤ k ∧ k < 4) : gol p b g k d 20 = p 20 ||| zshl 1 b ∧ gol p b g k d 21 = p 21 + d := by
  have cg := tN_c hg.1 hg.2
  have ck := tN_c hk.1 hk.2
  unfold gol tpg
  constructor
  · rw [tN_16 hg.1 hg.2, tN_16 hk.1 hk.2, upd_apply, if_neg (by omega), upd_apply, if_neg (by omega), upd_apply, if_pos rfl]
  · rw [tN_16 hg.1 hg.2, tN_16 hk.1 hk.2, upd_apply, if_neg (by omega), upd_apply, if_neg (by omega), upd_apply, if_neg (by decide), upd_apply, if_pos rfl]
/-! the instance of the orders' laws -/
def tqC (M : zS) (n : Nat) (p : Nat → Int32) (q : Nat) : Nat := min 54 (pT M p (nI (p1 n q)) (nI (p2 n q))).toNatClampNeg
def ldC (M : zS) (b : Nat) : Nat := min 9 (M.2.2 8 b).toNatClampNeg
def lgC (M : zS) (n : Nat) (p : Nat → Int32) (b q : Nat) : Nat → Int32 := gol p (nI b) (nI (p1 n q)) (nI (p2 n q)) (nI (tqC M n p q + ldC M b))
def thC (p : Nat → Int32) (b : Nat) : Bool := bt (p 20) b
def eqP (p p' : Nat → Int32) : Prop := ∀ j, j < 20 → p j = p' j
theorem nI_4 {k : Nat} (h : k < 4) : 0 ≤ nI k ∧ nI k < 4 := ⟨nI_pos' (by omega), nI_lt (b := 4) (by omega) (by omega)⟩
theorem eqP_leg (M : zS) (n : Nat) (hn : n < 5) : ∀ p p' b b' q, eqP p p' → q < npN n → tqC M n p q = tqC M n p' q ∧ eqP (lgC M n p b q) (lgC M n p' b' q) := by
  intro p p' b b' q h hq
  have h6 := npN_le n hn
  obtain ⟨a1, a2, -⟩ := prs_b n hn q (by omega)
  have c1 := nI_4 (k := p1 n q) (by omega)
  have c2 := nI_4 (k := p2 n q) (by omega)
  refine ⟨?_, ?_⟩
  · unfold tqC; rw [pT_cong M h c1 c2]
  · exact gol_cong h c1 c2
theorem th_leg (M : zS) (n : Nat) (hn : n < 5) : ∀ p b q b', q < 6 → b < 3 → b' < 3 → thC (lgC M n p b q) b' = (thC p b' || decide (b = b')) := by
  intro p b q b' hq hb hb'
  obtain ⟨a1, a2, -⟩ := prs_b n hn q hq
  unfold thC lgC
  rw [(gol_20 p (nI b) _ (nI_4 (by omega)) (nI_4 a2)).1, bt_or, bt_shl 1 (nI_4 (by omega)).1 (nI_lt (b := 32) (by omega) (by omega)) (by omega), bt_1, nI_clamp (by omega)]
  congr 1
  rw [← Bool.decide_and]
  exact decide_eq_decide.mpr (by omega)
/-- what is so of a page that a tunnel's legs go over -/
theorem leg_ok {M : zS} (hs : 1 ≤ M.1 4 ∧ M.1 4 ≤ 6) (n : Nat) (hn : n < 5) {p : Nat → Int32} (h : okPg p) {q : Nat} (hq : q < npN n) : pT M p (nI (p1 n q)) (nI (p2 n q)) = nI (tqC M n p q) ∧ tqC M n p q ≤ 54 ∧ ∀ b, okPg (lgC M n p b q) := by
  have h6 := npN_le n hn
  obtain ⟨a1, a2, -⟩ := prs_b n hn q (by omega)
  have c1 := nI_4 (k := p1 n q) (by omega)
  have c2 := nI_4 (k := p2 n q) (by omega)
  obtain ⟨t, ht, e⟩ := pT_b M ⟨Int32.le_trans (by decide) hs.1, hs.2⟩ h c1 c2
  refine ⟨?_, by unfold tqC; omega, fun b => gol_b h c1 c2⟩
  unfold tqC
  rw [e, nI_clamp (by omega)]
  congr 1; omega
theorem load_ok {S M : zS} (h : rTn S M) {b : Nat} (hb : b < (M.1 7).toNatClampNeg) : M.2.2 8 b = nI (ldC M b) ∧ b < 3 ∧ nI b < M.1 7 ∧ zushr (S.1 14) (4 * nI b) &&& 15 = nI (ldC M b) := by
  obtain ⟨t1, t2, t3, t4, t5, t6, t7, t8, t9, t10, t11⟩ := h
  have h4 : (M.1 7).toNatClampNeg < 4 := toN_lt (n := 4) 4 rfl (by decide) (Int32.lt_of_le_of_lt t9 (by decide)) (by decide)
  have hl : nI b < M.1 7 := by rw [← ofN_toN t8]; exact nI_lt hb (by omega)
  obtain ⟨l1, l2, l3⟩ := t11 (nI b) (nI_pos' (by omega)) hl
  rw [nI_clamp (by omega)] at l1 l2 l3
  obtain ⟨k, hk, e⟩ := exN (n := 9) 9 rfl (by decide) l2 l3
  have e2 : ldC M b = k := by unfold ldC; rw [e, nI_clamp (by omega)]; omega
  rw [e2]
  exact ⟨e, by omega, hl, by rw [l1, e]⟩
