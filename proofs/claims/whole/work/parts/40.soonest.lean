/-! ===== the reference's rows gone through; soonest ===== -/
def encA (a : Option (Nat × Nat)) : Int32 × Int32 := match a with
  | none => (-9, -9)
  | some x => (nI x.1, nI x.2)
def sM (M : zS) (a : Option (Nat × Nat)) (tr : Nat → Int32) : zS := (upd (upd M.1 29 (encA a).1) 30 (encA a).2, M.2.1, zur M.2.2 15 tr)
theorem sM_set (M : zS) (a : Option (Nat × Nat)) (tr : Nat → Int32) (t f : Nat) : (upd (upd (sM M a tr).1 29 (nI t)) 30 (nI f), (sM M a tr).2) = sM M (some (t, f)) tr := by
  refine Prod.ext ?_ rfl
  funext j
  simp only [sM, encA, upd_apply]
  by_cases h : j = 30
  · simp only [h, if_true]
  · simp only [if_neg h]
    by_cases h2 : j = 29 <;> simp only [h2, if_true, if_false]
theorem sM_tr (M : zS) (a : Option (Nat × Nat)) (tr tr' : Nat → Int32) : ((sM M a tr).1, (sM M a tr).2.1, zur (sM M a tr).2.2 15 tr') = sM M a tr' := by
  unfold sM; rw [zur_zur]
theorem ne9 {x : Nat} (h : x < 2147483648) : ¬ nI x = -9 := by
  intro e
  have : (0 : Int32) ≤ nI x := nI_pos' h
  rw [e] at this
  exact absurd this (by decide)
/-- what the reference's loops rest on: pairs laid, base -/
def bsM (M : zS) (n : Nat) : Prop := (1 ≤ M.1 4 ∧ M.1 4 ≤ 6) ∧ n < 5 ∧ M.1 36 = nI (npN n) ∧ (∀ q, q < npN n → M.2.2 34 q = nI (p1 n q) ∧ M.2.2 35 q = nI (p2 n q)) ∧ (∀ b, b < (M.1 7).toNatClampNeg → M.2.2 8 b = nI (ldC M b)) ∧ (M.1 7).toNatClampNeg < 4 ∧ 0 ≤ M.1 7
theorem zfix_run2 {ε ρ : Type} {F : (ε → Option ρ) → ε → Option ρ} (P : Nat → ε → Prop) (hs : ∀ n e rc, P (n + 1) e → ∃ e', F rc e = rc e' ∧ P n e') : ∀ n e fuel, P n e → n < fuel → ∃ e' fuel', P 0 e' ∧ zfix F fuel e = F (zfix F fuel') e' := by
  intro n
  induction n with
  | zero =>
    intro e fuel h hf
    cases fuel with
    | zero => omega
    | succ f => exact ⟨e, f, h, rfl⟩
  | succ n ih =>
    intro e fuel h hf
    cases fuel with
    | zero => omega
    | succ f =>
      obtain ⟨e', h1, h2⟩ := hs n e (zfix F f) h
      obtain ⟨e2, f2, h3, h4⟩ := ih e' f h2 (by omega)
      exact ⟨e2, f2, h3, h1.trans h4⟩
theorem addsub (c x : Int32) : c + x - c = x := by grind
theorem in_end (M : zS) (rc : Int32 × zS → Option zS) (rc2 : Int32 × Int32 × Int32 × zS → Option zS) (r W : Int32) (a : Option (Nat × Nat)) (ha : ∀ T R, a = some (T, R) → T ≤ 1000) (p : Nat → Int32) (f t : Nat) (ht : t ≤ 1000) (h21 : p 21 = M.2.2 16 21 + nI t) :
    F_X5_findSoonest_105 rc r W rc2 (nI f, 1, -1, sM M a p) = rc (r + 1, sM M (upA a t f) p) := by
  have e0 : (-1 : Int32) < 0 := by decide
  have e21 : (21 : Int32).toNatClampNeg = 21 := by decide
  have y1 : (sM M a p).2.2 15 21 = p 21 := rfl
  have y2 : (sM M a p).2.2 16 21 = M.2.2 16 21 := rfl
  unfold F_X5_findSoonest_105
  simp only [zj, zl, if_pos e0, gdz22 (show (0 : Int32) ≤ 21 by decide) (show (21 : Int32) < 22 by decide), e21, y1, y2, h21, addsub, show ¬ (1 : Int32) = 0 by decide, if_false, sM_set]
  cases a with
  | none =>
    have y3 : (sM M none p).1 29 = -9 := rfl
    rw [if_pos y3]; rfl
  | some x =>
    have hx := ha x.1 x.2 rfl
    have y3 : (sM M (some x) p).1 29 = nI x.1 := rfl
    have n3 : ¬ (sM M (some x) p).1 29 = -9 := by rw [y3]; exact ne9 (by omega)
    rw [if_neg n3]
    by_cases q : t < x.1
    · have n4 : ¬ (sM M (some x) p).1 29 ≤ nI t := by rw [y3]; exact nI_ge q (by omega)
      have e : upA (some x) t f = some (t, f) := if_pos q
      rw [if_neg n4, e]
    · have n4 : (sM M (some x) p).1 29 ≤ nI t := by rw [y3]; exact nI_le (by omega) (by omega)
      have e : upA (some x) t f = some x := if_neg q
      rw [if_pos n4, e]
theorem in_out (M : zS) (rc : Int32 × zS → Option zS) (rc2 : Int32 × Int32 × Int32 × zS → Option zS) (r W f k : Int32) (a : Option (Nat × Nat)) (p : Nat → Int32) : F_X5_findSoonest_105 rc r W rc2 (f, 0, k, sM M a p) = rc (r + 1, sM M a p) := by
  unfold F_X5_findSoonest_105
  simp only [zj, zl, if_true, gdz22 (show (0 : Int32) ≤ 21 by decide) (show (21 : Int32) < 22 by decide)]
  split <;> rfl
theorem in_step {M : zS} {n : Nat} (h : bsM M n) (rc : Int32 × zS → Option zS) (rc2 : Int32 × Int32 × Int32 × zS → Option zS) (r W k w b q : Nat) (hr : r < 6000) (hW0 : 0 < W) (hW18 : W ≤ 18) (hk : k < 3) (hw : r / W ^ k % W = w) (hb : w / npN n = b) (hb2 : b < 3) (hb3 : b < (M.1 7).toNatClampNeg) (hq : w % npN n = q) (hqn : q < npN n) (a : Option (Nat × Nat)) (p : Nat → Int32) (hp : okPg p) (f : Nat) (hf : 1000 * (f + 1) ≤ 1000000000) :
    F_X5_findSoonest_105 rc (nI r) (nI W) rc2 (nI f, 1, nI k, sM M a p) = if thC p b then rc2 (nI (1000 * f + fgC n b q), 0, nI k + (-1), sM M a p) else rc2 (nI (1000 * f + fgC n b q), 1, nI k + (-1), sM M a (lgC M n p b q)) := by
  obtain ⟨hs, hn, h36, hpr, hld, hB4, h7⟩ := h
  have h6 := npN_le n hn
  have hnp : 0 < npN n := by omega
  have hWk0 : 0 < W ^ k := Nat.pow_pos hW0
  have hWk : W ^ k ≤ 18 ^ k := Nat.pow_le_pow_left hW18 k
  have h18 : 18 ^ k ≤ 324 := by
    rcases (by omega : k = 0 ∨ k = 1 ∨ k = 2) with rfl | rfl | rfl <;> decide
  have e0 : ¬ nI k < 0 := nI_pos (by omega)
  have n1 : ¬ nI (W ^ k) = 0 := nI_ne0 hWk0 (by omega)
  have n2 : ¬ nI W = 0 := nI_ne0 hW0 (by omega)
  have n3 : ¬ nI (npN n) = 0 := nI_ne0 hnp (by omega)
  have d1 : nI r / nI (W ^ k) = nI (r / W ^ k) := pk_div (by omega) hWk0 (by omega)
  have hrd : r / W ^ k ≤ r := Nat.div_le_self _ _
  have d2 : zrem (nI (r / W ^ k)) (nI W) = nI w := by rw [zrem_nI (by omega) hW0 (by omega), hw]
  have hw2 : w < W := by rw [← hw]; exact Nat.mod_lt _ hW0
  have d3 : nI w / nI (npN n) = nI b := by rw [pk_div (by omega) hnp (by omega), hb]
  have d4 : zrem (nI w) (nI (npN n)) = nI q := by rw [zrem_nI (by omega) hnp (by omega), hq]
  have hb4 := nI_4 (k := b) (by omega)
  obtain ⟨a1, a2, -⟩ := prs_b n hn q (by omega)
  obtain ⟨y1, y2, y3⟩ := leg_ok hs n hn hp hqn
  have c1 := nI_4 (k := p1 n q) (by omega)
  have c2 := nI_4 (k := p2 n q) a2
  have z1 : (sM M a p).1 36 = nI (npN n) := h36
  have z2 : (sM M a p).2.2 15 20 = p 20 := rfl
  have cq := nI_clamp (show q < 2 ^ 31 by omega)
  have z3 : (sM M a p).2.2 34 (nI q).toNatClampNeg = nI (p1 n q) := by rw [cq]; exact (hpr q hqn).1
  have z4 : (sM M a p).2.2 35 (nI q).toNatClampNeg = nI (p2 n q) := by rw [cq]; exact (hpr q hqn).2
  have gq0 : 0 ≤ nI q := nI_pos' (by omega)
  have gq1 : nI q < 6 := nI_lt (b := 6) (by omega) (by omega)
  have fg1 : 1000 * nI f + 100 * nI b + 10 * nI (p1 n q) + nI (p2 n q) = nI (1000 * f + fgC n b q) := by
    unfold fgC
    rw [if_pos hqn, show (1000 : Int32) = nI 1000 from rfl, show (100 : Int32) = nI 100 from rfl, show (10 : Int32) = nI 10 from rfl, pk_mul, pk_mul, pk_mul, nI_add, nI_add, nI_add]
    congr 1; omega
  have pw := m_power W k (by omega)
  have cb := nI_clamp (show b < 2 ^ 31 by omega)
  have c20 : (20 : Int32).toNatClampNeg = 20 := by decide
  have hth := m_has (p 20) (nI b) hb4
  rw [cb] at hth
  have tm : f_X5_timeOf 15 (nI (p1 n q)) (nI (p2 n q)) 0 0 (sM M a p) = some (nI (tqC M n p q)) := by
    have e := m_timeOf 15 (nI (p1 n q)) (nI (p2 n q)) 0 0 (sM M a p) c1 c2 ⟨Int32.le_trans (by decide) hs.1, hs.2⟩ (by decide) (by decide)
    rw [← y1]
    exact e
  have go := m_goLeg 15 (nI b) (nI (p1 n q)) (nI (p2 n q)) (nI (tqC M n p q)) (sM M a p) ⟨hb4.1, nI_lt (b := 3) (by omega) (by omega)⟩ c1 c2 tm (by decide) (by decide)
  have ez : (sM M a p).2.2 8 b = nI (ldC M b) := hld b hb3
  rw [cb, ez, nI_add] at go
  have ez2 : (sM M a p).2.2 15 = p := rfl
  rw [ez2, sM_tr] at go
  have go : f_X5_goLeg 15 (nI b) (nI (p1 n q)) (nI (p2 n q)) (sM M a p) = some (sM M a (lgC M n p b q)) := go
  unfold F_X5_findSoonest_105
  dsimp only
  rw [zj, if_neg e0, if_neg (show ¬ (1 : Int32) = 0 by decide), pw, Option.bind_some, gdn n1, gdn n2, d1, d2, zl, z1, gdn n3, d3, zl, gdn n3, d4, zl, gdz22 (show (0 : Int32) ≤ 20 by decide) (show (20 : Int32) < 22 by decide), c20, z2, hth, Option.bind_some, zj]
  by_cases th : bt (p 20) b = true
  · have th' : thC p b = true := th
    rw [if_pos th', if_pos th, if_neg (show ¬ (1 : Int32) = 0 by decide)]
    dsimp only
    rw [gdz6 gq0 gq1, gdz6 gq0 gq1, z3, z4, fg1, zl, zj, if_pos rfl]
  · have th' : ¬ thC p b = true := th
    rw [if_neg th', if_neg th, if_pos rfl]
    dsimp only
    rw [gdz6 gq0 gq1, gdz6 gq0 gq1, z3, z4, fg1, zl, zj, if_neg (show ¬ (1 : Int32) = 0 by decide), gdz6 gq0 gq1, gdz6 gq0 gq1, go, Option.bind_some]
theorem m_inner {M : zS} {n : Nat} (h : bsM M n) (hnp : 0 < npN n) (hB : 0 < (M.1 7).toNatClampNeg) (rc : Int32 × zS → Option zS) (r : Nat) (hr : r < 6000) (a : Option (Nat × Nat)) (ha : ∀ T R, a = some (T, R) → T ≤ 1000) :
    ∀ k p f t fuel, okPg p → p 21 = M.2.2 16 21 + nI t → k ≤ 3 → t + 63 * k ≤ 1000 → 1000 ^ k * (f + 1) ≤ 1000000000 → k < fuel →
    ∃ tr, zfix (F_X5_findSoonest_105 rc (nI r) (nI ((M.1 7).toNatClampNeg * npN n))) fuel (nI f, 1, nI k + (-1), sM M a p) = rc (nI r + 1, sM M (upO a (evR (tqC M n) (lgC M n) (ldC M) (fgC n) (npN n) ((M.1 7).toNatClampNeg * npN n) k p f t r)) tr) := by
  have hs := h.1
  have hn := h.2.1
  have hB4 := h.2.2.2.2.2.1
  have h6 := npN_le n hn
  intro k
  induction k with
  | zero =>
    intro p f t fuel hp h21 _ ht hf hfu
    obtain ⟨g, rfl⟩ : ∃ g, fuel = g + 1 := ⟨fuel - 1, by omega⟩
    have ht : t ≤ 1000 := by simpa using ht
    have e0 : nI 0 + (-1) = -1 := by decide
    rw [zfix_s, e0, in_end M _ _ _ _ a ha p f t ht h21]
    exact ⟨p, rfl⟩
  | succ k ih =>
    intro p f t fuel hp h21 hk ht hf hfu
    obtain ⟨g, rfl⟩ : ∃ g, fuel = g + 1 := ⟨fuel - 1, by omega⟩
    generalize hWW : (M.1 7).toNatClampNeg * npN n = W at *
    have hW0 : 0 < W := by rw [← hWW]; exact Nat.mul_pos hB hnp
    have hW18 : W ≤ 18 := by rw [← hWW]; exact Nat.mul_le_mul (show (M.1 7).toNatClampNeg ≤ 3 by omega) h6
    have ek : nI (k + 1) + (-1) = nI k := pk_m1 k
    obtain ⟨w, hww⟩ : ∃ w, r / W ^ k % W = w := ⟨_, rfl⟩
    have hw : w < W := by rw [← hww]; exact Nat.mod_lt _ hW0
    have hb : w / npN n < (M.1 7).toNatClampNeg := Nat.div_lt_of_lt_mul (by rw [Nat.mul_comm, hWW]; exact hw)
    have hq : w % npN n < npN n := Nat.mod_lt _ hnp
    have ev : evR (tqC M n) (lgC M n) (ldC M) (fgC n) (npN n) W (k + 1) p f t r = if thC p (w / npN n) then none else evR (tqC M n) (lgC M n) (ldC M) (fgC n) (npN n) W k (lgC M n p (w / npN n) (w % npN n)) (1000 * f + fgC n (w / npN n) (w % npN n)) (t + tqC M n p (w % npN n) + ldC M (w / npN n)) r := by
      rw [← hww]; rfl
    have hf2 : 1000 * (f + 1) ≤ 1000000000 := by
      rw [Nat.pow_succ, Nat.mul_assoc] at hf
      exact Nat.le_trans (Nat.le_mul_of_pos_left _ (Nat.pow_pos (by decide))) hf
    rw [zfix_s, ek, in_step h rc _ r W k w _ _ hr hW0 hW18 (by omega) hww rfl (by omega) hb rfl hq a p hp f hf2, ev]
    clear ev
    generalize w / npN n = b at *
    generalize w % npN n = q at *
    by_cases th : thC p b = true
    · rw [if_pos th, if_pos th]
      obtain ⟨g', rfl⟩ : ∃ g', g = g' + 1 := ⟨g - 1, by omega⟩
      rw [zfix_s, in_out]
      exact ⟨p, rfl⟩
    · rw [if_neg th, if_neg th]
      obtain ⟨a1, a2, -⟩ := prs_b n hn q (by omega)
      have c1 := nI_4 (k := p1 n q) (by omega)
      have c2 := nI_4 (k := p2 n q) a2
      obtain ⟨y1, y2, y3⟩ := leg_ok hs n hn hp hq
      have hfl := fg_lt n hn b q (by omega) hq
      have hl9 : ldC M b ≤ 9 := by unfold ldC; omega
      have h21' : lgC M n p b q 21 = M.2.2 16 21 + nI (t + tqC M n p q + ldC M b) := by
        unfold lgC
        rw [(gol_20 p (nI b) _ c1 c2).2, h21, Int32.add_assoc, nI_add, Nat.add_assoc]
      have hfp : 1000 ^ k * (1000 * f + fgC n b q + 1) ≤ 1000000000 := by
        rw [Nat.pow_succ, Nat.mul_assoc] at hf
        exact Nat.le_trans (Nat.mul_le_mul_left _ (by omega)) hf
      exact ih (lgC M n p b q) (1000 * f + fgC n b q) (t + tqC M n p q + ldC M b) g (y3 b) h21' (by omega) (by omega) hfp (by omega)
theorem evR_b {M : zS} {n : Nat} (hn : n < 5) {W : Nat} : ∀ k p f t r T R, evR (tqC M n) (lgC M n) (ldC M) (fgC n) (npN n) W k p f t r = some (T, R) → T ≤ t + 63 * k := by
  intro k
  induction k with
  | zero => intro p f t r T R h; cases h; omega
  | succ k ih =>
    intro p f t r T R h
    simp only [evR] at h
    split at h
    · cases h
    · have := ih _ _ _ _ _ _ h
      have h1 : ∀ q, tqC M n p q ≤ 54 := fun q => by unfold tqC; omega
      have h2 : ∀ b, ldC M b ≤ 9 := fun b => by unfold ldC; omega
      have := h1 (r / W ^ k % W % npN n)
      have := h2 (r / W ^ k % W / npN n)
      omega
theorem evR_cong {M : zS} {n : Nat} (hn : n < 5) {W : Nat} (hnp : 0 < npN n) : ∀ k p p' f t r, (∀ j, j < 22 → p j = p' j) → evR (tqC M n) (lgC M n) (ldC M) (fgC n) (npN n) W k p f t r = evR (tqC M n) (lgC M n) (ldC M) (fgC n) (npN n) W k p' f t r := by
  intro k
  induction k with
  | zero => intro p p' f t r _; rfl
  | succ k ih =>
    intro p p' f t r h
    have h6 := npN_le n hn
    have hq : r / W ^ k % W % npN n < npN n := Nat.mod_lt _ hnp
    obtain ⟨a1, a2, -⟩ := prs_b n hn (r / W ^ k % W % npN n) (by omega)
    have e1 : ∀ b, thC p b = thC p' b := fun b => by unfold thC; rw [h 20 (by omega)]
    have e2 : tqC M n p (r / W ^ k % W % npN n) = tqC M n p' (r / W ^ k % W % npN n) := by
      unfold tqC; rw [pT_cong M (fun j hj => h j (by omega)) (nI_4 (by omega)) (nI_4 a2)]
    simp only [evR, e1, e2]
    split
    · rfl
    · refine ih _ _ _ _ _ ?_
      unfold lgC
      rw [e2]
      exact gol_cong22 h (nI_4 (by omega)) (nI_4 a2)
theorem m_outer {M : zS} {n : Nat} (h : bsM M n) (hnp : 0 < npN n) (hB : 0 < (M.1 7).toNatClampNeg) (hb : okPg (M.2.2 16)) (k : Nat) (hk0 : 0 < k) (hk : k ≤ 3) (tr0 : Nat → Int32) :
    ∃ tr, zfix (F_X5_findSoonest_69 (nI ((M.1 7).toNatClampNeg * npN n)) (nI k)) zN (0, sM M none tr0) = some (sM M (oF (tqC M n) (lgC M n) (ldC M) thC (fgC n) (npN n) (M.1 7).toNatClampNeg k (M.2.2 16) 0 0 none) tr) := by
  have h6 := npN_le n h.2.1
  have hB4 := h.2.2.2.2.2.1
  rw [← rows_oF]
  generalize hWW : (M.1 7).toNatClampNeg * npN n = W at *
  have hW0 : 0 < W := by rw [← hWW]; exact Nat.mul_pos hB hnp
  have hW18 : W ≤ 18 := by rw [← hWW]; exact Nat.mul_le_mul (show (M.1 7).toNatClampNeg ≤ 3 by omega) h6
  have hWk : W ^ k ≤ 18 ^ k := Nat.pow_le_pow_left hW18 k
  have h18 : 18 ^ k ≤ 5832 := by
    rcases (by omega : k = 1 ∨ k = 2 ∨ k = 3) with rfl | rfl | rfl <;> decide
  have pw := m_power W k (by omega)
  have acc : ∀ c T R, fw (fun r acc => upO acc (evR (tqC M n) (lgC M n) (ldC M) (fgC n) (npN n) W k (M.2.2 16) 0 0 r)) c none = some (T, R) → T ≤ 1000 := by
    intro c
    induction c with
    | zero => intro T R h; cases h
    | succ c ih =>
      intro T R e
      have e : upO (fw (fun r acc => upO acc (evR (tqC M n) (lgC M n) (ldC M) (fgC n) (npN n) W k (M.2.2 16) 0 0 r)) c none) (evR (tqC M n) (lgC M n) (ldC M) (fgC n) (npN n) W k (M.2.2 16) 0 0 c) = some (T, R) := e
      cases hx : evR (tqC M n) (lgC M n) (ldC M) (fgC n) (npN n) W k (M.2.2 16) 0 0 c with
      | none => rw [hx] at e; exact ih T R e
      | some y =>
        have hy := evR_b h.2.1 k (M.2.2 16) 0 0 c y.1 y.2 hx
        rw [hx] at e
        cases ha : fw (fun r acc => upO acc (evR (tqC M n) (lgC M n) (ldC M) (fgC n) (npN n) W k (M.2.2 16) 0 0 r)) c none with
        | none =>
          rw [ha] at e
          have e : some (y.1, y.2) = some (T, R) := e
          cases e; omega
        | some z =>
          rw [ha] at e
          have e : (if y.1 < z.1 then some (y.1, y.2) else some z) = some (T, R) := e
          by_cases q : y.1 < z.1
          · rw [if_pos q] at e; cases e; omega
          · rw [if_neg q] at e
            exact ih T R (by rw [ha]; exact e)
  obtain ⟨⟨e1, e2⟩, fu, ⟨-, tr, he1⟩, he⟩ := zfix_run2 (F := F_X5_findSoonest_69 (nI W) (nI k)) (fun m e => m ≤ W ^ k ∧ ∃ tr, e = (nI (W ^ k - m), sM M (fw (fun r acc => upO acc (evR (tqC M n) (lgC M n) (ldC M) (fgC n) (npN n) W k (M.2.2 16) 0 0 r)) (W ^ k - m) none) tr)) (by
    rintro m e rc ⟨h1, tr, rfl⟩
    obtain ⟨c, hc⟩ : ∃ c, c = W ^ k - (m + 1) := ⟨_, rfl⟩
    rw [← hc, show W ^ k - m = c + 1 by omega]
    have hle : ¬ nI (W ^ k) ≤ nI c := nI_ge (by omega) (by omega)
    have hkk : ¬ nI k ≤ 0 := nI_nle hk0 (by omega)
    have q22 : ∀ j, j < 22 → cpy (M.2.2 16) tr 0 0 22 j = M.2.2 16 j := by
      intro j hj; unfold cpy; rw [if_pos (by omega)]; exact congrArg _ (by omega)
    have okc : okPg (cpy (M.2.2 16) tr 0 0 22) := by
      intro j hj; rw [q22 j (by omega)]; exact hb j hj
    have h21 : cpy (M.2.2 16) tr 0 0 22 21 = M.2.2 16 21 + nI 0 := by
      rw [q22 21 (by omega)]
      have : nI 0 = 0 := rfl
      rw [this]; simp
    have cp : ∀ a, f_X5_copy 16 15 (sM M a tr) = some (sM M a (cpy (M.2.2 16) tr 0 0 22)) := by
      intro a
      rw [m_copy 16 15 (by decide)]
      have : cpy ((sM M a tr).2.2 16) ((sM M a tr).2.2 15) 0 0 22 = cpy (M.2.2 16) tr 0 0 22 := rfl
      rw [this, sM_tr]
    have inn : ∀ rc : Int32 × zS → Option zS, ∃ tr', zfix (F_X5_findSoonest_105 rc (nI c) (nI W)) zN (0, 1, nI k - 1, sM M (fw (fun r acc => upO acc (evR (tqC M n) (lgC M n) (ldC M) (fgC n) (npN n) W k (M.2.2 16) 0 0 r)) c none) (cpy (M.2.2 16) tr 0 0 22)) = rc (nI (c + 1), sM M (fw (fun r acc => upO acc (evR (tqC M n) (lgC M n) (ldC M) (fgC n) (npN n) W k (M.2.2 16) 0 0 r)) (c + 1) none) tr') := by
      intro rc
      have i := m_inner h hnp hB rc c (by omega) (fw (fun r acc => upO acc (evR (tqC M n) (lgC M n) (ldC M) (fgC n) (npN n) W k (M.2.2 16) 0 0 r)) c none) (acc c) k (cpy (M.2.2 16) tr 0 0 22) 0 0 zN okc h21 hk (by omega) (by
        rcases (by omega : k = 1 ∨ k = 2 ∨ k = 3) with rfl | rfl | rfl <;> decide) (by unfold zN; omega)
      rw [hWW, evR_cong h.2.1 hnp k _ _ 0 0 c q22, nI_1] at i
      obtain ⟨tr', i⟩ := i
      refine ⟨tr', ?_⟩
      rw [show nI k - 1 = nI k + (-1) by rw [Int32.sub_eq_add_neg]]
      exact i
    obtain ⟨tr', e⟩ := inn rc
    refine ⟨(nI (c + 1), sM M (fw (fun r acc => upO acc (evR (tqC M n) (lgC M n) (ldC M) (fgC n) (npN n) W k (M.2.2 16) 0 0 r)) (c + 1) none) tr'), ?_, by omega, tr', rfl⟩
    unfold F_X5_findSoonest_69
    dsimp only
    rw [pw, Option.bind_some, zj, if_neg hle, if_neg hkk, cp, Option.bind_some, zl]
    exact e) (W ^ k) (0, sM M none tr0) zN ⟨Nat.le_refl _, tr0, by rw [Nat.sub_self]; rfl⟩ (by unfold zN; omega)
  rw [Nat.sub_zero] at he1
  obtain ⟨rfl, rfl⟩ : e1 = nI (W ^ k) ∧ e2 = sM M (fw (fun r acc => upO acc (evR (tqC M n) (lgC M n) (ldC M) (fgC n) (npN n) W k (M.2.2 16) 0 0 r)) (W ^ k) none) tr := ⟨congrArg Prod.fst he1, congrArg Prod.snd he1⟩
  refine ⟨tr, ?_⟩
  rw [he]
  unfold F_X5_findSoonest_69
  dsimp only
  rw [pw, Option.bind_some, zj, if_pos (Int32.le_refl _)]
