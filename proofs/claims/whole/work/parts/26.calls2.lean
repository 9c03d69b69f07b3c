/-! ===== calls that change the page: leg, rest, wet, dry, undo; alone ===== -/
theorem Rel.note {S M : zS} (h : Rel S M) : ∃ S' M', f_X0_remember S = some S' ∧ f_X5_note M = some M' ∧ Rel S' M' ∧ (∀ j, j ≠ 19 → j ≠ 20 → S'.1 j = S.1 j) ∧ (∀ j, j ≠ 18 → M'.1 j = M.1 j) ∧ (∀ j, j ≠ 17 → M'.2.2 j = M.2.2 j) := by
  obtain ⟨tx, tn, pg, ac, sl, se, sd⟩ := h
  obtain ⟨S', M', h1, h2, h3, h4, h5, h6, h7, h8, h9⟩ := note_rel S M ac pg
  refine ⟨S', M', h1, h2, ⟨?_, ?_, ?_, h3, ?_, ?_, ?_⟩, h6, h8, h9⟩
  · unfold rTx; rw [h6 9 (by decide) (by decide), h8 2 (by decide), h7 6 (by decide), h9 1 (by decide)]; exact tx
  · unfold rTn; rw [h6 10 (by decide) (by decide), h6 11 (by decide) (by decide), h6 12 (by decide) (by decide), h6 13 (by decide) (by decide), h6 14 (by decide) (by decide), h8 4 (by decide), h8 5 (by decide), h8 7 (by decide), h9 6 (by decide), h9 8 (by decide)]; exact tn
  · unfold rPg; rw [h6 15 (by decide) (by decide), h6 16 (by decide) (by decide), h6 17 (by decide) (by decide), h6 18 (by decide) (by decide), h9 14 (by decide)]; exact pg
  · unfold rSl; rw [h6 6 (by decide) (by decide), h7 4 (by decide), h9 20 (by decide), h9 19 (by decide)]; exact sl
  · unfold rSe; rw [h6 7 (by decide) (by decide), h6 8 (by decide) (by decide), h8 21 (by decide), h9 22 (by decide), h9 23 (by decide)]; exact se
  · rw [h4, h5]; exact sd
/-- a page behind a leg -/
def tpg (p : Nat → Int32) (g : Int32) : Nat → Int32 := upd p (16 + g).toNatClampNeg (p (16 + g).toNatClampNeg + (if 3 ≤ p (16 + g).toNatClampNeg then 0 else 1))
def gol (p : Nat → Int32) (b g k d : Int32) : Nat → Int32 := tpg (tpg (upd (upd p 21 (p 21 + d)) 20 (p 20 ||| zshl 1 b)) g) k
theorem m_goLeg (kk : Nat) (b g k t : Int32) (M : zS) (hb : 0 ≤ b ∧ b < 3) (hg : 0 ≤ g ∧ g < 4) (hk : 0 ≤ k ∧ k < 4) (ht : f_X5_timeOf kk g k 0 0 M = some t) (h6 : kk ≠ 6) (h8 : kk ≠ 8) :
    f_X5_goLeg kk b g k M = some (M.1, M.2.1, zur M.2.2 kk (gol (M.2.2 kk) b g k (t + M.2.2 8 b.toNatClampNeg))) := by
  have c1 : 0 ≤ 16 + g := by grind
  have c2 : 16 + g < 22 := by grind
  have c3 : 0 ≤ 16 + k := by grind
  have c4 : 16 + k < 22 := by grind
  have e21 : (21 : Int32).toNatClampNeg = 21 := by decide
  have e20 : (20 : Int32).toNatClampNeg = 20 := by decide
  unfold f_X5_goLeg
  simp only [gdz22 (show (0 : Int32) ≤ 20 by decide) (show (20 : Int32) < 22 by decide), gdz22 (show (0 : Int32) ≤ 21 by decide) (show (21 : Int32) < 22 by decide), ht, Option.bind_some, gdz3 hb.1 hb.2, gdz22 c1 c2, gdz22 c3 c4, zl, zj, zur_at, zur_zur, e21, e20]
  simp only [gol, tpg, show upd (M.2.2 kk) 21 (M.2.2 kk 21 + (t + M.2.2 8 b.toNatClampNeg)) 20 = M.2.2 kk 20 from rfl]
  generalize upd (upd (M.2.2 kk) 21 (M.2.2 kk 21 + (t + M.2.2 8 b.toNatClampNeg))) 20 (M.2.2 kk 20 ||| zshl 1 b) = p
  by_cases d : 3 ≤ p (16 + g).toNatClampNeg
  · simp only [if_pos d]
    split <;> rfl
  · simp only [if_neg d]
    split <;> rfl
theorem fl_cap {w : Int32} {n : Nat} : (fl w n < 3 → ¬ 3 ≤ fl w n) ∧ (¬ fl w n < 3 → 3 ≤ fl w n) := by
  have := fl_b w n
  grind
theorem cPg_tpg {G T : Int32} {p : Nat → Int32} (h : cPg G T p) {g : Int32} (h0 : 0 ≤ g) (h1 : g < 4) : cPg G (tire1 T g) (tpg p g) := by
  have hg := tN_c h0 h1
  refine ⟨?_, ?_⟩
  · intro j hj
    unfold tpg
    rw [tN_16 h0 h1, upd_apply, if_neg (by omega)]
    exact h.1 j hj
  · intro j hj
    rw [fl_tire T g h0 h1 j hj]
    unfold tpg
    rw [tN_16 h0 h1, upd_apply]
    by_cases c : j = g.toNatClampNeg
    · rw [if_pos (by omega : 16 + j = 16 + g.toNatClampNeg)]
      subst c
      have e := h.2 _ hg
      rw [← e]
      have q := fl_cap (w := T) (n := 2 * g.toNatClampNeg)
      by_cases d : fl T (2 * g.toNatClampNeg) < 3
      · rw [if_pos ⟨rfl, d⟩, if_neg (q.1 d)]
      · rw [if_neg (fun x => d x.2), if_pos (q.2 d), Int32.add_zero]
    · rw [if_neg (fun x => c x.1), if_neg (by omega)]
      exact h.2 j hj
theorem st4_gol {G T Th C : Int32} {p : Nat → Int32} (h : st4 G T Th C p) {b g k d : Int32} (hg : 0 ≤ g ∧ g < 4) (hk : 0 ≤ k ∧ k < 4) : st4 G (tire1 (tire1 T g) k) (Th ||| zshl 1 b) (C + d) (gol p b g k d) := by
  have cg := tN_c hg.1 hg.2
  have ck := tN_c hk.1 hk.2
  obtain ⟨h1, h2, h3⟩ := h
  have q : cPg G T (upd (upd p 21 (p 21 + d)) 20 (p 20 ||| zshl 1 b)) := by
    refine ⟨fun j hj => ?_, fun j hj => ?_⟩
    · rw [upd_apply, if_neg (by omega), upd_apply, if_neg (by omega)]; exact h1.1 j hj
    · rw [upd_apply, if_neg (by omega), upd_apply, if_neg (by omega)]; exact h1.2 j hj
  refine ⟨cPg_tpg (cPg_tpg q hg.1 hg.2) hk.1 hk.2, ?_, ?_⟩
  · unfold gol tpg
    rw [tN_16 hg.1 hg.2, tN_16 hk.1 hk.2, upd_apply, if_neg (by omega), upd_apply, if_neg (by omega), upd_apply, if_pos rfl, h2]
  · unfold gol tpg
    rw [tN_16 hg.1 hg.2, tN_16 hk.1 hk.2, upd_apply, if_neg (by omega), upd_apply, if_neg (by omega), upd_apply, if_neg (by decide), upd_apply, if_pos rfl, h3]
theorem isIn_has (w b : Int32) (hb : 0 ≤ b ∧ b < 4) : (zushr w b &&& 1 = 0 ↔ bt w b.toNatClampNeg = false) ∧ (zshr w b &&& 1 = 1 ↔ bt w b.toNatClampNeg = true) := by
  have hn := tN_c hb.1 hb.2
  have h32 : b < 32 := by grind
  have e : zushr w b &&& 1 = if bt w b.toNatClampNeg then 1 else 0 := by
    apply bt_ext
    intro i hi
    rw [bt_and, bt_1, bt_ushr w hb.1 h32]
    by_cases h : i = 0
    · subst h
      rw [Nat.add_zero]
      cases bt w b.toNatClampNeg <;> decide
    · have q : ∀ i, i < 32 → i ≠ 0 → bt 1 i = false := by decide +kernel
      have q1 := q i hi h
      cases bt w b.toNatClampNeg
      · simp [h, bt_0]
      · simp [h, q1]
  have e2 : zshr w b &&& 1 = zushr w b &&& 1 := by
    apply bt_ext
    intro i hi
    rw [bt_and, bt_and, bt_1]
    by_cases h : i = 0
    · subst h
      simp only [decide_true, Bool.and_true]
      rw [bt_ushr w hb.1 h32]
      have e0 := ofN_toN hb.1
      rw [← e0]
      unfold bt zshr
      rw [Int32.toBitVec_shiftRight]
      rw [BitVec.sshiftRight_eq', BitVec.getLsbD_sshiftRight]
      have := shl_amt b.toNatClampNeg (by omega)
      rw [this, toN_ofN (by omega)]
      simp
      intro hh
      omega
    · simp [h]
  rw [e2, e]
  constructor
  · cases bt w b.toNatClampNeg <;> decide
  · cases bt w b.toNatClampNeg <;> decide
theorem m_has (w b : Int32) (hb : 0 ≤ b ∧ b < 4) : f_X5_has w b = some (if bt w b.toNatClampNeg then 1 else 0) := by
  simp only [f_X5_has, zj, zb0, zb1]
  by_cases h : bt w b.toNatClampNeg = true
  · rw [if_pos ((isIn_has w b hb).2.mpr h), if_pos h]
  · rw [if_neg (fun q => h ((isIn_has w b hb).2.mp q)), if_neg h]
theorem x_isIn' (w b : Int32) (hb : 0 ≤ b ∧ b < 4) : f_X4_isIn w b = some (if bt w b.toNatClampNeg then 1 else 0) := by
  rw [x_isIn]
  have := (isIn_has w b hb).1
  cases h : bt w b.toNatClampNeg
  · rw [if_pos (this.mpr h)]; rfl
  · rw [if_neg (fun q => by rw [this.mp q] at h; cases h)]; rfl
theorem c_leg (a b c : Int32) (S M : zS) (h : Rel S M) : AnsW (f_X4_leg a b c S) (f_X5_leg a b c M) := by
  have hR : Rel S (upd M.1 0 0, M.2) := h
  obtain ⟨t1, t2, t3, t4, t5, t6, t7, t8, t9, t10, t11⟩ := h.2.1
  have pth := h.2.2.1.2.1
  unfold f_X4_leg f_X5_leg
  simp only [zl, zj, x_pairRefusal, m_noPair a b c (upd M.1 0 0, M.2) t5 t8, Option.bind_some, t4, t7, show upd M.1 0 0 7 = M.1 7 from rfl, show upd M.1 0 0 5 = M.1 5 from rfl]
  by_cases d : (0 ≤ a ∧ a < M.1 7) ∧ (0 ≤ b ∧ b < M.1 5) ∧ 0 ≤ c ∧ c < M.1 5
  · simp only [if_pos d]
    have ha3 : 0 ≤ a ∧ a < 3 := by grind
    have ha4 : 0 ≤ a ∧ a < 4 := by grind
    have hb4 : 0 ≤ b ∧ b < 4 := by grind
    have hc4 : 0 ≤ c ∧ c < 4 := by grind
    by_cases e : b = c
    · simp only [if_pos e, show ¬ (-2 : Int32) = 0 by decide, if_false]
      exact ansW rfl rfl rfl hR
    · have e20 : (20 : Int32).toNatClampNeg = 20 := by decide
      have e21 : (21 : Int32).toNatClampNeg = 21 := by decide
      simp only [if_neg e, if_true, x_isIn' _ a ha4, m_has _ a ha4, gdz22 (show (0 : Int32) ≤ 20 by decide) (show (20 : Int32) < 22 by decide), gdz22 (show (0 : Int32) ≤ 21 by decide) (show (21 : Int32) < 22 by decide), Option.bind_some, e20, e21]
      rw [pth]
      cases f : bt (M.2.2 14 20) a.toNatClampNeg
      · obtain ⟨S', M', n1, n2, n3, n4, n5, n6⟩ := hR.note
        simp only [Bool.false_eq_true, if_false, if_true, n1, n2, Option.bind_some]
        have tn' := n3.2.1
        have pg' := n3.2.2.1
        have m5 : M'.1 5 = M.1 5 := n5 5 (by decide)
        have m7 : M'.1 7 = M.1 7 := n5 7 (by decide)
        have m8 : M'.2.2 8 = M.2.2 8 := n6 8 (by decide)
        obtain ⟨t, q1, q2, -⟩ := pair_eq tn' (S'.1 15) (S'.1 16) 14 rfl pg'.1 b c 0 0 (by rw [m5]; exact d.2.1) (by rw [m5]; exact d.2.2) (by decide) (by decide)
        have q3 := m_goLeg 14 a b c t M' ha3 hb4 hc4 q2 (by decide) (by decide)
        have q4 := (tn'.2.2.2.2.2.2.2.2.2.2 a d.1.1 (by rw [m7]; exact d.1.2)).1
        simp only [q1, q3, Option.bind_some, x_loadOf, x_tireBoth, zl, zur_at]
        rw [q4]
        have pg2 := st4_gol pg' (b := a) (d := t + M'.2.2 8 a.toNatClampNeg) hb4 hc4
        refine ansW rfl rfl ?_ ⟨n3.1, tn', pg2, n3.2.2.2.1, n3.2.2.2.2.1, n3.2.2.2.2.2.1, n3.2.2.2.2.2.2⟩
        exact pg2.2.2
      · simp only [if_true, show ¬ (1 : Int32) = 0 by decide, if_false]
        exact ansW rfl rfl rfl hR
  · simp only [if_neg d, show ¬ (-1 : Int32) = 0 by decide, if_false]
    exact ansW rfl rfl rfl hR
