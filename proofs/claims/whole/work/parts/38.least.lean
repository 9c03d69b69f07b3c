/-! ===== the class's least legs ===== -/
theorem lN_toI {n : Nat} (h : n < 9223372036854775808) : (lN n).toInt = (n : Int) := Int64.toInt_ofNat_of_lt (by omega)
theorem lN_ltI {a b : Nat} (ha : a < 9223372036854775808) (hb : b < 9223372036854775808) : lN a < lN b ↔ a < b := by
  rw [Int64.lt_iff_toInt_lt, lN_toI ha, lN_toI hb]; omega
/-- the boats from b on that are not through: m are left -/
def lst (u : Nat → Bool) : Nat → Nat → List Nat
  | 0, _ => []
  | m + 1, b => if u b then lst u m (b + 1) else b :: lst u m (b + 1)
theorem lN_room {a c : Nat} (h1 : a ≤ 1000) (h2 : c + 1 ≤ 1000000000) : a * 1000000000 + c < 9223372036854775808 := by omega
theorem x_nextToLeg {S M : zS} (h : rTn S M) : ∀ m fuel b, (M.1 7).toNatClampNeg = b + m → m < fuel →
    (zfix (F_X4_nextToLeg_2 S) fuel (nI b) = some (M.1 7) ∧ lst (fun b => bt (S.1 17) b) m b = []) ∨
    (∃ b1 m1, (M.1 7).toNatClampNeg = b1 + (m1 + 1) ∧ m1 < m ∧ zfix (F_X4_nextToLeg_2 S) fuel (nI b) = some (nI b1) ∧ lst (fun b => bt (S.1 17) b) m b = b1 :: lst (fun b => bt (S.1 17) b) m1 (b1 + 1)) := by
  obtain ⟨t1, t2, t3, t4, t5, t6, t7, t8, t9, t10, t11⟩ := h
  have hB : (M.1 7).toNatClampNeg < 4 := toN_lt (n := 4) 4 rfl (by decide) (Int32.lt_of_le_of_lt t9 (by decide)) (by decide)
  have eB : M.1 7 = nI (M.1 7).toNatClampNeg := (ofN_toN t8).symm
  intro m
  induction m with
  | zero =>
    intro fuel b e hf
    obtain ⟨f, rfl⟩ : ∃ f, fuel = f + 1 := ⟨fuel - 1, by omega⟩
    have hle : S.1 12 ≤ nI b := by rw [t7, eB]; exact nI_le (by omega) (by omega)
    refine .inl ⟨?_, rfl⟩
    have e : (M.1 7).toNatClampNeg = b := by omega
    rw [zfix_s]
    simp only [F_X4_nextToLeg_2, zj, if_pos hle]
    rw [eB, e]
  | succ m ih =>
    intro fuel b e hf
    obtain ⟨f, rfl⟩ : ∃ f, fuel = f + 1 := ⟨fuel - 1, by omega⟩
    have hle : ¬ S.1 12 ≤ nI b := by rw [t7, eB]; exact nI_ge (by omega) (by omega)
    have hb4 := nI_4 (k := b) (by omega)
    have i1 : nI b + 1 = nI (b + 1) := nI_1 b
    rw [zfix_s]
    by_cases ub : bt (S.1 17) b = true
    · have e1 : lst (fun b => bt (S.1 17) b) (m + 1) b = lst (fun b => bt (S.1 17) b) m (b + 1) := if_pos ub
      have ee : F_X4_nextToLeg_2 S (zfix (F_X4_nextToLeg_2 S) f) (nI b) = zfix (F_X4_nextToLeg_2 S) f (nI (b + 1)) := by
        simp only [F_X4_nextToLeg_2, zj, if_neg hle, x_isIn' _ _ hb4, nI_clamp (show b < 2 ^ 31 by omega), ub, if_true, Option.bind_some, show ¬ (1 : Int32) = 0 by decide, if_false, i1]
      rw [ee, e1]
      rcases ih f (b + 1) (by omega) (by omega) with ⟨r1, r2⟩ | ⟨b1, m1, r1, r2, r3, r4⟩
      · exact .inl ⟨r1, r2⟩
      · exact .inr ⟨b1, m1, r1, by omega, r3, r4⟩
    · have ub := Bool.eq_false_iff.mpr ub
      have e1 : lst (fun b => bt (S.1 17) b) (m + 1) b = b :: lst (fun b => bt (S.1 17) b) m (b + 1) := by
        show (if bt (S.1 17) b then _ else _) = _
        rw [ub]; rfl
      refine .inr ⟨b, m, e, by omega, ?_, e1⟩
      simp only [F_X4_nextToLeg_2, zj, if_neg hle, x_isIn' _ _ hb4, nI_clamp (show b < 2 ^ 31 by omega), ub, Bool.false_eq_true, if_false, if_true, Option.bind_some]
theorem x_leastLegs {S M : zS} (h : rTn S M) : ∀ m fuel b T (p : Nat → Int32) sp rw_ L, (M.1 7).toNatClampNeg = b + m → m < fuel → cPg (S.1 15) T p → L ≤ cMax → sp + 63 * m ≤ 1000 → 1000 ^ m * (rw_ + 1) ≤ 1000000000 →
    zfix (F_X4_leastLegs S) fuel (nI b, T, nI sp, nI rw_, lN L) = some (lN (cF (tqC M (M.1 5).toNatClampNeg) (lgC M (M.1 5).toNatClampNeg) (ldC M) (fgC (M.1 5).toNatClampNeg) (npN (M.1 5).toNatClampNeg) (lst (fun b => bt (S.1 17) b) m b) p rw_ sp L)) := by
  obtain ⟨t1, t2, t3, t4, t5, t6, t7, t8, t9, t10, t11⟩ := h
  have h : rTn S M := ⟨t1, t2, t3, t4, t5, t6, t7, t8, t9, t10, t11⟩
  have hB : (M.1 7).toNatClampNeg < 4 := toN_lt (n := 4) 4 rfl (by decide) (Int32.lt_of_le_of_lt t9 (by decide)) (by decide)
  have eB : M.1 7 = nI (M.1 7).toNatClampNeg := (ofN_toN t8).symm
  have hn : (M.1 5).toNatClampNeg < 5 := toN_lt (n := 5) 5 rfl (by decide) (Int32.lt_of_le_of_lt t6 (by decide)) (by decide)
  have en : M.1 5 = nI (M.1 5).toNatClampNeg := (ofN_toN t5).symm
  generalize hnn : (M.1 5).toNatClampNeg = n at *
  have c9 : (1000000000 : Int64) = lN 1000000000 := rfl
  intro m
  induction m using Nat.strongRecOn with
  | _ m0 ih =>
    intro fuel b0 T p sp rw_ L e hf hp hL hsp hrw
    obtain ⟨f, rfl⟩ : ∃ f, fuel = f + 1 := ⟨fuel - 1, by omega⟩
    have hL' : L ≤ 1000000000000 := hL
    have ex : (nI sp).toInt64 * 1000000000 = lN (sp * 1000000000) := by rw [nI_l (by omega), c9, lN_mul]
    have hpw0 : 1 ≤ 1000 ^ m0 := Nat.pow_pos (by decide)
    have hrw0 : rw_ + 1 ≤ 1000000000 := Nat.le_trans (Nat.le_mul_of_pos_left _ hpw0) hrw
    have hsp1 : sp ≤ 1000 := by omega
    have hL2 : L < 9223372036854775808 := Nat.lt_of_le_of_lt hL' (by decide)
    have okp : okPg p := fun j hj => hp.b j hj
    rw [zfix_s]
    by_cases q : sp * 1000000000 < L
    · have q' : lN (sp * 1000000000) < lN L := (lN_ltI (by omega) (by omega)).mpr q
      rcases x_nextToLeg h m0 zN b0 e (by unfold zN; omega) with ⟨nx, e1⟩ | ⟨b, m, e2, hm, nx, e1⟩
      · have nx : f_X4_nextToLeg (nI b0) S = some (M.1 7) := nx
        have hlt : ¬ M.1 7 < S.1 12 := by rw [t7]; exact Int32.lt_irrefl
        have er : F_X4_leastLegs S (zfix (F_X4_leastLegs S) f) (nI b0, T, nI sp, nI rw_, lN L) = some (if lN (sp * 1000000000) + (nI rw_).toInt64 < lN L then lN (sp * 1000000000) + (nI rw_).toInt64 else lN L) := by
          generalize lN (sp * 1000000000) = X at ex q'
          simp only [F_X4_leastLegs, zl, ex, cmp_lt, if_pos q', nx, Option.bind_some, if_neg hlt]
        rw [er, e1, nI_l (show rw_ < 2 ^ 31 by omega), lN_add]
        show _ = some (lN (min L (sp * 1000000000 + rw_)))
        have d := lN_ltI (lN_room (a := sp) (c := rw_) hsp1 hrw0) hL2
        by_cases q2 : sp * 1000000000 + rw_ < L
        · rw [if_pos (d.mpr q2), Nat.min_eq_right (Nat.le_of_lt q2)]
        · rw [if_neg (fun z => q2 (d.mp z)), Nat.min_eq_left (Nat.le_of_not_lt q2)]
      · have nx : f_X4_nextToLeg (nI b0) S = some (nI b) := nx
        have hlt : nI b < S.1 12 := by rw [t7, eB]; exact nI_lt (by omega) (by omega)
        have hb4 := nI_4 (k := b) (by omega)
        have ep : 1000 ^ (m + 1) * (rw_ + 1) = 1000 ^ m * (1000 * (rw_ + 1)) := by rw [Nat.pow_succ, Nat.mul_assoc]
        have hrw := Nat.le_trans (Nat.mul_le_mul_right (rw_ + 1) (Nat.pow_le_pow_right (show 0 < 1000 by decide) (show m + 1 ≤ m0 by omega))) hrw
        rw [ep] at hrw
        have hpw : 1 ≤ 1000 ^ m := Nat.pow_pos (by decide)
        have hrw2 : 1000 * (rw_ + 1) ≤ 1000000000 := Nat.le_trans (Nat.le_mul_of_pos_left _ hpw) hrw
        have i1 : nI b + 1 = nI (b + 1) := nI_1 b
        simp only [F_X4_leastLegs, zl, ex, cmp_lt, if_pos q', nx, Option.bind_some, if_pos hlt, e1]
        -- the double loop
        obtain ⟨ld1, ld2, ld3, ld4⟩ := load_ok h (b := b) (by omega)
        let st : {L : Nat // L ≤ cMax} → Int32 → Int32 → {L : Nat // L ≤ cMax} := fun L i j =>
          ⟨cF (tqC M n) (lgC M n) (ldC M) (fgC n) (npN n) (lst (fun b => bt (S.1 17) b) m (b + 1)) (gol p (nI b) i j (pT M p i j + M.2.2 8 b)) (1000 * rw_ + (100 * b + 10 * i.toNatClampNeg + j.toNatClampNeg)) (sp + (pT M p i j).toNatClampNeg + ldC M b) L.1, Nat.le_trans (cF_le _ _ _ _ _) L.2⟩
        have run := fO_run (n := M.1 5) (Fo := F_X4_leastLegs_57 S (zfix (F_X4_leastLegs S) f) (nI b) T (nI sp) (nI rw_)) (Fi := fun rc i => F_X4_leastLegs_75 S rc i (zfix (F_X4_leastLegs S) f) (nI b) T (nI sp) (nI rw_)) (eO := fun (a : {L : Nat // L ≤ cMax}) i => (lN a.1, i)) (eI := fun (a : {L : Nat // L ≤ cMax}) i => (lN a.1, i)) (st := st) (K := fun a => some (lN a.1)) t5 t6
          (by
            intro rc a i h0 h1
            simp only [F_X4_leastLegs_57, t4, if_neg (Int32.not_le.mpr h1), zl])
          (by
            intro rc a i h0
            simp only [F_X4_leastLegs_57, t4, if_pos h0])
          (by
            intro rc rc2 a i j h0 h1 h2
            have hi : 0 ≤ i ∧ i < M.1 5 := ⟨h0, Int32.lt_trans h1 h2⟩
            have hj : 0 ≤ j ∧ j < M.1 5 := ⟨Int32.le_trans h0 (Int32.le_of_lt h1), h2⟩
            have hi4 : 0 ≤ i ∧ i < 4 := ⟨hi.1, Int32.lt_of_lt_of_le hi.2 t6⟩
            have hj4 : 0 ≤ j ∧ j < 4 := ⟨hj.1, Int32.lt_of_lt_of_le hj.2 t6⟩
            have ci := tN_c hi4.1 hi4.2
            have cj := tN_c hj4.1 hj4.2
            obtain ⟨t, ht, et⟩ := pT_b M ⟨Int32.le_trans (by decide) t2, t3⟩ okp hi4 hj4
            have pm := x_pairMinutes i j 0 0 T S (fun a => p (0 + 4 * i + a).toNatClampNeg) (fun a => p (0 + 4 * j + a).toNatClampNeg) (fun a a0 a1 => hp.gr hi4.1 hi4.2 a0 a1) (fun a a0 a1 => hp.gr hj4.1 hj4.2 a0 a1) (by rw [t1]; exact ⟨Int32.le_trans (by decide) t2, t3⟩) (by decide) (by decide)
            rw [t1, t10 i hi.1 hi.2, t10 j hj.1 hj.2, hp.td hi4.1 hi4.2, hp.td hj4.1 hj4.2] at pm
            have pm : f_X4_pairMinutes i j 0 0 T S = some (nI t) := pm.trans (by rw [← et]; rfl)
            have l9 : ldC M b ≤ 9 := by unfold ldC; omega
            have a3 : nI sp + nI t + nI (ldC M b) = nI (sp + t + ldC M b) := by rw [nI_add, nI_add]
            have ei : i = nI i.toNatClampNeg := (ofN_toN hi4.1).symm
            have ej : j = nI j.toNatClampNeg := (ofN_toN hj4.1).symm
            have a4 : nI rw_ * 1000 + 100 * nI b + 10 * i + j = nI (1000 * rw_ + (100 * b + 10 * i.toNatClampNeg + j.toNatClampNeg)) := by
              rw [ei, ej, show (1000 : Int32) = nI 1000 from rfl, show (100 : Int32) = nI 100 from rfl, show (10 : Int32) = nI 10 from rfl, pk_mul, pk_mul, pk_mul, nI_add, nI_add, nI_add, nI_clamp (by omega), nI_clamp (by omega)]
              congr 1; omega
            have hp2 := (st4_gol (b := nI b) (d := pT M p i j + M.2.2 8 b) ⟨hp, rfl, rfl⟩ hi4 hj4).1
            have hrw4 : 1000 ^ m * (1000 * rw_ + (100 * b + 10 * i.toNatClampNeg + j.toNatClampNeg) + 1) ≤ 1000000000 := Nat.le_trans (Nat.mul_le_mul_left _ (by omega)) hrw
            have r := ih m hm f (b + 1) (tire1 (tire1 T i) j) (gol p (nI b) i j (pT M p i j + M.2.2 8 b)) (sp + t + ldC M b) (1000 * rw_ + (100 * b + 10 * i.toNatClampNeg + j.toNatClampNeg)) a.1 (by omega) (by omega) hp2 a.2 (by omega) hrw4
            simp only [F_X4_leastLegs_75, g_X4_leastBehind, t4, if_neg (Int32.not_le.mpr h2), pm, Option.bind_some, x_loadOf, ld4, zl, a3, a4, x_tireBoth, i1, r]
            have : (pT M p i j).toNatClampNeg = t := by rw [et, nI_clamp (by omega)]
            simp only [st, this])
          (by
            intro rc rc2 a i j h0
            simp only [F_X4_leastLegs_75, t4, if_pos h0])
          ⟨L, hL⟩
        have run : zfix (F_X4_leastLegs_57 S (zfix (F_X4_leastLegs S) f) (nI b) T (nI sp) (nI rw_)) zN (lN L, 0) = some (lN (fO st (M.1 5).toNatClampNeg 0 ⟨L, hL⟩).1) := run
        rw [run, hnn, fO_fw st n hn]
        have key : ∀ k, k ≤ npN n → (fw (fun q a => st a (nI (p1 n q)) (nI (p2 n q))) k ⟨L, hL⟩).1 = fw (fun q acc => cF (tqC M n) (lgC M n) (ldC M) (fgC n) (npN n) (lst (fun b => bt (S.1 17) b) m (b + 1)) (lgC M n p b q) (1000 * rw_ + fgC n b q) (sp + tqC M n p q + ldC M b) acc) k L := by
          intro k
          induction k with
          | zero => intro _; rfl
          | succ k ihk =>
            intro hk
            have h6 := npN_le n hn
            obtain ⟨z1, z2, -⟩ := prs_b n hn k (by omega)
            obtain ⟨y1, y2, -⟩ := leg_ok ⟨t2, t3⟩ n hn okp (show k < npN n by omega)
            show (st (fw (fun q a => st a (nI (p1 n q)) (nI (p2 n q))) k ⟨L, hL⟩) (nI (p1 n k)) (nI (p2 n k))).1 = cF (tqC M n) (lgC M n) (ldC M) (fgC n) (npN n) (lst (fun b => bt (S.1 17) b) m (b + 1)) (lgC M n p b k) (1000 * rw_ + fgC n b k) (sp + tqC M n p k + ldC M b) (fw _ k L)
            rw [← ihk (by omega)]
            have g1 : gol p (nI b) (nI (p1 n k)) (nI (p2 n k)) (pT M p (nI (p1 n k)) (nI (p2 n k)) + M.2.2 8 b) = lgC M n p b k := by
              unfold lgC; rw [y1, ld1, nI_add]
            have g2 : 100 * b + 10 * (nI (p1 n k)).toNatClampNeg + (nI (p2 n k)).toNatClampNeg = fgC n b k := by
              unfold fgC; rw [if_pos (by omega), nI_clamp (by omega), nI_clamp (by omega)]
            have g3 : (pT M p (nI (p1 n k)) (nI (p2 n k))).toNatClampNeg = tqC M n p k := by rw [y1, nI_clamp (by omega)]
            simp only [st, g1, g2, g3]
        rw [key (npN n) (Nat.le_refl _)]
        rfl
    · have q' : ¬ lN (sp * 1000000000) < lN L := fun z => q ((lN_ltI (by omega) (by omega)).mp z)
      simp only [F_X4_leastLegs, zl, ex, cmp_lt, if_neg q']
      rw [cF_prune _ _ _ _ _ (by omega)]
