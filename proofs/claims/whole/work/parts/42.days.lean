/-! ===== days ===== -/
def dS (S : zS) (G T Th C : Int32) (sd : Int64) : zS := (upd (upd (upd (upd S.1 15 G) 16 T) 17 Th) 18 C, sd, S.2.2)
def dM (M : zS) (c x y : Int32) (p a3 a4 tr : Nat → Int32) (sd : Int64) : zS := (upd (upd (upd M.1 36 c) 29 x) 30 y, sd, zur (zur (zur (zur M.2.2 16 p) 34 a3) 35 a4) 15 tr)
theorem dS_put (S : zS) (G T Th C : Int32) (sd : Int64) (v : Int32) : ((upd (dS S G T Th C sd).1 16 v, (dS S G T Th C sd).2) = dS S G v Th C sd) ∧ ((upd (dS S G T Th C sd).1 15 v, (dS S G T Th C sd).2) = dS S v T Th C sd) ∧ ((upd (dS S G T Th C sd).1 17 v, (dS S G T Th C sd).2) = dS S G T v C sd) ∧ ((upd (dS S G T Th C sd).1 18 v, (dS S G T Th C sd).2) = dS S G T Th v sd) := by
  have main : ∀ (f g : Nat → Int32), (∀ j, j = 18 ∨ j = 17 ∨ j = 16 ∨ j = 15 ∨ (j ≠ 18 ∧ j ≠ 17 ∧ j ≠ 16 ∧ j ≠ 15) → f j = g j) → f = g := fun f g h => funext fun j => h j (by omega)
  refine ⟨?_, ?_, ?_, ?_⟩ <;> refine Prod.ext (main _ _ ?_) rfl <;> (rintro j (rfl | rfl | rfl | rfl | ⟨h1, h2, h3, h4⟩)) <;> first | rfl | simp only [dS, upd_apply, if_neg h1, if_neg h2, if_neg h3, if_neg h4]
theorem dM_base (M : zS) (c x y : Int32) (p a3 a4 tr : Nat → Int32) (sd : Int64) (p' : Nat → Int32) : ((dM M c x y p a3 a4 tr sd).1, (dM M c x y p a3 a4 tr sd).2.1, zur (dM M c x y p a3 a4 tr sd).2.2 16 p') = dM M c x y p' a3 a4 tr sd := by
  refine Prod.ext rfl (Prod.ext rfl ?_)
  funext j
  simp only [dM, zur_apply]
  by_cases h1 : j = 16
  · simp [h1]
  · simp only [if_neg h1]
theorem dM_fs (M : zS) (c x y : Int32) (p a3 a4 tr : Nat → Int32) (sd : Int64) (c' x' y' : Int32) (b3 b4 tr' : Nat → Int32) : fsM (dM M c x y p a3 a4 tr sd) c' x' y' b3 b4 tr' = dM M c' x' y' p b3 b4 tr' sd := by
  unfold fsM dM
  refine Prod.ext ?_ (Prod.ext rfl ?_)
  · funext j
    simp only [upd_apply]
    by_cases h1 : j = 30
    · simp [h1]
    · by_cases h2 : j = 29
      · simp [h2]
      · by_cases h3 : j = 36
        · simp [h3]
        · simp [h1, h2, h3]
  · funext j
    simp only [zur_apply]
    by_cases h1 : j = 15
    · simp [h1]
    · by_cases h2 : j = 35
      · simp [h2]
      · by_cases h3 : j = 34
        · simp [h3]
        · simp [h1, h2, h3]
theorem tpg_comm (p : Nat → Int32) {g k : Int32} (hg : 0 ≤ g ∧ g < 4) (hk : 0 ≤ k ∧ k < 4) : tpg (tpg p g) k = tpg (tpg p k) g := by
  have cg := tN_c hg.1 hg.2
  have ck := tN_c hk.1 hk.2
  by_cases e : (16 + g).toNatClampNeg = (16 + k).toNatClampNeg
  · have : g = k := by
      rw [tN_16 hg.1 hg.2, tN_16 hk.1 hk.2] at e
      rw [← ofN_toN hg.1, ← ofN_toN hk.1]; congr 1; omega
    rw [this]
  · funext j
    unfold tpg
    simp only [upd_apply, if_neg e, if_neg (Ne.symm e)]
    by_cases h1 : j = (16 + k).toNatClampNeg
    · have h2 : ¬ j = (16 + g).toNatClampNeg := fun z => e (z.symm.trans h1)
      simp only [if_pos h1, if_neg h2]
    · simp only [if_neg h1]
def dD (n : Nat) (q : Nat) (p : Nat → Int32) : Nat → Int32 := tpg (tpg p (nI (p1 n q))) (nI (p2 n q))
theorem dD_comm (n : Nat) (hn : n < 5) (p : Nat → Int32) {q r : Nat} (hq : q < 6) (hr : r < 6) : dD n q (dD n r p) = dD n r (dD n q p) := by
  obtain ⟨a1, a2, -⟩ := prs_b n hn q hq
  obtain ⟨b1, b2, -⟩ := prs_b n hn r hr
  have c1 := nI_4 (k := p1 n q) (by omega)
  have c2 := nI_4 (k := p2 n q) a2
  have d1 := nI_4 (k := p1 n r) (by omega)
  have d2 := nI_4 (k := p2 n r) b2
  unfold dD
  rw [tpg_comm (tpg p _) d2 c1, tpg_comm p d1 c1, tpg_comm (tpg (tpg p _) _) d2 c2, tpg_comm (tpg p _) d1 c2]
theorem lg_dD (M : zS) (n : Nat) (hn : n < 5) (p : Nat → Int32) (b q : Nat) (hq : q < 6) : eqP (lgC M n p b q) (dD n q p) := by
  obtain ⟨a1, a2, -⟩ := prs_b n hn q hq
  have c1 := nI_4 (k := p1 n q) (by omega)
  have c2 := nI_4 (k := p2 n q) a2
  unfold lgC gol dD eqP
  refine tpg_cong (by omega) (by omega) (tpg_cong (by omega) (by omega) ?_ c1) c2
  intro j hj
  rw [upd_apply, if_neg (by omega), upd_apply, if_neg (by omega)]
theorem dD_cong (n : Nat) (hn : n < 5) {p p' : Nat → Int32} (h : eqP p p') {q : Nat} (hq : q < 6) : eqP (dD n q p) (dD n q p') := by
  obtain ⟨a1, a2, -⟩ := prs_b n hn q hq
  exact tpg_cong (by omega) (by omega) (tpg_cong (by omega) (by omega) h (nI_4 (by omega))) (nI_4 a2)
theorem cPg_dD {G T : Int32} {p : Nat → Int32} (h : cPg G T p) (n : Nat) (hn : n < 5) {q : Nat} (hq : q < 6) : cPg G (tire1 (tire1 T (nI (p1 n q))) (nI (p2 n q))) (dD n q p) := by
  obtain ⟨a1, a2, -⟩ := prs_b n hn q hq
  have c1 := nI_4 (k := p1 n q) (by omega)
  have c2 := nI_4 (k := p2 n q) a2
  exact cPg_tpg (cPg_tpg h c1.1 c1.2) c2.1 c2.2
theorem cPg_eqP {G T : Int32} {p p' : Nat → Int32} (h : cPg G T p) (e : eqP p p') : cPg G T p' := ⟨fun j hj => (h.1 j hj).trans (e j (by omega)), fun j hj => (h.2 j hj).trans (e _ (by omega))⟩
theorem go_step {M : zS} {n : Nat} (hs : 1 ≤ M.1 4 ∧ M.1 4 ≤ 6) (hn : n < 5) (c x : Int32) (R : Nat) (p a3 a4 tr : Nat → Int32) (sd : Int64) (hp : okPg p) (k b q : Nat) (hk : k < 3) (hR : R < 1000000000) (hd : R / 1000 ^ k % 1000 = fgC n b q) (hb : b < 3) (hq : q < npN n) (hld : M.2.2 8 b = nI (ldC M b)) (rc : Int32 × zS → Option zS) :
    F_X5_goSoonest_7 rc (nI k, dM M c x (nI R) p a3 a4 tr sd) = rc (nI k + (-1), dM M c x (nI R) (lgC M n p b q) a3 a4 tr sd) := by
  have h6 := npN_le n hn
  obtain ⟨a1, a2, -⟩ := prs_b n hn q (by omega)
  obtain ⟨y1, y2, y3⟩ := leg_ok hs n hn hp hq
  have c1 := nI_4 (k := p1 n q) (by omega)
  have c2 := nI_4 (k := p2 n q) a2
  have hb4 := nI_4 (k := b) (by omega)
  have e0 : ¬ nI k < 0 := nI_pos (by omega)
  have e30 : (dM M c x (nI R) p a3 a4 tr sd).1 30 = nI R := rfl
  have pw : f_X5_power 1000 (nI k) = some (nI (1000 ^ k)) := m_power 1000 k (by omega)
  have h1k : 1000 ^ k ≤ 1000000 := by
    rcases (by omega : k = 0 ∨ k = 1 ∨ k = 2) with rfl | rfl | rfl <;> decide
  have h1k0 : 0 < 1000 ^ k := Nat.pow_pos (by decide)
  have n1 : ¬ nI (1000 ^ k) = 0 := nI_ne0 h1k0 (by omega)
  have d1 : nI R / nI (1000 ^ k) = nI (R / 1000 ^ k) := pk_div (by omega) h1k0 (by omega)
  have hrd : R / 1000 ^ k ≤ R := Nat.div_le_self _ _
  have d2 : zrem (nI (R / 1000 ^ k)) 1000 = nI (fgC n b q) := by
    rw [← hd]; exact zrem_nI (d := 1000) (by omega) (by decide) (by decide)
  have ef : fgC n b q = 100 * b + 10 * p1 n q + p2 n q := by unfold fgC; rw [if_pos hq]
  have d3 : nI (fgC n b q) / 100 = nI b := by
    have : nI (fgC n b q) / nI 100 = nI (fgC n b q / 100) := pk_div (by omega) (by decide) (by decide)
    rw [show (100 : Int32) = nI 100 from rfl, this]; congr 1; omega
  have d4 : zrem (nI (fgC n b q) / 10) 10 = nI (p1 n q) := by
    have : nI (fgC n b q) / nI 10 = nI (fgC n b q / 10) := pk_div (by omega) (by decide) (by decide)
    rw [show (10 : Int32) = nI 10 from rfl, this, zrem_nI (by omega) (by decide) (by decide)]; congr 1; omega
  have d5 : zrem (nI (fgC n b q)) 10 = nI (p2 n q) := by
    rw [show (10 : Int32) = nI 10 from rfl, zrem_nI (by omega) (by decide) (by decide)]; congr 1; omega
  have tm : f_X5_timeOf 16 (nI (p1 n q)) (nI (p2 n q)) 0 0 (dM M c x (nI R) p a3 a4 tr sd) = some (nI (tqC M n p q)) := by
    have e := m_timeOf 16 (nI (p1 n q)) (nI (p2 n q)) 0 0 (dM M c x (nI R) p a3 a4 tr sd) c1 c2 ⟨Int32.le_trans (by decide) hs.1, hs.2⟩ (by decide) (by decide)
    rw [← y1]
    exact e
  have go := m_goLeg 16 (nI b) (nI (p1 n q)) (nI (p2 n q)) (nI (tqC M n p q)) (dM M c x (nI R) p a3 a4 tr sd) ⟨hb4.1, nI_lt (b := 3) (by omega) (by omega)⟩ c1 c2 tm (by decide) (by decide)
  have ez : (dM M c x (nI R) p a3 a4 tr sd).2.2 8 b = nI (ldC M b) := hld
  rw [nI_clamp (by omega), ez, nI_add] at go
  have ez2 : (dM M c x (nI R) p a3 a4 tr sd).2.2 16 = p := rfl
  rw [ez2, dM_base] at go
  have go : f_X5_goLeg 16 (nI b) (nI (p1 n q)) (nI (p2 n q)) (dM M c x (nI R) p a3 a4 tr sd) = some (dM M c x (nI R) (lgC M n p b q) a3 a4 tr sd) := go
  unfold F_X5_goSoonest_7
  dsimp only
  rw [zj, if_neg e0, e30, if_neg (ne9 (by omega)), pw, Option.bind_some, gdn n1, d1, d2, zl, d3, d4, d5, go, Option.bind_some]
theorem go_end (M : zS) (c x y : Int32) (p a3 a4 tr : Nat → Int32) (sd : Int64) (rc : Int32 × zS → Option zS) : F_X5_goSoonest_7 rc (-1, dM M c x y p a3 a4 tr sd) = some (dM M c x y p a3 a4 tr sd) := by
  unfold F_X5_goSoonest_7
  dsimp only
  rw [zj, if_pos (show (-1 : Int32) < 0 by decide)]
theorem go_none (M : zS) (c x k : Int32) (p a3 a4 tr : Nat → Int32) (sd : Int64) (rc : Int32 × zS → Option zS) : F_X5_goSoonest_7 rc (k, dM M c x (-9) p a3 a4 tr sd) = some (dM M c x (-9) p a3 a4 tr sd) := by
  have e30 : (dM M c x (-9) p a3 a4 tr sd).1 30 = -9 := rfl
  unfold F_X5_goSoonest_7
  dsimp only
  rw [zj, e30, if_pos rfl]
  split <;> rfl
theorem la_step (S : zS) (L : Int64) (n : Nat) (hn : n < 5) (G T Th C : Int32) (sd : Int64) (R b q : Nat) (hR : R < 1000000000) (hd : R % 1000 = fgC n b q) (hb : b < 3) (hq : q < npN n) (i : Int32) (hi : ¬ S.1 12 ≤ i) (rc : Int32 × Int32 × zS → Option zS) :
    F_X4_legAll_32 L rc (nI R, i, dS S G T Th C sd) = rc (nI (R / 1000), i + 1, dS S G (tire1 (tire1 T (nI (p1 n q))) (nI (p2 n q))) Th C sd) := by
  have h6 := npN_le n hn
  obtain ⟨a1, a2, -⟩ := prs_b n hn q (by omega)
  have ef : fgC n b q = 100 * b + 10 * p1 n q + p2 n q := by unfold fgC; rw [if_pos hq]
  have d4 : zrem (nI R / 10) 10 = nI (p1 n q) := by
    have : nI R / nI 10 = nI (R / 10) := pk_div (by omega) (by decide) (by decide)
    rw [show (10 : Int32) = nI 10 from rfl, this, zrem_nI (by omega) (by decide) (by decide)]; congr 1; omega
  have d5 : zrem (nI R) 10 = nI (p2 n q) := by
    rw [show (10 : Int32) = nI 10 from rfl, zrem_nI (by omega) (by decide) (by decide)]; congr 1; omega
  have d6 : nI R / 1000 = nI (R / 1000) := by
    have : nI R / nI 1000 = nI (R / 1000) := pk_div (by omega) (by decide) (by decide)
    exact this
  have e12 : (dS S G T Th C sd).1 12 = S.1 12 := rfl
  have e16 : (dS S G T Th C sd).1 16 = T := rfl
  unfold F_X4_legAll_32
  dsimp only
  rw [e12, if_neg hi, e16, d4, d5, x_tireBoth, Option.bind_some, zl, zl, d6, (dS_put S G T Th C sd _).1]
theorem la_end (S : zS) (L : Int64) (G T Th C : Int32) (sd : Int64) (x i : Int32) (hi : S.1 12 ≤ i) (rc : Int32 × Int32 × zS → Option zS) :
    F_X4_legAll_32 L rc (x, i, dS S G T Th C sd) = some (dS S G T Th (C + (L / 1000000000).toInt32) sd) := by
  have e12 : (dS S G T Th C sd).1 12 = S.1 12 := rfl
  have e18 : (dS S G T Th C sd).1 18 = C := rfl
  unfold F_X4_legAll_32
  dsimp only
  rw [e12, if_pos hi, zl, e18, (dS_put S G T Th C sd _).2.2.2]
theorem cmp_0 (u v : Int64) : lg_cmp u v = 0 ↔ u = v := by
  unfold lg_cmp
  by_cases z : u > v
  · rw [if_pos z]
    constructor
    · intro w; exact absurd w (by decide)
    · intro w; rw [w] at z; exact absurd z Int64.lt_irrefl
  · rw [if_neg z]
    by_cases z2 : u = v
    · rw [if_pos z2]; simp [z2]
    · rw [if_neg z2]
      constructor
      · intro w; exact absurd w (by decide)
      · intro w; exact absurd w z2
theorem bsL_all : ∀ B : Nat, B < 4 → bsL B false false false = List.range B := by decide
/-- a day's legging -/
theorem legs_day {S M : zS} (ht : rTn S M) (G T Th C : Int32) (sd : Int64) (c x y : Int32) (p a3 a4 tr : Nat → Int32) (hp : cPg G T p) (hC : C = p 21) :
    ∃ S' M' T' c' x' y' p' b3 b4 tr' C', f_X4_legAll (dS S G T Th C sd) = some S' ∧ ((f_X5_findSoonest (dM M c x y (upd p 20 0) a3 a4 tr sd)).bind fun S_18 => (f_X5_goSoonest S_18).bind fun S_20 => some S_20) = some M' ∧
    S' = dS S G T' 0 C' sd ∧ M' = dM M c' x' y' p' b3 b4 tr' sd ∧ cPg G T' p' ∧ C' = p' 21 := by
  obtain ⟨t1, t2, t3, t4, t5, t6, t7, t8, t9, t10, t11⟩ := ht
  have ht : rTn S M := ⟨t1, t2, t3, t4, t5, t6, t7, t8, t9, t10, t11⟩
  have hB : (M.1 7).toNatClampNeg < 4 := toN_lt (n := 4) 4 rfl (by decide) (Int32.lt_of_le_of_lt t9 (by decide)) (by decide)
  have eB : M.1 7 = nI (M.1 7).toNatClampNeg := (ofN_toN t8).symm
  have hn : (M.1 5).toNatClampNeg < 5 := toN_lt (n := 5) 5 rfl (by decide) (Int32.lt_of_le_of_lt t6 (by decide)) (by decide)
  have h6 := npN_le _ hn
  have tn2 : rTn (dS S G T 0 C sd) (dM M c x y (upd p 20 0) a3 a4 tr sd) := ht
  have hp0 : cPg G T (upd p 20 0) := cPg_eqP hp (fun j hj => by rw [upd_apply, if_neg (by omega)])
  obtain ⟨L, c', x', y', b3, b4, tr', e1, e2, e3⟩ := soon_both tn2 hp0 rfl
  rw [dM_fs] at e2
  have s1 : f_X4_legAll (dS S G T Th C sd) = (f_X4_soonestLegs (dS S G T 0 C sd)).bind fun r_3 => if lg_cmp r_3 (-9) = 0 then some (dS S G T 0 C sd) else zlet (zremL r_3 1000000000).toInt32 fun x3_4 => zfix (F_X4_legAll_32 r_3) zN (x3_4, 0, dS S G T 0 C sd) := by
    unfold f_X4_legAll
    rw [zl, (dS_put S G T Th C sd 0).2.2.1]
  rw [s1, e1, e2, Option.bind_some, Option.bind_some]
  have g1 : f_X5_goSoonest (dM M c' x' y' (upd p 20 0) b3 b4 tr' sd) = zfix F_X5_goSoonest_7 zN (M.1 7 - 1, dM M c' x' y' (upd p 20 0) b3 b4 tr' sd) := by
    unfold f_X5_goSoonest
    rw [zl]; rfl
  rw [g1]
  rcases e3 with ⟨k1, k2, k3⟩ | ⟨Tm, R, qs, k1, k2, k3, k4, k5, k6, k7, k8, k9⟩
  · rw [if_pos ((cmp_0 _ _).mpr k1)]
    subst k3
    rw [zN_5, zfix_s, go_none, Option.bind_some]
    exact ⟨_, _, T, c', x', -9, upd p 20 0, b3, b4, tr', C, rfl, rfl, rfl, rfl, hp0, by rw [hC]; rfl⟩
  · have n1 : ¬ L = -9 := by
      rw [k1]
      intro z
      have := congrArg Int64.toInt z
      rw [lN_toI (by omega)] at this
      have e : (-9 : Int64).toInt = -9 := rfl
      rw [e] at this
      omega
    have c9 : (1000000000 : Int64) = lN 1000000000 := rfl
    have d1 : (L / 1000000000).toInt32 = nI Tm := by
      rw [k1, c9, pk_lDiv (by omega) (by decide) (by decide), lN_i]
      congr 1; omega
    have d2 : (zremL L 1000000000).toInt32 = nI R := by
      unfold zremL
      rw [k1, c9, pk_lRem (by omega) (by decide) (by decide), lN_i]
      congr 1; omega
    rw [if_neg (fun w => n1 ((cmp_0 _ _).mp w)), zl, d2]
    have z0 : ∀ b, bt ((dS S G T 0 C sd).1 17) b = false := fun b => bt_0 b
    rw [z0, z0, z0] at k6 k8 k9
    have k6 : qs.length = (bsL (M.1 7).toNatClampNeg false false false).length := k6
    have k8 : Tm = totL (tqC M (M.1 5).toNatClampNeg) (lgC M (M.1 5).toNatClampNeg) (ldC M) (upd p 20 0) (bsL (M.1 7).toNatClampNeg false false false) qs := k8
    have k9 : R = figL (fgC (M.1 5).toNatClampNeg) 0 (bsL (M.1 7).toNatClampNeg false false false) qs := k9
    have k7 : ∀ q ∈ qs, q < npN (M.1 5).toNatClampNeg := k7
    rw [bsL_all _ hB] at k6 k8 k9
    have lds : ∀ b, b < (M.1 7).toNatClampNeg → M.2.2 8 b = nI (ldC M b) := fun b hb => (load_ok ht hb).1
    have okp : okPg (upd p 20 0) := fun j hj => hp0.b j hj
    subst k3
    have hs : 1 ≤ M.1 4 ∧ M.1 4 ≤ 6 := ⟨t2, t3⟩
    generalize hnn : (M.1 5).toNatClampNeg = n at *
    have fgl : ∀ b q, b < 3 → q < npN n → fgC n b q < 1000 := fun b q => fg_lt n hn b q
    have cl21 : ∀ (p : Nat → Int32) b q, q < npN n → lgC M n p b q 21 = p 21 + nI (tqC M n p q + ldC M b) := by
      intro p b q hq
      obtain ⟨a1, a2, -⟩ := prs_b n hn q (by omega)
      exact (gol_20 p (nI b) _ (nI_4 (by omega)) (nI_4 a2)).2
    rcases (by omega : (M.1 7).toNatClampNeg = 0 ∨ (M.1 7).toNatClampNeg = 1 ∨ (M.1 7).toNatClampNeg = 2 ∨ (M.1 7).toNatClampNeg = 3) with e | e | e | e
    · rw [e] at eB k8 k6
      have eq0 : qs = [] := List.length_eq_zero_iff.mp k6
      subst eq0
      have hT0 : Tm = 0 := k8
      subst hT0
      have q1 : M.1 7 - 1 = -1 := by rw [eB]; decide
      rw [q1, zN_5, zfix_s, la_end _ _ _ _ _ _ _ _ _ (by rw [t7, eB]; decide), d1, zfix_s, go_end, Option.bind_some]
      exact ⟨_, _, T, c', x', nI R, upd p 20 0, b3, b4, tr', _, rfl, rfl, rfl, rfl, hp0, by rw [hC]; show p 21 + 0 = p 21; simp⟩
    · rw [e] at eB k8 k6 k9 lds
      obtain ⟨q0, rfl⟩ : ∃ q0, qs = [q0] := by
        cases qs with
        | nil => cases k6
        | cons a l =>
          cases l with
          | nil => exact ⟨a, rfl⟩
          | cons b l => simp at k6
      have h0 := k7 q0 (by simp)
      have f0 := fgl 0 q0 (by decide) h0
      have eR : R = 1000 * 0 + fgC n 0 q0 := k9
      have eT : Tm = tqC M n (upd p 20 0) q0 + ldC M 0 + 0 := k8
      have q1 : M.1 7 - 1 = nI 0 := by rw [eB]; decide
      rw [q1, zN_5]
      rw [zfix_s, la_step S L n hn G T 0 C sd R 0 q0 k4 (by omega) (by decide) h0 0 (by rw [t7, eB]; decide), zfix_s, la_end _ _ _ _ _ _ _ _ _ (by rw [t7, eB]; decide), d1]
      rw [zfix_s, go_step hs hn c' x' R _ b3 b4 tr' sd okp 0 0 q0 (by decide) k4 (by rw [Nat.pow_zero]; omega) (by decide) h0 (lds 0 (by decide)), show nI 0 + (-1) = -1 by decide, zfix_s, go_end, Option.bind_some]
      refine ⟨_, _, _, c', x', nI R, _, b3, b4, tr', _, rfl, rfl, rfl, rfl, ?_, ?_⟩
      · refine cPg_eqP (cPg_dD hp0 n hn (q := q0) (by omega)) ?_
        intro j hj; exact (lg_dD M n hn _ 0 q0 (by omega) j hj).symm
      · rw [cl21 _ _ _ h0, hC]
        show p 21 + nI Tm = upd p 20 0 21 + nI _
        rw [eT, Nat.add_zero]; rfl
    · rw [e] at eB k8 k6 k9 lds
      obtain ⟨q0, r0, rfl⟩ : ∃ q0 r0, qs = [q0, r0] := by
        cases qs with
        | nil => cases k6
        | cons a l =>
          cases l with
          | nil => simp at k6
          | cons b l =>
            cases l with
            | nil => exact ⟨a, b, rfl⟩
            | cons d l => simp at k6
      have h0 := k7 q0 (by simp)
      have h1 := k7 r0 (by simp)
      have f0 := fgl 0 q0 (by decide) h0
      have f1 := fgl 1 r0 (by decide) h1
      have eR : R = 1000 * (1000 * 0 + fgC n 0 q0) + fgC n 1 r0 := k9
      have eT : Tm = tqC M n (upd p 20 0) q0 + ldC M 0 + (tqC M n (lgC M n (upd p 20 0) 0 q0) r0 + ldC M 1 + 0) := k8
      have q1 : M.1 7 - 1 = nI 1 := by rw [eB]; decide
      have ok1 := (leg_ok hs n hn okp h0).2.2 0
      rw [q1, zN_5]
      rw [zfix_s, la_step S L n hn G T 0 C sd R 1 r0 k4 (by omega) (by decide) h1 0 (by rw [t7, eB]; decide), zfix_s, la_step S L n hn G _ 0 C sd (R / 1000) 0 q0 (by omega) (by omega) (by decide) h0 (0 + 1) (by rw [t7, eB]; decide), zfix_s, la_end _ _ _ _ _ _ _ _ _ (by rw [t7, eB]; decide), d1]
      rw [zfix_s, go_step hs hn c' x' R _ b3 b4 tr' sd okp 1 0 q0 (by decide) k4 (by rw [Nat.pow_one]; omega) (by decide) h0 (lds 0 (by decide)), show nI 1 + (-1) = nI 0 by decide, zfix_s, go_step hs hn c' x' R _ b3 b4 tr' sd ok1 0 1 r0 (by decide) k4 (by rw [Nat.pow_zero]; omega) (by decide) h1 (lds 1 (by decide)), show nI 0 + (-1) = -1 by decide, zfix_s, go_end, Option.bind_some]
      refine ⟨_, _, _, c', x', nI R, _, b3, b4, tr', _, rfl, rfl, rfl, rfl, ?_, ?_⟩
      · refine cPg_eqP (cPg_dD (cPg_dD hp0 n hn (q := r0) (by omega)) n hn (q := q0) (by omega)) ?_
        intro j hj
        rw [dD_comm n hn _ (by omega) (by omega)]
        exact ((lg_dD M n hn _ 1 r0 (by omega) j hj).trans (dD_cong n hn (lg_dD M n hn _ 0 q0 (by omega)) (by omega) j hj)).symm
      · rw [cl21 _ _ _ h1, cl21 _ _ _ h0, hC]
        show p 21 + nI Tm = upd p 20 0 21 + nI _ + nI _
        rw [eT, Int32.add_assoc, nI_add]; rfl
    · rw [e] at eB k8 k6 k9 lds
      obtain ⟨q0, r0, s0, rfl⟩ : ∃ q0 r0 s0, qs = [q0, r0, s0] := by
        cases qs with
        | nil => cases k6
        | cons a l =>
          cases l with
          | nil => simp at k6
          | cons b l =>
            cases l with
            | nil => simp at k6
            | cons d l =>
              cases l with
              | nil => exact ⟨a, b, d, rfl⟩
              | cons d l => simp at k6
      have h0 := k7 q0 (by simp)
      have h1 := k7 r0 (by simp)
      have h2 := k7 s0 (by simp)
      have f0 := fgl 0 q0 (by decide) h0
      have f1 := fgl 1 r0 (by decide) h1
      have f2 := fgl 2 s0 (by decide) h2
      have eR : R = 1000 * (1000 * (1000 * 0 + fgC n 0 q0) + fgC n 1 r0) + fgC n 2 s0 := k9
      have eT : Tm = tqC M n (upd p 20 0) q0 + ldC M 0 + (tqC M n (lgC M n (upd p 20 0) 0 q0) r0 + ldC M 1 + (tqC M n (lgC M n (lgC M n (upd p 20 0) 0 q0) 1 r0) s0 + ldC M 2 + 0)) := k8
      have q1 : M.1 7 - 1 = nI 2 := by rw [eB]; decide
      have ok1 := (leg_ok hs n hn okp h0).2.2 0
      have ok2 := (leg_ok hs n hn ok1 h1).2.2 1
      rw [q1, zN_5]
      rw [zfix_s, la_step S L n hn G T 0 C sd R 2 s0 k4 (by omega) (by decide) h2 0 (by rw [t7, eB]; decide), zfix_s, la_step S L n hn G _ 0 C sd (R / 1000) 1 r0 (by omega) (by omega) (by decide) h1 (0 + 1) (by rw [t7, eB]; decide), zfix_s, la_step S L n hn G _ 0 C sd (R / 1000 / 1000) 0 q0 (by omega) (by omega) (by decide) h0 (0 + 1 + 1) (by rw [t7, eB]; decide), zfix_s, la_end _ _ _ _ _ _ _ _ _ (by rw [t7, eB]; decide), d1]
      rw [zfix_s, go_step hs hn c' x' R _ b3 b4 tr' sd okp 2 0 q0 (by decide) k4 (by rw [show 1000 ^ 2 = 1000000 by decide]; omega) (by decide) h0 (lds 0 (by decide)), show nI 2 + (-1) = nI 1 by decide, zfix_s, go_step hs hn c' x' R _ b3 b4 tr' sd ok1 1 1 r0 (by decide) k4 (by rw [Nat.pow_one]; omega) (by decide) h1 (lds 1 (by decide)), show nI 1 + (-1) = nI 0 by decide, zfix_s, go_step hs hn c' x' R _ b3 b4 tr' sd ok2 0 2 s0 (by decide) k4 (by rw [Nat.pow_zero]; omega) (by decide) h2 (lds 2 (by decide)), show nI 0 + (-1) = -1 by decide, zfix_s, go_end, Option.bind_some]
      refine ⟨_, _, _, c', x', nI R, _, b3, b4, tr', _, rfl, rfl, rfl, rfl, ?_, ?_⟩
      · refine cPg_eqP (cPg_dD (cPg_dD (cPg_dD hp0 n hn (q := s0) (by omega)) n hn (q := r0) (by omega)) n hn (q := q0) (by omega)) ?_
        intro j hj
        rw [dD_comm n hn (upd p 20 0) (q := r0) (r := s0) (by omega) (by omega), dD_comm n hn _ (q := q0) (r := s0) (by omega) (by omega), dD_comm n hn _ (q := q0) (r := r0) (by omega) (by omega)]
        exact ((lg_dD M n hn _ 2 s0 (by omega) j hj).trans ((dD_cong n hn (lg_dD M n hn _ 1 r0 (by omega)) (by omega) j hj).trans (dD_cong n hn (dD_cong n hn (lg_dD M n hn _ 0 q0 (by omega)) (by omega)) (by omega) j hj))).symm
      · rw [cl21 _ _ _ h2, cl21 _ _ _ h1, cl21 _ _ _ h0, hC]
        show p 21 + nI Tm = upd p 20 0 21 + nI _ + nI _ + nI _
        rw [eT, Int32.add_assoc, Int32.add_assoc, nI_add, nI_add]; rfl
