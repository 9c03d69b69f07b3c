/-! ===== soonest: both at once ===== -/
def cdB (B : Nat) (t0 t1 t2 : Bool) : Nat := (if decide (0 < B) && !t0 then 1 else 0) + ((if decide (1 < B) && !t1 then 2 else 0) + (if decide (2 < B) && !t2 then 4 else 0))
theorem cd1 : ∀ B : Nat, B < 4 → ∀ t0 t1 t2 : Bool, f_X5_many (Int32.ofNat (cdB B t0 t1 t2)) = some (Int32.ofNat (bsL B t0 t1 t2).length) := by decide +kernel
theorem cd2 : ∀ B : Nat, B < 4 → ∀ t0 t1 t2 : Bool, (Int32.ofNat (cdB B t0 t1 t2) = 0 ↔ (bsL B t0 t1 t2).length = 0) := by decide +kernel
theorem cd3 : ∀ B : Nat, B < 4 → ∀ t0 t1 t2 : Bool, ∀ i : Nat, i < 32 → bt (Int32.ofNat (cdB B t0 t1 t2)) i = (decide (i < B) && !uB t0 t1 t2 i) := by decide +kernel
theorem cd4 : ∀ B : Nat, B < 4 → ∀ i : Nat, i < 32 → bt (zshl 1 (Int32.ofNat B) - 1) i = decide (i < B) := by decide +kernel
theorem left_eq (B : Nat) (hB : B < 4) (w : Int32) : (zshl 1 (nI B) - 1) &&& (w ^^^ (-1)) = nI (cdB B (bt w 0) (bt w 1) (bt w 2)) := by
  apply bt_ext
  intro i hi
  have e3 : bt (nI (cdB B (bt w 0) (bt w 1) (bt w 2))) i = _ := cd3 B hB (bt w 0) (bt w 1) (bt w 2) i hi
  have e4 : bt (zshl 1 (nI B) - 1) i = decide (i < B) := cd4 B hB i hi
  rw [e3, bt_and, e4, bt_xor, bt_m1 i hi]
  by_cases h : i < B
  · have : i = 0 ∨ i = 1 ∨ i = 2 := by omega
    rcases this with rfl | rfl | rfl <;> simp [uB]
  · simp [h]
theorem bsL_len : ∀ B : Nat, B < 4 → ∀ t0 t1 t2 : Bool, (bsL B t0 t1 t2).length ≤ B := by decide +kernel
theorem bsL_mem : ∀ B : Nat, B < 4 → ∀ t0 t1 t2 : Bool, ∀ b ∈ bsL B t0 t1 t2, b < B := by decide +kernel
theorem lst_bsL (u : Nat → Bool) (B : Nat) (hB : B < 4) : lst u B 0 = bsL B (u 0) (u 1) (u 2) := by
  rcases (by omega : B = 0 ∨ B = 1 ∨ B = 2 ∨ B = 3) with rfl | rfl | rfl | rfl <;> cases h0 : u 0 <;> cases h1 : u 1 <;> cases h2 : u 2 <;> simp [lst, bsL, h0, h1, h2]
/-! what the least row tells -/
section EN
variable {P : Type} (tq : P → Nat → Nat) (lg : P → Nat → Nat → P) (ld : Nat → Nat) (fg : Nat → Nat → Nat) (np : Nat)
def totL : P → List Nat → List Nat → Nat
  | p, b :: bs, q :: qs => tq p q + ld b + totL (lg p b q) bs qs
  | _, _, _ => 0
def figL : Nat → List Nat → List Nat → Nat
  | f, b :: bs, q :: qs => figL (1000 * f + fg b q) bs qs
  | f, _, _ => f
theorem oA_enc : ∀ bs p f t a, oA tq lg ld fg np bs p f t a = a ∨ ∃ qs, qs.length = bs.length ∧ (∀ q ∈ qs, q < np) ∧ oA tq lg ld fg np bs p f t a = some (t + totL tq lg ld p bs qs, figL fg f bs qs) := by
  intro bs
  induction bs with
  | nil =>
    intro p f t a
    cases a with
    | none => exact Or.inr ⟨[], rfl, (fun _ h => nomatch h), rfl⟩
    | some x =>
      by_cases q : t < x.1
      · exact Or.inr ⟨[], rfl, (fun _ h => nomatch h), if_pos q⟩
      · exact Or.inl (if_neg q)
  | cons b bs ih =>
    intro p f t a
    have main : ∀ n, n ≤ np → fw (fun q acc => oA tq lg ld fg np bs (lg p b q) (1000 * f + fg b q) (t + tq p q + ld b) acc) n a = a ∨ ∃ qs, qs.length = (b :: bs).length ∧ (∀ q ∈ qs, q < np) ∧ fw (fun q acc => oA tq lg ld fg np bs (lg p b q) (1000 * f + fg b q) (t + tq p q + ld b) acc) n a = some (t + totL tq lg ld p (b :: bs) qs, figL fg f (b :: bs) qs) := by
      intro n
      induction n with
      | zero => intro _; exact Or.inl rfl
      | succ n ihn =>
        intro hn
        show oA tq lg ld fg np bs (lg p b n) (1000 * f + fg b n) (t + tq p n + ld b) (fw _ n a) = a ∨ ∃ qs, _ ∧ _ ∧ oA tq lg ld fg np bs (lg p b n) (1000 * f + fg b n) (t + tq p n + ld b) (fw _ n a) = _
        rcases ih (lg p b n) (1000 * f + fg b n) (t + tq p n + ld b) (fw (fun q acc => oA tq lg ld fg np bs (lg p b q) (1000 * f + fg b q) (t + tq p q + ld b) acc) n a) with h | ⟨qs, h1, h2, h3⟩
        · rw [h]
          exact ihn (by omega)
        · refine Or.inr ⟨n :: qs, by simp [h1], ?_, ?_⟩
          · intro q hq
            rcases List.mem_cons.mp hq with rfl | hq
            · omega
            · exact h2 q hq
          · rw [h3]
            show some (t + tq p n + ld b + totL tq lg ld (lg p b n) bs qs, _) = some (t + (tq p n + ld b + totL tq lg ld (lg p b n) bs qs), _)
            congr 2; omega
    exact main np (Nat.le_refl _)
end EN
/-- the reference's state behind findSoonest: what is not said is as it was -/
def fsM (M : zS) (c x y : Int32) (a3 a4 tr : Nat → Int32) : zS := (upd (upd (upd M.1 36 c) 29 x) 30 y, M.2.1, zur (zur (zur M.2.2 34 a3) 35 a4) 15 tr)
theorem soon_both {S M : zS} (h : rTn S M) (hp : cPg (S.1 15) (S.1 16) (M.2.2 16)) (hth : S.1 17 = M.2.2 16 20) :
    ∃ L c x y a3 a4 tr, f_X4_soonestLegs S = some L ∧ f_X5_findSoonest M = some (fsM M c x y a3 a4 tr) ∧
    ((L = -9 ∧ x = -9 ∧ y = -9) ∨ ∃ T R qs, L = lN (T * 1000000000 + R) ∧ x = nI T ∧ y = nI R ∧ R < 1000000000 ∧ T ≤ 1000 ∧
      qs.length = (bsL (M.1 7).toNatClampNeg (bt (S.1 17) 0) (bt (S.1 17) 1) (bt (S.1 17) 2)).length ∧ (∀ q ∈ qs, q < npN (M.1 5).toNatClampNeg) ∧
      T = totL (tqC M (M.1 5).toNatClampNeg) (lgC M (M.1 5).toNatClampNeg) (ldC M) (M.2.2 16) (bsL (M.1 7).toNatClampNeg (bt (S.1 17) 0) (bt (S.1 17) 1) (bt (S.1 17) 2)) qs ∧ R = figL (fgC (M.1 5).toNatClampNeg) 0 (bsL (M.1 7).toNatClampNeg (bt (S.1 17) 0) (bt (S.1 17) 1) (bt (S.1 17) 2)) qs) := by
  obtain ⟨t1, t2, t3, t4, t5, t6, t7, t8, t9, t10, t11⟩ := h
  have h : rTn S M := ⟨t1, t2, t3, t4, t5, t6, t7, t8, t9, t10, t11⟩
  have hB : (M.1 7).toNatClampNeg < 4 := toN_lt (n := 4) 4 rfl (by decide) (Int32.lt_of_le_of_lt t9 (by decide)) (by decide)
  have eB : M.1 7 = nI (M.1 7).toNatClampNeg := (ofN_toN t8).symm
  have hn : (M.1 5).toNatClampNeg < 5 := toN_lt (n := 5) 5 rfl (by decide) (Int32.lt_of_le_of_lt t6 (by decide)) (by decide)
  have en : M.1 5 = nI (M.1 5).toNatClampNeg := (ofN_toN t5).symm
  have h6 := npN_le _ hn
  have hnp2 := npN_0 _ hn
  -- the class
  have cl := x_leastLegs h (M.1 7).toNatClampNeg 8 0 (S.1 16) (M.2.2 16) 0 0 cMax (by omega) (by omega) hp (Nat.le_refl _) (by omega) (by
    rcases (by omega : (M.1 7).toNatClampNeg = 0 ∨ (M.1 7).toNatClampNeg = 1 ∨ (M.1 7).toNatClampNeg = 2 ∨ (M.1 7).toNatClampNeg = 3) with e | e | e | e <;> rw [e] <;> decide)
  rw [lst_bsL _ _ hB] at cl
  have cl : zfix (F_X4_leastLegs S) 8 (0, S.1 16, 0, 0, 1000000000000) = _ := cl
  have le1 := left_eq _ hB (S.1 17)
  rw [← eB] at le1
  -- the reference
  obtain ⟨a3, a4, m1, m2⟩ := m_layPairs M t5 t6
  have le2 := left_eq _ hB (M.2.2 16 20)
  rw [← eB, ← hth] at le2
  have c1 : f_X5_many (nI (cdB (M.1 7).toNatClampNeg (bt (S.1 17) 0) (bt (S.1 17) 1) (bt (S.1 17) 2))) = some (nI (bsL (M.1 7).toNatClampNeg (bt (S.1 17) 0) (bt (S.1 17) 1) (bt (S.1 17) 2)).length) := cd1 _ hB _ _ _
  have c2 : (nI (cdB (M.1 7).toNatClampNeg (bt (S.1 17) 0) (bt (S.1 17) 1) (bt (S.1 17) 2)) = 0) ↔ _ := cd2 _ hB (bt (S.1 17) 0) (bt (S.1 17) 1) (bt (S.1 17) 2)
  have hlen := bsL_len _ hB (bt (S.1 17) 0) (bt (S.1 17) 1) (bt (S.1 17) 2)
  have hmem := bsL_mem _ hB (bt (S.1 17) 0) (bt (S.1 17) 1) (bt (S.1 17) 2)
  have base : bsM (lP M a3 a4 (npN (M.1 5).toNatClampNeg)) (M.1 5).toNatClampNeg := ⟨⟨t2, t3⟩, hn, rfl, fun q hq => m2 q hq, fun b hb => (load_ok h hb).1, hB, t8⟩
  have okb : okPg (M.2.2 16) := fun j hj => hp.b j hj
  have orders : 0 < npN (M.1 5).toNatClampNeg → oF (tqC M (M.1 5).toNatClampNeg) (lgC M (M.1 5).toNatClampNeg) (ldC M) thC (fgC (M.1 5).toNatClampNeg) (npN (M.1 5).toNatClampNeg) (M.1 7).toNatClampNeg (bsL (M.1 7).toNatClampNeg (bt (S.1 17) 0) (bt (S.1 17) 1) (bt (S.1 17) 2)).length (M.2.2 16) 0 0 none = oA (tqC M (M.1 5).toNatClampNeg) (lgC M (M.1 5).toNatClampNeg) (ldC M) (fgC (M.1 5).toNatClampNeg) (npN (M.1 5).toNatClampNeg) (bsL (M.1 7).toNatClampNeg (bt (S.1 17) 0) (bt (S.1 17) 1) (bt (S.1 17) 2)) (M.2.2 16) 0 0 none := by
    intro hnp
    have := oF_oA (ld := ldC M) (fg := fgC (M.1 5).toNatClampNeg) (thr := thC) (E := eqP) hB hnp (eqP_leg M _ hn) (fun p j _ => rfl) (fun p b q b' hq hb hb' => th_leg M _ hn p b q b' (by omega) hb hb') (bsL (M.1 7).toNatClampNeg (bt (S.1 17) 0) (bt (S.1 17) 1) (bt (S.1 17) 2)).length (M.2.2 16) 0 0 none (by unfold thC; rw [hth])
    rw [this]
    unfold thC; rw [hth]
  have rel := (cF_oA (lg := lgC M (M.1 5).toNatClampNeg) (tq := tqC M (M.1 5).toNatClampNeg) (ld := ldC M) (fg := fgC (M.1 5).toNatClampNeg) (np := npN (M.1 5).toNatClampNeg) (fg_mono _ hn) (fg_lt _ hn) (fun p q _ => by unfold tqC; omega) (fun b => by unfold ldC; omega) (bsL (M.1 7).toNatClampNeg (bt (S.1 17) 0) (bt (S.1 17) 1) (bt (S.1 17) 2)) (M.2.2 16) 0 0 cMax none (fun b hb => by have := hmem b hb; omega) (Or.inl ⟨rfl, rfl⟩) (by
    rcases (by omega : (bsL (M.1 7).toNatClampNeg (bt (S.1 17) 0) (bt (S.1 17) 1) (bt (S.1 17) 2)).length = 0 ∨ (bsL (M.1 7).toNatClampNeg (bt (S.1 17) 0) (bt (S.1 17) 1) (bt (S.1 17) 2)).length = 1 ∨ (bsL (M.1 7).toNatClampNeg (bt (S.1 17) 0) (bt (S.1 17) 1) (bt (S.1 17) 2)).length = 2 ∨ (bsL (M.1 7).toNatClampNeg (bt (S.1 17) 0) (bt (S.1 17) 1) (bt (S.1 17) 2)).length = 3) with e | e | e | e <;> rw [e] <;> decide) (by omega) (fun T R e => by cases e)).1
  have enc := oA_enc (tqC M (M.1 5).toNatClampNeg) (lgC M (M.1 5).toNatClampNeg) (ldC M) (fgC (M.1 5).toNatClampNeg) (npN (M.1 5).toNatClampNeg) (bsL (M.1 7).toNatClampNeg (bt (S.1 17) 0) (bt (S.1 17) 1) (bt (S.1 17) 2)) (M.2.2 16) 0 0 none
  -- findSoonest up to its loop
  have fs : ∀ v : Int32, (v = if (bsL (M.1 7).toNatClampNeg (bt (S.1 17) 0) (bt (S.1 17) 1) (bt (S.1 17) 2)).length = 0 then 0 else -9) → f_X5_findSoonest M = zfix (F_X5_findSoonest_69 (nI ((M.1 7).toNatClampNeg * npN (M.1 5).toNatClampNeg)) (nI (bsL (M.1 7).toNatClampNeg (bt (S.1 17) 0) (bt (S.1 17) 1) (bt (S.1 17) 2)).length)) zN (0, (upd (upd (lP M a3 a4 (npN (M.1 5).toNatClampNeg)).1 29 v) 30 v, (lP M a3 a4 (npN (M.1 5).toNatClampNeg)).2)) := by
    intro v hv
    have y1 : (lP M a3 a4 (npN (M.1 5).toNatClampNeg)).1 7 = M.1 7 := rfl
    have y2 : (lP M a3 a4 (npN (M.1 5).toNatClampNeg)).2.2 16 20 = M.2.2 16 20 := rfl
    have y3 : (lP M a3 a4 (npN (M.1 5).toNatClampNeg)).1 36 = nI (npN (M.1 5).toNatClampNeg) := rfl
    have y4 : M.1 7 * nI (npN (M.1 5).toNatClampNeg) = nI ((M.1 7).toNatClampNeg * npN (M.1 5).toNatClampNeg) := by rw [← pk_mul, ← eB]
    have c20 : (20 : Int32).toNatClampNeg = 20 := by decide
    unfold f_X5_findSoonest
    rw [m1, Option.bind_some, gdz22 (show (0 : Int32) ≤ 20 by decide) (show (20 : Int32) < 22 by decide), c20, zl, y1, y2, ← hth, le1, c1, Option.bind_some, zl, y3, y4, zj]
    by_cases q : (bsL (M.1 7).toNatClampNeg (bt (S.1 17) 0) (bt (S.1 17) 1) (bt (S.1 17) 2)).length = 0
    · have q' : nI (bsL (M.1 7).toNatClampNeg (bt (S.1 17) 0) (bt (S.1 17) 1) (bt (S.1 17) 2)).length = 0 := by rw [q]; rfl
      rw [if_pos q]  at hv
      subst hv
      rw [if_pos q']
      dsimp only
      rw [zl, zj, if_pos q']
      dsimp only
      rw [zl]
    · have q' : ¬ nI (bsL (M.1 7).toNatClampNeg (bt (S.1 17) 0) (bt (S.1 17) 1) (bt (S.1 17) 2)).length = 0 := nI_ne0 (by omega) (by omega)
      rw [if_neg q] at hv
      subst hv
      rw [if_neg q']
      dsimp only
      rw [zl, zj, if_neg q']
      dsimp only
      rw [zl]
  have cs : f_X4_soonestLegs S = if (bsL (M.1 7).toNatClampNeg (bt (S.1 17) 0) (bt (S.1 17) 1) (bt (S.1 17) 2)).length = 0 ∨ 2 ≤ M.1 5 then some (lN (cF (tqC M (M.1 5).toNatClampNeg) (lgC M (M.1 5).toNatClampNeg) (ldC M) (fgC (M.1 5).toNatClampNeg) (npN (M.1 5).toNatClampNeg) (bsL (M.1 7).toNatClampNeg (bt (S.1 17) 0) (bt (S.1 17) 1) (bt (S.1 17) 2)) (M.2.2 16) 0 0 cMax)) else some (-9) := by
    unfold f_X4_soonestLegs
    rw [f_X1_allBoats, Option.bind_some, zl, t7, le1, zj, t4, cl, Option.bind_some]
    by_cases q : (bsL (M.1 7).toNatClampNeg (bt (S.1 17) 0) (bt (S.1 17) 1) (bt (S.1 17) 2)).length = 0
    · rw [if_pos (c2.mpr q), if_pos (Or.inl q)]
    · rw [if_neg (fun z => q (c2.mp z))]
      by_cases q2 : 2 ≤ M.1 5
      · rw [if_pos q2, if_pos (Or.inr q2)]
      · rw [if_neg q2, if_neg (by rintro (z | z); exact q z; exact q2 z)]
  generalize hbs : bsL (M.1 7).toNatClampNeg (bt (S.1 17) 0) (bt (S.1 17) 1) (bt (S.1 17) 2) = bs at *
  by_cases q : bs.length = 0
  · -- no boat is left
    have eb : bs = [] := List.length_eq_zero_iff.mp q
    subst eb
    rw [if_pos (Or.inl q)] at cs
    have e0 : cF (tqC M (M.1 5).toNatClampNeg) (lgC M (M.1 5).toNatClampNeg) (ldC M) (fgC (M.1 5).toNatClampNeg) (npN (M.1 5).toNatClampNeg) [] (M.2.2 16) 0 0 cMax = 0 := by
      show min cMax (0 * 1000000000 + 0) = 0
      unfold cMax; omega
    rw [e0] at cs
    have f0 := fs 0 (by simp)
    refine ⟨_, nI (npN (M.1 5).toNatClampNeg), 0, 0, a3, a4, M.2.2 15, cs, ?_, Or.inr ⟨0, 0, [], rfl, rfl, rfl, by decide, by decide, rfl, fun _ z => (by cases z), rfl, rfl⟩⟩
    rw [f0]
    have e1 : (upd (upd (lP M a3 a4 (npN (M.1 5).toNatClampNeg)).1 29 0) 30 0, (lP M a3 a4 (npN (M.1 5).toNatClampNeg)).2) = fsM M (nI (npN (M.1 5).toNatClampNeg)) 0 0 a3 a4 (M.2.2 15) := by
      unfold fsM
      have : zur (zur M.2.2 34 a3) 35 a4 15 = M.2.2 15 := rfl
      rw [← this, zur_same]; rfl
    rw [e1, zN_5, zfix_s]
    have pw := m_power ((M.1 7).toNatClampNeg * npN (M.1 5).toNatClampNeg) 0 (by decide)
    have n0 : ¬ nI (((M.1 7).toNatClampNeg * npN (M.1 5).toNatClampNeg) ^ 0) ≤ 0 := by rw [Nat.pow_zero]; decide
    have n1 : nI ([] : List Nat).length ≤ 0 := by decide
    have pw : f_X5_power (nI ((M.1 7).toNatClampNeg * npN (M.1 5).toNatClampNeg)) (nI ([] : List Nat).length) = _ := pw
    unfold F_X5_findSoonest_69
    dsimp only
    rw [pw, Option.bind_some, zj, if_neg n0, if_pos n1]
  · have f0 := fs (-9) (by rw [if_neg q])
    have e1 : (upd (upd (lP M a3 a4 (npN (M.1 5).toNatClampNeg)).1 29 (-9)) 30 (-9), (lP M a3 a4 (npN (M.1 5).toNatClampNeg)).2) = sM (lP M a3 a4 (npN (M.1 5).toNatClampNeg)) none (M.2.2 15) := by
      unfold sM
      have : (lP M a3 a4 (npN (M.1 5).toNatClampNeg)).2.2 15 = M.2.2 15 := rfl
      rw [← this, zur_same]; rfl
    rw [e1] at f0
    have fsq : ∀ a tr, sM (lP M a3 a4 (npN (M.1 5).toNatClampNeg)) a tr = fsM M (nI (npN (M.1 5).toNatClampNeg)) (encA a).1 (encA a).2 a3 a4 tr := fun a tr => rfl
    by_cases q2 : 2 ≤ M.1 5
    · rw [if_pos (Or.inr q2)] at cs
      have hnp : 0 < npN (M.1 5).toNatClampNeg := by
        have : ¬ (M.1 5).toNatClampNeg < 2 := by
          intro z
          rw [en] at q2
          have := (nI_leI (a := 2) (by omega) (by omega)).mp q2
          omega
        omega
      have hB0 : 0 < (M.1 7).toNatClampNeg := by omega
      obtain ⟨tr, f1⟩ := m_outer base hnp hB0 okb bs.length (by omega) (by omega) (M.2.2 15)
      have f1 : zfix (F_X5_findSoonest_69 (nI ((M.1 7).toNatClampNeg * npN (M.1 5).toNatClampNeg)) (nI bs.length)) zN (0, sM (lP M a3 a4 (npN (M.1 5).toNatClampNeg)) none (M.2.2 15)) = some (sM (lP M a3 a4 (npN (M.1 5).toNatClampNeg)) (oF (tqC M (M.1 5).toNatClampNeg) (lgC M (M.1 5).toNatClampNeg) (ldC M) thC (fgC (M.1 5).toNatClampNeg) (npN (M.1 5).toNatClampNeg) (M.1 7).toNatClampNeg bs.length (M.2.2 16) 0 0 none) tr) := f1
      rw [orders hnp, fsq] at f1
      refine ⟨_, _, _, _, a3, a4, tr, cs, f0.trans f1, ?_⟩
      obtain ⟨T0, R0, l1, -, -⟩ := mA_least (tq := tqC M (M.1 5).toNatClampNeg) (lg := lgC M (M.1 5).toNatClampNeg) (E := eqP) (ld := ldC M) (fg := fgC (M.1 5).toNatClampNeg) hnp (eqP_leg M _ hn) (fun p j _ => rfl) bs (M.2.2 16) 0 0 none
      rcases rel with ⟨z, -⟩ | ⟨T, R, r1, r2, r3, r4⟩
      · rw [l1] at z; cases z
      · rcases enc with e | ⟨qs, u1, u2, u3⟩
        · rw [l1] at e; cases e
        · rw [r1] at u3 ⊢
          have u4 : T = 0 + totL (tqC M (M.1 5).toNatClampNeg) (lgC M (M.1 5).toNatClampNeg) (ldC M) (M.2.2 16) bs qs ∧ R = figL (fgC (M.1 5).toNatClampNeg) 0 bs qs := by
            have := Option.some.inj u3
            exact ⟨congrArg Prod.fst this, congrArg Prod.snd this⟩
          exact Or.inr ⟨T, R, qs, by rw [r2], rfl, rfl, r3, r4, u1, u2, by rw [u4.1, Nat.zero_add], u4.2⟩
    · rw [if_neg (by rintro (z | z); exact q z; exact q2 z)] at cs
      have hnp : npN (M.1 5).toNatClampNeg = 0 := by
        apply hnp2.mpr
        have q2 := Int32.not_le.mp q2
        rw [en] at q2
        exact (nI_ltI (b := 2) (by omega) (by omega)).mp q2
      refine ⟨_, nI (npN (M.1 5).toNatClampNeg), -9, -9, a3, a4, M.2.2 15, cs, ?_, Or.inl ⟨rfl, rfl, rfl⟩⟩
      rw [f0, zN_5, zfix_s]
      have pw := m_power ((M.1 7).toNatClampNeg * npN (M.1 5).toNatClampNeg) bs.length (by omega)
      have n0 : nI (((M.1 7).toNatClampNeg * npN (M.1 5).toNatClampNeg) ^ bs.length) ≤ 0 := by
        rw [hnp, Nat.mul_zero, Nat.zero_pow (by omega)]; decide
      unfold F_X5_findSoonest_69
      dsimp only
      rw [pw, Option.bind_some, zj, if_pos n0]
      rfl
theorem c_soonest (a : Int32) (S M : zS) (h : Rel S M) : AnsR S (f_X4_soonest a S) (f_X5_soonest a M) := by
  have tn := h.2.1
  have pg := h.2.2.1
  unfold f_X4_soonest f_X5_soonest
  rw [zl, m_copy 14 16 (by decide), Option.bind_some]
  have q22 : ∀ j, j < 22 → M.2.2 14 j = cpy (M.2.2 14) (M.2.2 16) 0 0 22 j := by
    intro j hj; unfold cpy; rw [if_pos (by omega)]; exact congrArg _ (by omega)
  have pg2 := pg.cong q22
  have tn2 : rTn S (upd M.1 0 0, M.2.1, zur M.2.2 16 (cpy (M.2.2 14) (M.2.2 16) 0 0 22)) := tn
  obtain ⟨L, c, x, y, a3, a4, tr, e1, e2, e3⟩ := soon_both tn2 pg2.1 pg2.2.1
  have e2 : f_X5_findSoonest ((upd M.1 0 0, M.2).1, (upd M.1 0 0, M.2).2.1, zur (upd M.1 0 0, M.2).2.2 16 (cpy ((upd M.1 0 0, M.2).2.2 14) ((upd M.1 0 0, M.2).2.2 16) 0 0 22)) = _ := e2
  rw [e1, e2, Option.bind_some, Option.bind_some, zj, zj]
  have hR2 : Rel S (fsM (upd M.1 0 0, M.2.1, zur M.2.2 16 (cpy (M.2.2 14) (M.2.2 16) 0 0 22)) c x y a3 a4 tr) := h
  have cmp0 : ∀ u v : Int64, lg_cmp u v = 0 ↔ u = v := by
    intro u v; unfold lg_cmp
    by_cases z : u > v
    · rw [if_pos z]
      constructor
      · intro w; exact absurd w (by decide)
      · intro w; rw [w] at z; exact absurd z Int64.lt_irrefl
    · rw [if_neg z]
      by_cases z2 : u = v
      · rw [if_pos z2]; simp [z2]
      · rw [if_neg z2]
        constructor
        · intro w; exact absurd w (by decide)
        · intro w; exact absurd w z2
  rcases e3 with ⟨k1, k2, k3⟩ | ⟨T, R, qs, k1, k2, k3, k4, k5, -⟩
  · rw [if_pos ((cmp0 _ _).mpr k1)]
    subst k2; subst k3
    by_cases z : a = 0
    · rw [if_pos z]; exact ansR rfl rfl rfl hR2
    · rw [if_neg z]; exact ansR rfl rfl rfl hR2
  · have n1 : ¬ L = -9 := by
      rw [k1]
      intro z
      have := congrArg Int64.toInt z
      rw [lN_toI (by omega)] at this
      have e : (-9 : Int64).toInt = -9 := rfl
      rw [e] at this
      omega
    rw [if_neg (fun w => n1 ((cmp0 _ _).mp w))]
    have c9 : (1000000000 : Int64) = lN 1000000000 := rfl
    have d1 : L / 1000000000 = lN T := by
      rw [k1, c9, pk_lDiv (by omega) (by decide) (by decide)]
      congr 1; omega
    have d2 : zremL L 1000000000 = lN R := by
      unfold zremL
      rw [k1, c9, pk_lRem (by omega) (by decide) (by decide)]
      congr 1; omega
    by_cases z : a = 0
    · rw [if_pos z, if_pos z]
      dsimp only
      rw [d1, lN_i]
      exact ansR rfl rfl k2.symm hR2
    · rw [if_neg z, if_neg z]
      dsimp only
      rw [d2, lN_i]
      exact ansR rfl rfl k3.symm hR2
