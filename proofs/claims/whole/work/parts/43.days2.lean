/-! ===== days: all of them ===== -/
theorem day_x (s : Int64) : ∃ k, k < 20 ∧ (zremL (zushrL s 33) 20).toInt32 = nI k := by
  have e : ∃ m, m < 2147483648 ∧ zushrL s 33 = lN m := by
    refine ⟨(s.toUInt64 >>> ((33 : Int32).toInt64.toUInt64 &&& Int64.toUInt64 63)).toNat, ?_, ?_⟩
    · have c : ((33 : Int32).toInt64.toUInt64 &&& Int64.toUInt64 63) = 33 := by decide
      rw [c, UInt64.toNat_shiftRight]
      have h := s.toUInt64.toNat_lt
      have e2 : (33 : UInt64).toNat % 64 = 33 := by decide
      rw [e2, Nat.shiftRight_eq_div_pow]
      omega
    · unfold zushrL
      show _ = Int64.ofNat _
      apply Int64.toBitVec_inj.mp
      show (UInt64.toBitVec _) = BitVec.ofNat 64 _
      rw [UInt64.toNat]
      simp
      apply BitVec.eq_of_toNat_eq
      rw [BitVec.toNat_ushiftRight, BitVec.toNat_ofNat]
      exact (Nat.mod_eq_of_lt (Nat.lt_of_le_of_lt (Nat.shiftRight_le _ _) s.toBitVec.isLt)).symm
  obtain ⟨m, hm, e⟩ := e
  have e2 : zremL (zushrL s 33) 20 = lN (m % 20) := by
    unfold zremL
    rw [e]
    exact pk_lRem (b := 20) (by omega) (by decide) (by decide)
  rw [e2, lN_i]
  exact ⟨m % 20, Nat.mod_lt _ (by decide), rfl⟩
theorem dS_sd (S : zS) (G T Th C : Int32) (sd sd' : Int64) : ((dS S G T Th C sd).1, sd', (dS S G T Th C sd).2.2) = dS S G T Th C sd' := rfl
theorem dM_sd (M : zS) (c x y : Int32) (p a3 a4 tr : Nat → Int32) (sd sd' : Int64) : ((dM M c x y p a3 a4 tr sd).1, sd', (dM M c x y p a3 a4 tr sd).2.2) = dM M c x y p a3 a4 tr sd' := rfl
theorem dM_base2 (M : zS) (c x y : Int32) (p a3 a4 tr : Nat → Int32) (sd : Int64) (p' : Nat → Int32) : ((dM M c x y p a3 a4 tr sd).1, sd, zur (dM M c x y p a3 a4 tr sd).2.2 16 p') = dM M c x y p' a3 a4 tr sd := dM_base M c x y p a3 a4 tr sd p'
theorem day_dm : ∀ k : Nat, k < 20 → Int32.ofNat k / 4 = Int32.ofNat (k / 4) ∧ zrem (Int32.ofNat k) 4 = Int32.ofNat (k % 4) := by decide +kernel
/-- one day, on both sides -/
theorem one_day {S M : zS} (ht : rTn S M) (a : Int32) (before : Int32) (i : Int32) (hi : ¬ a ≤ i) (G T Th C : Int32) (sd : Int64) (c x y : Int32) (p a3 a4 tr : Nat → Int32) (hp : cPg G T p) (hC : C = p 21) (rc : Int32 × zS → Option (Int32 × zS)) (rc2 : Int32 × zS → Option (Int32 × zS)) :
    ∃ G' T' Th' C' sd' c' x' y' p' b3 b4 tr', F_X4_days_36 a before rc (i, dS S G T Th C sd) = rc (i + 1, dS S G' T' Th' C' sd') ∧ F_X5_days_33 a rc2 (i, dM M c x y p a3 a4 tr sd) = rc2 (i + 1, dM M c' x' y' p' b3 b4 tr' sd') ∧ cPg G' T' p' ∧ C' = p' 21 := by
  have t4 := ht.2.2.2.1
  have t5 := ht.2.2.2.2.1
  have t6 := ht.2.2.2.2.2.1
  obtain ⟨k, hk, ek⟩ := day_x (sd * 6364136223846793005 + 1442695040888963407)
  obtain ⟨d1, d2⟩ := day_dm k hk
  have d1 : nI k / 4 = nI (k / 4) := d1
  have d2 : zrem (nI k) 4 = nI (k % 4) := d2
  have s1 : (dS S G T Th C sd).2.1 = sd := rfl
  have s2 : (dM M c x y p a3 a4 tr sd).2.1 = sd := rfl
  have s3 : ∀ sd', (dS S G T Th C sd').2.1 = sd' := fun _ => rfl
  have s4 : ∀ sd', (dM M c x y p a3 a4 tr sd').2.1 = sd' := fun _ => rfl
  unfold F_X4_days_36 F_X5_days_33
  dsimp only
  rw [if_neg hi, if_neg hi, s1, s2, dS_sd, dM_sd, zl, s3, ek, zl, d1, zl, d2, zl, zl, s4, ek, zl, d1, d2, x_isPlace, Option.bind_some, zj, zj]
  have hleg := nI_4 (k := k % 4) (by omega)
  by_cases q : k / 4 < 4
  · have hpl := nI_4 q
    have n1 : ¬ (4 : Int32) ≤ nI (k / 4) := Int32.not_le.mpr hpl.2
    rw [if_neg n1, if_pos hpl, if_neg (show ¬ (1 : Int32) = 0 by decide), x_hasLegger, Option.bind_some, m_noLegger _ _ (by exact t5), Option.bind_some, zj]
    have e11 : (dS S G T Th C (sd * 6364136223846793005 + 1442695040888963407)).1 11 = M.1 5 := t4
    have e5 : (dM M c x y p a3 a4 tr (sd * 6364136223846793005 + 1442695040888963407)).1 5 = M.1 5 := rfl
    have i0 : 0 ≤ 0 + 4 * nI (k % 4) + nI (k / 4) ∧ 0 + 4 * nI (k % 4) + nI (k / 4) < 22 := by
      rcases i4 hleg.1 hleg.2 with e | e | e | e <;> rcases i4 hpl.1 hpl.2 with e' | e' | e' | e' <;> rw [e, e'] <;> decide
    have b16 : (dM M c x y p a3 a4 tr (sd * 6364136223846793005 + 1442695040888963407)).2.2 16 = p := rfl
    rw [e11, e5]
    by_cases r : 0 ≤ nI (k % 4) ∧ nI (k % 4) < M.1 5
    · rw [if_pos r, if_neg (show ¬ (1 : Int32) = 0 by decide), if_pos r, if_pos rfl]
      dsimp only
      rw [gdz22 i0.1 i0.2, zl, b16, dM_base2]
      have pg2 := st4_lay (Th := 0) (C := 0) (v := 2) (p := fun j => if j < 20 then p j else 0) ⟨cPg_eqP hp (fun j hj => by show p j = if j < 20 then p j else 0; rw [if_pos hj]), rfl, rfl⟩ hleg hpl (by decide)
      refine ⟨lay G 2 (8 * nI (k % 4) + 2 * nI (k / 4)), T, Th, C, _, c, x, y, _, a3, a4, tr, ?_, rfl, ?_, ?_⟩
      · unfold f_X2_cover
        rw [zl, zl, Option.bind_some]
        have e15 : (dS S G T Th C (sd * 6364136223846793005 + 1442695040888963407)).1 15 = G := rfl
        rw [e15]
        have := (dS_put S G T Th C (sd * 6364136223846793005 + 1442695040888963407) (lay G 2 (8 * nI (k % 4) + 2 * nI (k / 4)))).2.1
        unfold lay at this ⊢
        rw [this]
      · refine cPg_eqP pg2.1 (fun j hj => ?_)
        rw [upd_apply, upd_apply]
        split
        · rfl
        · first | rfl | rw [if_pos hj]
      · rw [hC, upd_apply, if_neg]
        rw [tN_page hleg.1 hleg.2 hpl.1 hpl.2, nI_clamp (by omega), nI_clamp (by omega)]
        omega
    · rw [if_neg r, if_pos rfl, if_neg r, if_neg (show ¬ (1 : Int32) = 0 by decide)]
      dsimp only
      rw [gdz22 i0.1 i0.2, gdz22 i0.1 i0.2, zl, b16, dM_base2, upd_same]
      exact ⟨G, T, Th, C, _, c, x, y, p, a3, a4, tr, rfl, rfl, hp, hC⟩
  · have q4 : k / 4 = 4 := by omega
    have n1 : (4 : Int32) ≤ nI (k / 4) := by rw [q4]; decide
    have n2 : ¬ (0 ≤ nI (k / 4) ∧ nI (k / 4) < 4) := by rw [q4]; decide
    have e20 : (20 : Int32).toNatClampNeg = 20 := by decide
    have b16 : (dM M c x y p a3 a4 tr (sd * 6364136223846793005 + 1442695040888963407)).2.2 16 = p := rfl
    rw [if_pos n1, if_neg n2, if_pos rfl, gdz22 (show (0 : Int32) ≤ 20 by decide) (show (20 : Int32) < 22 by decide), e20, zl, b16, dM_base2]
    obtain ⟨S', M', T', c', x', y', p', b3, b4, tr', C', k1, k2, k3, k4, k5, k6⟩ := legs_day ht G T Th C (sd * 6364136223846793005 + 1442695040888963407) c x y p a3 a4 tr hp hC
    subst k3; subst k4
    rw [k1, Option.bind_some]
    refine ⟨G, T', 0, C', _, c', x', y', p', b3, b4, tr', rfl, ?_, k5, k6⟩
    cases hf : f_X5_findSoonest (dM M c x y (upd p 20 0) a3 a4 tr (sd * 6364136223846793005 + 1442695040888963407)) with
    | none => rw [hf] at k2; cases k2
    | some v =>
      rw [hf] at k2
      rw [Option.bind_some] at k2 ⊢
      cases hg : f_X5_goSoonest v with
      | none => rw [hg] at k2; cases k2
      | some w =>
        rw [hg] at k2
        rw [Option.bind_some] at k2 ⊢
        cases k2
        rfl
theorem days_loop {S M : zS} (ht : rTn S M) (a before : Int32) (N : Nat) (hN : N ≤ 30) (ha : a = nI N) (hx5 : S.2.2 5 0 = S.1 15 ∧ S.2.2 5 1 = S.1 16 ∧ S.2.2 5 2 = S.1 17 ∧ S.2.2 5 3 = S.1 18) (hb : before = M.2.2 14 21) : ∀ m i fu fu2 G T Th C sd c x y p a3 a4 tr, N = i + m → m < fu → m < fu2 → cPg G T p → C = p 21 →
    ∃ r sd' c' x' y' p' b3 b4 tr', zfix (F_X4_days_36 a before) fu (nI i, dS S G T Th C sd) = some (r, (S.1, sd', S.2.2)) ∧ zfix (F_X5_days_33 a) fu2 (nI i, dM M c x y p a3 a4 tr sd) = some (r, dM M c' x' y' p' b3 b4 tr' sd') := by
  intro m
  induction m with
  | zero =>
    intro i fu fu2 G T Th C sd c x y p a3 a4 tr e h1 h2 hp hC
    obtain ⟨f, rfl⟩ : ∃ f, fu = f + 1 := ⟨fu - 1, by omega⟩
    obtain ⟨f2, rfl⟩ : ∃ f, fu2 = f + 1 := ⟨fu2 - 1, by omega⟩
    have hle : a ≤ nI i := by rw [ha]; exact nI_le (by omega) (by omega)
    have e21 : (21 : Int32).toNatClampNeg = 21 := by decide
    have hs := x_fetchFrom 5 0 (by decide) (by decide) (dS S G T Th C sd)
    have hs : f_X2_fetchFrom 5 0 (dS S G T Th C sd) = _ := hs
    refine ⟨C - before, sd, c, x, y, p, a3, a4, tr, ?_, ?_⟩
    · rw [zfix_s]
      unfold F_X4_days_36
      dsimp only
      rw [if_pos hle, zl, hs, Option.bind_some]
      have e18 : (dS S G T Th C sd).1 18 = C := rfl
      rw [e18]
      congr 2
      refine Prod.ext ?_ rfl
      have v0 : (dS S G T Th C sd).2.2 5 (0 * 4) = S.1 15 := hx5.1
      have v1 : (dS S G T Th C sd).2.2 5 (0 * 4 + 1) = S.1 16 := hx5.2.1
      have v2 : (dS S G T Th C sd).2.2 5 (0 * 4 + 2) = S.1 17 := hx5.2.2.1
      have v3 : (dS S G T Th C sd).2.2 5 (0 * 4 + 3) = S.1 18 := hx5.2.2.2
      rw [v0, v1, v2, v3]
      funext j
      simp only [upd_apply, dS]
      by_cases q1 : j = 18
      · simp [q1]
      · by_cases q2 : j = 17
        · simp [q2]
        · by_cases q3 : j = 16
          · simp [q3]
          · by_cases q4 : j = 15
            · simp [q4]
            · simp [q1, q2, q3, q4]
    · rw [zfix_s]
      unfold F_X5_days_33
      dsimp only
      rw [if_pos hle, gdz22 (show (0 : Int32) ≤ 21 by decide) (show (21 : Int32) < 22 by decide), gdz22 (show (0 : Int32) ≤ 21 by decide) (show (21 : Int32) < 22 by decide), e21]
      have w1 : (dM M c x y p a3 a4 tr sd).2.2 16 21 = p 21 := rfl
      have w2 : (dM M c x y p a3 a4 tr sd).2.2 14 21 = M.2.2 14 21 := rfl
      rw [w1, w2, hC, hb]
  | succ m ih =>
    intro i fu fu2 G T Th C sd c x y p a3 a4 tr e h1 h2 hp hC
    obtain ⟨f, rfl⟩ : ∃ f, fu = f + 1 := ⟨fu - 1, by omega⟩
    obtain ⟨f2, rfl⟩ : ∃ f, fu2 = f + 1 := ⟨fu2 - 1, by omega⟩
    have hle : ¬ a ≤ nI i := by rw [ha]; exact nI_ge (by omega) (by omega)
    obtain ⟨G', T', Th', C', sd', c', x', y', p', b3, b4, tr', k1, k2, k3, k4⟩ := one_day ht a before (nI i) hle G T Th C sd c x y p a3 a4 tr hp hC (zfix (F_X4_days_36 a before) f) (zfix (F_X5_days_33 a) f2)
    rw [zfix_s, zfix_s, k1, k2, nI_1]
    exact ih (i + 1) f f2 G' T' Th' C' sd' c' x' y' p' b3 b4 tr' (by omega) (by omega) (by omega) k3 k4
theorem c_days (a : Int32) (S M : zS) (h : Rel S M) : AnsW (f_X4_days a S) (f_X5_days a M) := by
  have hR : Rel S (upd M.1 0 0, M.2) := h
  have tn := h.2.1
  have pg := h.2.2.1
  have sd := h.2.2.2.2.2.2
  unfold f_X4_days f_X5_days
  rw [zj, zl, m_in' a 1 30 1 30 rfl rfl, Option.bind_some]
  by_cases c : 1 ≤ a ∧ a ≤ 30
  · have hs := x_storeIn 5 0 (by decide) (by decide) S
    have hs : f_X2_storeIn 5 0 S = some (S.1, S.2.1, zur S.2.2 5 (srow (S.2.2 5) (0 * 4) S.1)) := hs
    obtain ⟨N, hN, ha⟩ := exN (x := a) (n := 30) 30 rfl (by decide) (Int32.le_trans (by decide) c.1) c.2
    rw [if_neg (Int32.not_lt.mpr c.1), if_pos c.2, if_pos c, if_neg (show ¬ (1 : Int32) = 0 by decide), hs, Option.bind_some, zl, m_copy 14 16 (by decide), Option.bind_some]
    have q22 : ∀ j, j < 22 → M.2.2 14 j = cpy (M.2.2 14) (M.2.2 16) 0 0 22 j := by
      intro j hj; unfold cpy; rw [if_pos (by omega)]; exact congrArg _ (by omega)
    have pg2 := pg.cong q22
    have tn2 : rTn (S.1, S.2.1, zur S.2.2 5 (srow (S.2.2 5) (0 * 4) S.1)) (upd M.1 0 0, M.2.1, zur M.2.2 16 (cpy (M.2.2 14) (M.2.2 16) 0 0 22)) := tn
    have r5 := fun c (hc : c < 4) => srow_at (S.2.2 5) (0 * 4) S.1 hc
    have x5 : (S.1, S.2.1, zur S.2.2 5 (srow (S.2.2 5) (0 * 4) S.1)).2.2 5 0 = S.1 15 ∧ (S.1, S.2.1, zur S.2.2 5 (srow (S.2.2 5) (0 * 4) S.1)).2.2 5 1 = S.1 16 ∧ (S.1, S.2.1, zur S.2.2 5 (srow (S.2.2 5) (0 * 4) S.1)).2.2 5 2 = S.1 17 ∧ (S.1, S.2.1, zur S.2.2 5 (srow (S.2.2 5) (0 * 4) S.1)).2.2 5 3 = S.1 18 := ⟨r5 0 (by decide), r5 1 (by decide), r5 2 (by decide), r5 3 (by decide)⟩
    obtain ⟨r, sd', c', x', y', p', b3, b4, tr', k1, k2⟩ := days_loop tn2 a (S.1 18) N hN ha x5 pg.2.2 N 0 zN zN (S.1 15) (S.1 16) (S.1 17) (S.1 18) M.2.1 (M.1 36) (M.1 29) (M.1 30) (cpy (M.2.2 14) (M.2.2 16) 0 0 22) (M.2.2 34) (M.2.2 35) (M.2.2 15) (by omega) (by unfold zN; omega) (by unfold zN; omega) pg2.1 pg2.2.2
    have e1 : dS (S.1, S.2.1, zur S.2.2 5 (srow (S.2.2 5) (0 * 4) S.1)) (S.1 15) (S.1 16) (S.1 17) (S.1 18) M.2.1 = (S.1, S.2.1, zur S.2.2 5 (srow (S.2.2 5) (0 * 4) S.1)) := by
      unfold dS
      rw [upd_same]
      have : upd S.1 16 (S.1 16) = S.1 := upd_same _ _
      rw [this]
      have : upd S.1 17 (S.1 17) = S.1 := upd_same _ _
      rw [this]
      have : upd S.1 18 (S.1 18) = S.1 := upd_same _ _
      rw [this, ← sd]
    have e2 : dM (upd M.1 0 0, M.2.1, zur M.2.2 16 (cpy (M.2.2 14) (M.2.2 16) 0 0 22)) (M.1 36) (M.1 29) (M.1 30) (cpy (M.2.2 14) (M.2.2 16) 0 0 22) (M.2.2 34) (M.2.2 35) (M.2.2 15) M.2.1 = (upd M.1 0 0, M.2.1, zur M.2.2 16 (cpy (M.2.2 14) (M.2.2 16) 0 0 22)) := by
      unfold dM
      refine Prod.ext ?_ (Prod.ext rfl ?_)
      · have h1 : upd (upd M.1 0 0) 36 (M.1 36) = upd M.1 0 0 := upd_same (upd M.1 0 0) 36
        have h2 : upd (upd M.1 0 0) 29 (M.1 29) = upd M.1 0 0 := upd_same (upd M.1 0 0) 29
        have h3 : upd (upd M.1 0 0) 30 (M.1 30) = upd M.1 0 0 := upd_same (upd M.1 0 0) 30
        show upd (upd (upd (upd M.1 0 0) 36 (M.1 36)) 29 (M.1 29)) 30 (M.1 30) = upd M.1 0 0
        rw [h1, h2, h3]
      · show zur (zur (zur (zur (zur M.2.2 16 (cpy (M.2.2 14) (M.2.2 16) 0 0 22)) 16 (cpy (M.2.2 14) (M.2.2 16) 0 0 22)) 34 (M.2.2 34)) 35 (M.2.2 35)) 15 (M.2.2 15) = zur M.2.2 16 (cpy (M.2.2 14) (M.2.2 16) 0 0 22)
        rw [zur_zur]
        have h1 : zur (zur M.2.2 16 (cpy (M.2.2 14) (M.2.2 16) 0 0 22)) 34 (M.2.2 34) = zur M.2.2 16 (cpy (M.2.2 14) (M.2.2 16) 0 0 22) := zur_same (zur M.2.2 16 (cpy (M.2.2 14) (M.2.2 16) 0 0 22)) 34
        have h2 : zur (zur M.2.2 16 (cpy (M.2.2 14) (M.2.2 16) 0 0 22)) 35 (M.2.2 35) = zur M.2.2 16 (cpy (M.2.2 14) (M.2.2 16) 0 0 22) := zur_same (zur M.2.2 16 (cpy (M.2.2 14) (M.2.2 16) 0 0 22)) 35
        have h3 : zur (zur M.2.2 16 (cpy (M.2.2 14) (M.2.2 16) 0 0 22)) 15 (M.2.2 15) = zur M.2.2 16 (cpy (M.2.2 14) (M.2.2 16) 0 0 22) := zur_same (zur M.2.2 16 (cpy (M.2.2 14) (M.2.2 16) 0 0 22)) 15
        rw [h1, h2, h3]
    have z0 : nI 0 = 0 := rfl
    rw [e1, z0] at k1
    rw [e2, z0] at k2
    refine ansW k1 k2 rfl ⟨h.1, h.2.1, h.2.2.1, h.2.2.2.1, h.2.2.2.2.1, h.2.2.2.2.2.1, rfl⟩
  · rw [if_neg c, if_pos rfl]
    by_cases c1 : a < 1
    · rw [if_pos c1]
      exact ansW rfl rfl rfl hR
    · rw [if_neg c1, if_neg (fun z => c ⟨Int32.not_lt.mp c1, z⟩)]
      exact ansW rfl rfl rfl hR
