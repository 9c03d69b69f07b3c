/-! ===== fault: answered alike ===== -/
theorem pM_start (M : zS) : ((upd (upd (upd M.1 3 0) 10 0) 12 0, M.2) : zS) = pM M 0 0 0 (M.1 9) (M.2.2 11) (M.2.2 13) := by
  refine Prod.ext ?_ (Prod.ext rfl ?_)
  · funext j
    simp only [pM, pF, upd_apply]
    by_cases h12 : j = 12
    · subst h12; rfl
    · by_cases h10 : j = 10
      · subst h10; rfl
      · by_cases h3 : j = 3
        · subst h3; rfl
        · by_cases h9 : j = 9
          · subst h9; rfl
          · simp [h12, h10, h3, h9]
  · show M.2.2 = zur (zur M.2.2 11 (M.2.2 11)) 13 (M.2.2 13)
    rw [zur_same]
    have := zur_same M.2.2 13
    exact this.symm
theorem read_start {S M : zS} (h : rTx S M) : ∃ r p NL NB rs a b, f_X3_firstFault S = some r ∧ f_X5_readTunnel M = some (r, pM M p NL NB rs a b) ∧
    (r = -9 → 2 ≤ (M.1 2).toNatClampNeg ∧ 49 ≤ M.2.2 1 1 ∧ M.2.2 1 1 ≤ 54 ∧ rs = M.2.2 1 1 - 48 ∧ ∃ k, k ≤ 40 ∧ Gd (M.2.2 1) (M.1 2).toNatClampNeg a b NL NB k 2 0 0) := by
  have ht : txOk M := ⟨h.2.1, h.2.2.1, fun i hi => (h.2.2.2 i hi).2⟩
  have hL : (M.1 2).toNatClampNeg < 41 := toN_lt (n := 41) 41 rfl (by decide) (Int32.lt_of_le_of_lt h.2.2.1 (by decide)) (by decide)
  have eL : M.1 2 = nI (M.1 2).toNatClampNeg := (ofN_toN h.2.1).symm
  have eC : f_X3_firstFault S = F_X3_firstFault_17 S (zfix (F_X3_firstFault_17 S) (5998 + 1)) (0, 0, 0, 48, 48, 0) := by
    unfold f_X3_firstFault
    rw [show zN = 5998 + 1 + 1 from rfl, zfix_s]
  have e2 : (pM M 0 0 0 (M.1 9) (M.2.2 11) (M.2.2 13)).1 2 = M.1 2 := rfl
  have e1 : (pM M 0 0 0 (M.1 9) (M.2.2 11) (M.2.2 13)).2.2 1 = M.2.2 1 := rfl
  have eM : f_X5_readTunnel M = if 0 < (M.1 2).toNatClampNeg ∧ M.2.2 1 0 = 76 then
      (f_X5_figure 1 6 (pM M 1 0 0 (M.1 9) (M.2.2 11) (M.2.2 13))).bind fun (r_8, S_9) =>
      zlet ((upd S_9.1 9 r_8, S_9.2) : zS) fun S_10 =>
      if (S_10.1 9) = (-9 : Int32) then some ((S_10.1 3), S_10) else zfix F_X5_readTunnel_65 zN S_10
    else some (0, pM M 0 0 0 (M.1 9) (M.2.2 11) (M.2.2 13)) := by
    have st : ∀ T : zS, T = pM M 0 0 0 (M.1 9) (M.2.2 11) (M.2.2 13) → (zjoin (fun (_ : Unit) => some ((0 : Int32), T)) fun k_4 =>
      if (T.1 2) = 0 then k_4 () else
      gd (zin (0 : Int32) 40) <|
      if (T.2.2 1 ((0 : Int32)).toNatClampNeg) = (76 : Int32) then
        zlet ((upd T.1 3 (1 : Int32), T.2) : zS) fun S_6 =>
        (f_X5_figure (1 : Int32) (6 : Int32) S_6).bind fun (r_8, S_9) =>
        zlet ((upd S_9.1 9 r_8, S_9.2) : zS) fun S_10 =>
        if (S_10.1 9) = (-9 : Int32) then some ((S_10.1 3), S_10) else zfix F_X5_readTunnel_65 zN S_10
      else k_4 ()) = if 0 < (M.1 2).toNatClampNeg ∧ M.2.2 1 0 = 76 then
      (f_X5_figure 1 6 (pM M 1 0 0 (M.1 9) (M.2.2 11) (M.2.2 13))).bind fun (r_8, S_9) =>
      zlet ((upd S_9.1 9 r_8, S_9.2) : zS) fun S_10 =>
      if (S_10.1 9) = (-9 : Int32) then some ((S_10.1 3), S_10) else zfix F_X5_readTunnel_65 zN S_10
    else some (0, pM M 0 0 0 (M.1 9) (M.2.2 11) (M.2.2 13)) := by
      intro T hT
      subst hT
      rw [zj, e2, e1]
      by_cases q : 0 < (M.1 2).toNatClampNeg
      · have n0 : ¬ M.1 2 = 0 := by rw [eL]; exact nI_ne0 q (by omega)
        have g1 : (0 : Int32) < 40 := by decide
        rw [if_neg n0, gdz40 (Int32.le_refl _) g1, show (0 : Int32).toNatClampNeg = 0 from rfl]
        by_cases q1 : M.2.2 1 0 = 76
        · rw [if_pos q1, if_pos ⟨q, q1⟩, zl]
          have f3 : (upd (pM M 0 0 0 (M.1 9) (M.2.2 11) (M.2.2 13)).1 3 1, (pM M 0 0 0 (M.1 9) (M.2.2 11) (M.2.2 13)).2) = pM M 1 0 0 (M.1 9) (M.2.2 11) (M.2.2 13) := by
            refine Prod.ext ?_ rfl
            exact pF_3 M.1 0 0 0 (M.1 9) 1
          rw [f3]
        · rw [if_neg q1, if_neg (fun z => q1 z.2)]
      · have n0 : M.1 2 = 0 := by rw [eL, show (M.1 2).toNatClampNeg = 0 by omega]; rfl
        rw [if_pos n0, if_neg (fun z => q z.1)]
    unfold f_X5_readTunnel
    rw [zl, zl, zl]
    exact st _ (pM_start M)
  rw [eC, eM, ff_first h]
  by_cases q : 0 < (M.1 2).toNatClampNeg ∧ M.2.2 1 0 = 76
  · rw [if_pos q, if_pos q, ff_scan h (nI 0) (nI 0) 49 54 1 1 5998 (by omega) (by omega)]
    have fg := m_figure ht 1 0 0 (M.1 9) (M.2.2 11) (M.2.2 13) 49 54 1 6 (by omega) (by decide) (by decide) (by decide) (by decide)
    have fS : ∀ p v, ((upd (pM M p 0 0 (M.1 9) (M.2.2 11) (M.2.2 13)).1 9 v, (pM M p 0 0 (M.1 9) (M.2.2 11) (M.2.2 13)).2) : zS) = pM M p 0 0 v (M.2.2 11) (M.2.2 13) := by
      intro p v
      refine Prod.ext ?_ rfl
      funext j
      simp only [pM, pF, upd_apply]
      by_cases h9 : j = 9
      · subst h9; rfl
      · simp [h9]
    have e9 : ∀ p v, (pM M p 0 0 v (M.2.2 11) (M.2.2 13)).1 9 = v := fun _ _ => rfl
    by_cases c : 1 < (M.1 2).toNatClampNeg ∧ 49 ≤ M.2.2 1 1 ∧ M.2.2 1 1 ≤ 54
    · have e : sc (M.2.2 1) (M.1 2).toNatClampNeg 49 54 1 1 = none := if_pos c
      rw [e]
      rw [if_pos c] at fg
      have n9 := fig_ne9 (Int32.le_trans (show (48 : Int32) ≤ 49 by decide) c.2.1) (Int32.le_trans c.2.2 (by decide))
      obtain ⟨r, p, NL, NB, a', b', i1, i2, i3, i4, i5⟩ := read_both h (M.2.2 1 1 - 48) 39 2 0 0 49 54 (M.2.2 11) (M.2.2 13) 5998 zN (by omega) (by omega) (by unfold zN; omega) (by omega) (by omega) (by omega) (by omega)
      refine ⟨r, p, NL, NB, M.2.2 1 1 - 48, a', b', i1, ?_, fun z => ?_⟩
      · rw [fg, Option.bind_some]
        dsimp only
        rw [zl, fS, e9, if_neg n9]
        exact i2
      · obtain ⟨k, hk, i6⟩ := i5 z
        exact ⟨c.1, c.2.1, c.2.2, rfl, k, by omega, i6⟩
    · have e : sc (M.2.2 1) (M.1 2).toNatClampNeg 49 54 1 1 = some 1 := if_neg c
      rw [e]
      rw [if_neg c] at fg
      refine ⟨nI 1, 1, 0, 0, -9, M.2.2 11, M.2.2 13, if_pos (by omega), ?_, fun z => absurd z (ne9_nI (by omega))⟩
      rw [fg, Option.bind_some]
      dsimp only
      rw [zl, fS, e9, if_pos rfl]
      rfl
  · rw [if_neg q, if_neg q]
    exact ⟨0, 0, 0, 0, M.1 9, M.2.2 11, M.2.2 13, rfl, rfl, fun z => absurd z (by decide)⟩
theorem c_fault (S M : zS) (h : Rel S M) : AnsR S (f_X4_fault S) (f_X5_fault M) := by
  have h1 : Rel S (upd M.1 0 0, M.2) := h
  obtain ⟨r, p, NL, NB, rs, a, b, i1, i2, _⟩ := read_start h1.1
  refine ⟨r, pM (upd M.1 0 0, M.2) p NL NB rs a b, ?_, ?_, ?_⟩
  · unfold f_X4_fault; rw [i1]; rfl
  · unfold f_X5_fault; rw [zl, i2]; rfl
  · exact h
