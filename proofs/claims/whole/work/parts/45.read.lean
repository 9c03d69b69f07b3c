/-! ===== the text read part by part, in both ===== -/
section RP
variable {M : zS}
theorem m_part0 (h : txOk M) (pos nl nb : Nat) (rs : Int32) (a b : Nat → Int32) (hp : pos < (M.1 2).toNatClampNeg) :
    f_X5_readPart (pM M pos nl nb rs a b) = (zjoin (fun (_ : Unit) => zjoin (fun (_ : Unit) => some ((0 : Int32), pM M pos nl nb rs a b)) fun k_5 =>
      if M.2.2 1 pos = 66 then if (3 : Int32) ≤ nI nb then k_5 () else
        (f_X5_figure 0 9 (pM M (pos + 1) nl nb rs a b)).bind fun (r_8, S_9) =>
        if r_8 = (-9 : Int32) then some ((0 : Int32), S_9)
        else
          gd (zin (S_9.1 12) 3) <|
          zlet ((S_9.1, S_9.2.1, zur S_9.2.2 13 (upd (S_9.2.2 13) ((S_9.1 12)).toNatClampNeg r_8)) : zS) fun S_11 =>
          zlet ((upd S_11.1 12 ((S_11.1 12) + (1 : Int32)), S_11.2) : zS) fun S_12 =>
          some ((1 : Int32), S_12)
      else k_5 ()) fun k_4 =>
      if M.2.2 1 pos = 71 then if (4 : Int32) ≤ nI nl then k_4 () else
        (f_X5_readLegger (pM M (pos + 1) nl nb rs a b)).bind fun (r_17, S_18) =>
        gd (zb r_17) <| some (r_17, S_18)
      else k_4 ()) := by
  obtain ⟨x2, x3, x4⟩ := h
  have hL : (M.1 2).toNatClampNeg < 41 := toN_lt (n := 41) 41 rfl (by decide) (Int32.lt_of_le_of_lt x3 (by decide)) (by decide)
  have e3 : (pM M pos nl nb rs a b).1 3 = nI pos := rfl
  have e1 : (pM M pos nl nb rs a b).2.2 1 = M.2.2 1 := rfl
  have g0 : 0 ≤ nI pos := nI_pos' (by omega)
  have g1 : nI pos < 40 := nI_lt (b := 40) (by omega) (by omega)
  have f3 : (upd (pM M pos nl nb rs a b).1 3 (nI (pos + 1)), (pM M pos nl nb rs a b).2) = pM M (pos + 1) nl nb rs a b := by
    refine Prod.ext ?_ rfl
    exact pF_3 _ _ _ _ _ _
  have f3' : (upd (pM M (pos + 1) nl nb rs a b).1 3 (nI pos), (pM M (pos + 1) nl nb rs a b).2) = pM M pos nl nb rs a b := by
    refine Prod.ext ?_ rfl
    exact pF_3 _ _ _ _ _ _
  have e3' : (pM M (pos + 1) nl nb rs a b).1 3 = nI (pos + 1) := rfl
  unfold f_X5_readPart
  rw [e3, gdz40 g0 g1, zl, zl, e1, nI_1, f3, nI_clamp (by omega), e3', nI_pred, f3']
  rfl
theorem m_partG (h : txOk M) (pos nl nb : Nat) (rs : Int32) (a b : Nat → Int32) (hp : pos < (M.1 2).toNatClampNeg) (c : M.2.2 1 pos = 71) (hnl : nl < 4) :
    match sc (M.2.2 1) (M.1 2).toNatClampNeg 48 51 5 (pos + 1) with
    | some p => ∃ a', f_X5_readPart (pM M pos nl nb rs a b) = some (0, pM M p nl nb rs a' b) ∧ (∀ j, j < 5 * nl → a' j = a j)
    | none => ∃ a', f_X5_readPart (pM M pos nl nb rs a b) = some (1, pM M (pos + 6) (nl + 1) nb rs a' b) ∧ (∀ j, j < 5 * nl → a' j = a j) ∧ (∀ j, j < 5 → a' (5 * nl + j) = M.2.2 1 (pos + 1 + j) - 48) := by
  have r := m_readLegger h nl nb hnl rs b 5 0 (pos + 1) a zN (by omega) (by unfold zN; omega) (by omega)
  have c4 : ¬ (4 : Int32) ≤ nI nl := nI_ge (b := 4) hnl (by omega)
  have e : f_X5_readLegger (pM M (pos + 1) nl nb rs a b) = zfix F_X5_readLegger_2 zN (nI 0, pM M (pos + 1) nl nb rs a b) := rfl
  cases hs : sc (M.2.2 1) (M.1 2).toNatClampNeg 48 51 5 (pos + 1) with
  | some p =>
    rw [hs] at r
    obtain ⟨a', r1, rk⟩ := r
    refine ⟨a', ?_, fun j hj => rk j (by omega)⟩
    rw [m_part0 h _ _ _ _ _ _ hp, zj, if_pos c, if_neg c4, e, r1, Option.bind_some]
    exact zb0
  | none =>
    rw [hs] at r
    obtain ⟨a', r1, r2, r3⟩ := r
    refine ⟨a', ?_, fun j hj => r2 j (by omega), fun j hj => r3 j hj⟩
    rw [m_part0 h _ _ _ _ _ _ hp, zj, if_pos c, if_neg c4, e, r1, Option.bind_some]
    exact zb1
theorem m_partB (h : txOk M) (pos nl nb : Nat) (rs : Int32) (a b : Nat → Int32) (hp : pos < (M.1 2).toNatClampNeg) (c : M.2.2 1 pos = 66) (hnb : nb < 3) :
    match sc (M.2.2 1) (M.1 2).toNatClampNeg 48 57 1 (pos + 1) with
    | some p => f_X5_readPart (pM M pos nl nb rs a b) = some (0, pM M p nl nb rs a b)
    | none => f_X5_readPart (pM M pos nl nb rs a b) = some (1, pM M (pos + 2) nl (nb + 1) rs a (upd b nb (M.2.2 1 (pos + 1) - 48))) := by
  have c71 : ¬ M.2.2 1 pos = 71 := by rw [c]; decide
  have c3 : ¬ (3 : Int32) ≤ nI nb := nI_ge (b := 3) hnb (by omega)
  have fg := m_figure h (pos + 1) nl nb rs a b 48 57 0 9 (by omega) (by decide) (by decide) (by decide) (by decide)
  by_cases q : pos + 1 < (M.1 2).toNatClampNeg ∧ 48 ≤ M.2.2 1 (pos + 1) ∧ M.2.2 1 (pos + 1) ≤ 57
  · have e : sc (M.2.2 1) (M.1 2).toNatClampNeg 48 57 1 (pos + 1) = none := if_pos q
    rw [e]
    rw [if_pos q] at fg
    have n9 := fig_ne9 q.2.1 (Int32.le_trans q.2.2 (by decide))
    have e12 : (pM M (pos + 1 + 1) nl nb rs a b).1 12 = nI nb := rfl
    have e13 : (pM M (pos + 1 + 1) nl nb rs a b).2.2 13 = b := rfl
    have g0 : 0 ≤ nI nb := nI_pos' (by omega)
    have g1 : nI nb < 3 := nI_lt (b := 3) (by omega) (by omega)
    dsimp only
    rw [m_part0 h _ _ _ _ _ _ hp, zj, if_neg c71, zj, if_pos c, if_neg c3, fg, Option.bind_some]
    dsimp only
    rw [if_neg n9, e12, gdz3 g0 g1, zl, zl, nI_clamp (by omega), e13, pM_13]
    show some ((1 : Int32), ((upd (pM M (pos + 1 + 1) nl nb rs a b).1 12 ((pM M (pos + 1 + 1) nl nb rs a b).1 12 + 1), _) : zS)) = _
    rw [e12, nI_1]
    congr 2
    refine Prod.ext ?_ rfl
    exact pF_12 _ _ _ _ _ _
  · have e : sc (M.2.2 1) (M.1 2).toNatClampNeg 48 57 1 (pos + 1) = some (pos + 1) := if_neg q
    rw [e]
    rw [if_neg q] at fg
    dsimp only
    rw [m_part0 h _ _ _ _ _ _ hp, zj, if_neg c71, zj, if_pos c, if_neg c3, fg, Option.bind_some]
    dsimp only
    rw [if_pos rfl]
theorem m_partN (h : txOk M) (pos nl nb : Nat) (rs : Int32) (a b : Nat → Int32) (hp : pos < (M.1 2).toNatClampNeg) (hnl : nl ≤ 4) (hnb : nb ≤ 3) (c1 : ¬ (M.2.2 1 pos = 71 ∧ nl < 4)) (c2 : ¬ (M.2.2 1 pos = 66 ∧ nb < 3)) :
    f_X5_readPart (pM M pos nl nb rs a b) = some (0, pM M pos nl nb rs a b) := by
  rw [m_part0 h _ _ _ _ _ _ hp, zj]
  have k : (zjoin (fun (_ : Unit) => some ((0 : Int32), pM M pos nl nb rs a b)) fun k_5 =>
      if M.2.2 1 pos = 66 then if (3 : Int32) ≤ nI nb then k_5 () else
        (f_X5_figure 0 9 (pM M (pos + 1) nl nb rs a b)).bind fun (r_8, S_9) =>
        if r_8 = (-9 : Int32) then some ((0 : Int32), S_9)
        else
          gd (zin (S_9.1 12) 3) <|
          zlet ((S_9.1, S_9.2.1, zur S_9.2.2 13 (upd (S_9.2.2 13) ((S_9.1 12)).toNatClampNeg r_8)) : zS) fun S_11 =>
          zlet ((upd S_11.1 12 ((S_11.1 12) + (1 : Int32)), S_11.2) : zS) fun S_12 =>
          some ((1 : Int32), S_12)
      else k_5 ()) = some ((0 : Int32), pM M pos nl nb rs a b) := by
    rw [zj]
    by_cases q : M.2.2 1 pos = 66
    · have c : (3 : Int32) ≤ nI nb := nI_le (a := 3) (by
        by_cases z : nb < 3
        · exact absurd ⟨q, z⟩ c2
        · omega) (by omega)
      rw [if_pos q, if_pos c]
    · rw [if_neg q]
  by_cases q : M.2.2 1 pos = 71
  · have c : (4 : Int32) ≤ nI nl := nI_le (a := 4) (by
      by_cases z : nl < 4
      · exact absurd ⟨q, z⟩ c1
      · omega) (by omega)
    rw [if_pos q, if_pos c]
    exact k
  · rw [if_neg q]
    exact k
end RP
/-- the parts of a good tunnel's text from pos on -/
def Gd (t : Nat → Int32) (L : Nat) (a b : Nat → Int32) (NL NB : Nat) : Nat → Nat → Nat → Nat → Prop
  | 0, pos, nl, nb => pos = L ∧ nl = NL ∧ nb = NB
  | n + 1, pos, nl, nb =>
    (pos + 6 ≤ L ∧ t pos = 71 ∧ nl < 4 ∧ (∀ k, k < 5 → (48 ≤ t (pos + 1 + k) ∧ t (pos + 1 + k) ≤ 51) ∧ a (5 * nl + k) = t (pos + 1 + k) - 48) ∧ Gd t L a b NL NB n (pos + 6) (nl + 1) nb) ∨
    (pos + 2 ≤ L ∧ t pos = 66 ∧ nb < 3 ∧ ((48 ≤ t (pos + 1) ∧ t (pos + 1) ≤ 57) ∧ b nb = t (pos + 1) - 48) ∧ Gd t L a b NL NB n (pos + 2) nl (nb + 1))
theorem ne9_nI {p : Nat} (h : p < 6000) : ¬ nI p = -9 := by
  intro z
  have := nI_pos' (n := p) (by omega)
  rw [z] at this
  revert this; decide
theorem read_both {S M : zS} (h : rTx S M) (rs : Int32) : ∀ n pos nl nb (lo hi : Int32) a b f g, (M.1 2).toNatClampNeg ≤ pos + n → n + 6 < f → n < g → 0 < pos → pos ≤ (M.1 2).toNatClampNeg → nl ≤ 4 → nb ≤ 3 →
    ∃ r p NL NB a' b', zfix (F_X3_firstFault_17 S) f (nI nl, nI nb, nI 0, lo, hi, nI pos) = some r ∧ zfix F_X5_readTunnel_65 g (pM M pos nl nb rs a b) = some (r, pM M p NL NB rs a' b') ∧ (∀ j, j < 5 * nl → a' j = a j) ∧ (∀ j, j < nb → b' j = b j) ∧ (r = -9 → ∃ k, k ≤ n ∧ Gd (M.2.2 1) (M.1 2).toNatClampNeg a' b' NL NB k pos nl nb) := by
  have ht : txOk M := ⟨h.2.1, h.2.2.1, fun i hi => (h.2.2.2 i hi).2⟩
  have hL : (M.1 2).toNatClampNeg < 41 := toN_lt (n := 41) 41 rfl (by decide) (Int32.lt_of_le_of_lt h.2.2.1 (by decide)) (by decide)
  have eL : M.1 2 = nI (M.1 2).toNatClampNeg := (ofN_toN h.2.1).symm
  intro n
  induction n using Nat.strongRecOn with
  | ind n ih =>
  intro pos nl nb lo hi a b f g hn hf hg h0 hp hnl hnb
  obtain ⟨f, rfl⟩ : ∃ k, f = k + 1 := ⟨f - 1, by omega⟩
  obtain ⟨g, rfl⟩ : ∃ k, g = k + 1 := ⟨g - 1, by omega⟩
  have e3 : (pM M pos nl nb rs a b).1 3 = nI pos := rfl
  have e2 : (pM M pos nl nb rs a b).1 2 = M.1 2 := rfl
  rw [zfix_s, zfix_s]
  by_cases q : pos < (M.1 2).toNatClampNeg
  · have c2 : ¬ M.1 2 ≤ nI pos := by rw [eL]; exact nI_ge q (by omega)
    have mst : ∀ rc : zS → Option (Int32 × zS), F_X5_readTunnel_65 rc (pM M pos nl nb rs a b) = (f_X5_readPart (pM M pos nl nb rs a b)).bind fun (r_14, S_15) => if r_14 = 0 then some ((S_15.1 3), S_15) else rc S_15 := by
      intro rc
      unfold F_X5_readTunnel_65
      dsimp only
      rw [e2, e3, if_neg c2]
    rw [mst, ff_part h _ nl nb (by omega) (by omega) lo hi pos h0 q]
    by_cases q1 : M.2.2 1 pos = 71 ∧ nl < 4
    · rw [if_pos q1]
      have pt := m_partG ht pos nl nb rs a b q q1.1 q1.2
      obtain ⟨f', rfl⟩ : ∃ k, f = k + 5 := ⟨f - 5, by omega⟩
      rw [ff_scan h (nI (nl + 1)) (nI nb) 48 51 5 (pos + 1) f' (by omega) (by omega)]
      cases hs : sc (M.2.2 1) (M.1 2).toNatClampNeg 48 51 5 (pos + 1) with
      | some p =>
        rw [hs] at pt
        obtain ⟨a', pt, pk⟩ := pt
        have sb := sc_some _ _ _ hs
        refine ⟨nI p, p, nl, nb, a', b, if_pos (by omega), ?_, ?_, fun _ _ => rfl, fun z => absurd z (ne9_nI (by omega))⟩
        · rw [pt, Option.bind_some]; exact if_pos rfl
        · exact pk
      | none =>
        rw [hs] at pt
        obtain ⟨a1, pt, p1, p2⟩ := pt
        have sn := sc_none _ _ hs
        have s4 := (sn 4 (by omega)).1
        obtain ⟨r, p, NL, NB, a', b', i1, i2, i3, i4, i5⟩ := ih (n - 6) (by omega) (pos + 6) (nl + 1) nb 48 51 a1 b f' g (by omega) (by omega) (by omega) (by omega) (by omega) (by omega) hnb
        refine ⟨r, p, NL, NB, a', b', ?_, ?_, fun j hj => by rw [i3 j (by omega), p1 j hj], i4, fun z => ?_⟩
        rotate_left 2
        · obtain ⟨k, hk, i6⟩ := i5 z
          exact ⟨k + 1, by omega, Or.inl ⟨by omega, q1.1, q1.2, fun k hk => ⟨(sn k hk).2, by rw [i3 _ (by omega), p2 k hk]⟩, i6⟩⟩
        · exact i1
        · rw [pt, Option.bind_some]
          exact (if_neg (show ¬ (1 : Int32) = 0 by decide)).trans i2
    · rw [if_neg q1]
      by_cases q2 : M.2.2 1 pos = 66 ∧ nb < 3
      · rw [if_pos q2]
        have pt := m_partB ht pos nl nb rs a b q q2.1 q2.2
        obtain ⟨f', rfl⟩ : ∃ k, f = k + 1 := ⟨f - 1, by omega⟩
        rw [ff_scan h (nI nl) (nI (nb + 1)) 48 57 1 (pos + 1) f' (by omega) (by omega)]
        cases hs : sc (M.2.2 1) (M.1 2).toNatClampNeg 48 57 1 (pos + 1) with
        | some p =>
          rw [hs] at pt
          have sb := sc_some _ _ _ hs
          refine ⟨nI p, p, nl, nb, a, b, if_pos (by omega), ?_, fun _ _ => rfl, fun _ _ => rfl, fun z => absurd z (ne9_nI (by omega))⟩
          rw [pt, Option.bind_some]; exact if_pos rfl
        | none =>
          rw [hs] at pt
          have sn := sc_none _ _ hs
          have s0 := (sn 0 (by omega))
          obtain ⟨r, p, NL, NB, a', b', i1, i2, i3, i4, i5⟩ := ih (n - 2) (by omega) (pos + 2) nl (nb + 1) 48 57 a (upd b nb (M.2.2 1 (pos + 1) - 48)) f' g (by omega) (by omega) (by omega) (by omega) (by omega) hnl (by omega)
          refine ⟨r, p, NL, NB, a', b', ?_, ?_, i3, fun j hj => by rw [i4 j (by omega), upd_apply, if_neg (by omega)], fun z => ?_⟩
          rotate_left 2
          · obtain ⟨k, hk, i6⟩ := i5 z
            exact ⟨k + 1, by omega, Or.inr ⟨by omega, q2.1, q2.2, ⟨s0.2, by rw [i4 _ (by omega), upd_apply, if_pos rfl]⟩, i6⟩⟩
          · exact i1
          · rw [pt, Option.bind_some]
            exact (if_neg (show ¬ (1 : Int32) = 0 by decide)).trans i2
      · rw [if_neg q2]
        have pt := m_partN ht pos nl nb rs a b q hnl hnb q1 q2
        refine ⟨nI pos, pos, nl, nb, a, b, rfl, ?_, fun _ _ => rfl, fun _ _ => rfl, fun z => absurd z (ne9_nI (by omega))⟩
        rw [pt, Option.bind_some]; exact if_pos rfl
  · have e : pos = (M.1 2).toNatClampNeg := by omega
    have c2 : M.1 2 ≤ nI pos := by rw [eL, e]; exact Int32.le_refl _
    rw [ff_end h _ _ _ _ _ pos h0 e]
    refine ⟨-9, pos, nl, nb, a, b, rfl, ?_, fun _ _ => rfl, fun _ _ => rfl, fun _ => ?_⟩
    · unfold F_X5_readTunnel_65
      dsimp only
      rw [e2, e3, if_pos c2]
    · exact ⟨0, by omega, e, rfl, rfl⟩
