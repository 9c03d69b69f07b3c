/-! ===== the reference lays it; tunnel: answered alike ===== -/
def uM (T : zS) (k p l : Nat → Int32) : zS := (T.1, T.2.1, zur (zur (zur T.2.2 6 k) 14 p) 8 l)
theorem uM_6 (T : zS) (k p l k' : Nat → Int32) : zur (uM T k p l).2.2 6 k' = (uM T k' p l).2.2 := by
  funext j; simp only [uM, zur_apply]; by_cases h : j = 6 <;> simp [h]
theorem uM_14 (T : zS) (k p l p' : Nat → Int32) : zur (uM T k p l).2.2 14 p' = (uM T k p' l).2.2 := by
  funext j; simp only [uM, zur_apply]; by_cases h : j = 14 <;> simp [h]
theorem uM_8 (T : zS) (k p l l' : Nat → Int32) : zur (uM T k p l).2.2 8 l' = (uM T k p l').2.2 := by
  funext j; simp only [uM, zur_apply]; by_cases h : j = 8 <;> simp [h]
theorem uM_self (T : zS) : uM T (T.2.2 6) (T.2.2 14) (T.2.2 8) = T := by
  refine Prod.ext rfl (Prod.ext rfl ?_)
  show zur (zur (zur T.2.2 6 (T.2.2 6)) 14 (T.2.2 14)) 8 (T.2.2 8) = T.2.2
  rw [zur_same, zur_same, zur_same]
def eT (X : zS) : zS := (upd X.1 18 0, X.2.1, zur (zur X.2.2 20 (upd (X.2.2 20) 0 0)) 20 (upd (upd (X.2.2 20) 0 0) 1 0))
section TM
variable {T : zS} {NL NB : Nat}
theorem m_t131 (h7 : T.1 7 = nI NB) (hNB : NB ≤ 3) (k p : Nat → Int32) : ∀ n i l f, i + n = NB → n < f → ∃ l', zfix F_X5_tunnel_131 f (nI i, uM T k p l) = some (10 * T.1 5 + nI NB, eT (uM T k p l')) ∧ (∀ j, j < i → l' j = l j) ∧ (∀ j, i ≤ j → j < NB → l' j = T.2.2 13 j) := by
  intro n
  induction n with
  | zero =>
    intro i l f hi hf
    obtain ⟨f, rfl⟩ : ∃ k, f = k + 1 := ⟨f - 1, by omega⟩
    have e7 : (uM T k p l).1 7 = nI NB := h7
    have c : nI NB ≤ nI i := nI_le (by omega) (by omega)
    refine ⟨l, ?_, fun _ _ => rfl, fun j h1 h2 => absurd h2 (by omega)⟩
    have g0 : (0 : Int32) < 2 := by decide
    have g1 : (1 : Int32) < 2 := by decide
    have g2 : (0 : Int32) ≤ 1 := by decide
    rw [zfix_s]
    unfold F_X5_tunnel_131
    dsimp only
    rw [e7, if_pos c, zl, gdz2 (Int32.le_refl _) g0, zl, gdz2 g2 g1, zl]
    have e5 : (uM T k p l).1 5 = T.1 5 := rfl
    congr 2
    exact congrArg (10 * T.1 5 + ·) h7
  | succ n ih =>
    intro i l f hi hf
    obtain ⟨f, rfl⟩ : ∃ k, f = k + 1 := ⟨f - 1, by omega⟩
    have e7 : (uM T k p l).1 7 = nI NB := h7
    have c : ¬ nI NB ≤ nI i := nI_ge (by omega) (by omega)
    have g0 : 0 ≤ nI i := nI_pos' (by omega)
    have g1 : nI i < 3 := nI_lt (b := 3) (by omega) (by omega)
    have e8 : (uM T k p l).2.2 8 = l := rfl
    have e13 : (uM T k p l).2.2 13 = T.2.2 13 := rfl
    obtain ⟨l', r1, r2, r3⟩ := ih (i + 1) (upd l i (T.2.2 13 i)) f (by omega) (by omega)
    refine ⟨l', ?_, fun j hj => ?_, fun j h1 h2 => ?_⟩
    · rw [zfix_s]
      unfold F_X5_tunnel_131
      dsimp only
      rw [e7, if_neg c, gdz3 g0 g1, gdz3 g0 g1, zl, nI_clamp (by omega), e8, e13, uM_8, nI_1]
      exact r1
    · rw [r2 j (by omega), upd_apply, if_neg (by omega)]
    · by_cases e : j = i
      · subst e; rw [r2 j (by omega), upd_apply, if_pos rfl]
      · exact r3 j (by omega) h2
theorem m_t88 (hNL : NL ≤ 4) (k l p : Nat → Int32) (g j : Nat) (hg : g < NL) (hj : j < 4) (rec_13 rc : Int32 × zS → Option (Int32 × zS)) :
    F_X5_tunnel_88 rec_13 (nI g) rc (nI j, uM T k p l) = rc (nI (j + 1), uM T k (upd p (4 * g + j) (T.2.2 11 (5 * g + 1 + j))) l) := by
  have c : ¬ (4 : Int32) ≤ nI j := nI_ge (b := 4) hj (by omega)
  have i1 : 5 * nI g + 1 + nI j = nI (5 * g + 1 + j) := by rw [show (5 : Int32) = nI 5 from rfl, pk_mul, nI_1, nI_add]
  have i2 : 0 + 4 * nI g + nI j = nI (4 * g + j) := by rw [show (4 : Int32) = nI 4 from rfl, show (0 : Int32) = nI 0 from rfl, pk_mul, nI_add, nI_add, Nat.zero_add]
  have g0 : 0 ≤ nI (5 * g + 1 + j) := nI_pos' (by omega)
  have g1 : nI (5 * g + 1 + j) < 20 := nI_lt (b := 20) (by omega) (by omega)
  have g2 : 0 ≤ nI (4 * g + j) := nI_pos' (by omega)
  have g3 : nI (4 * g + j) < 22 := nI_lt (b := 22) (by omega) (by omega)
  have e14 : (uM T k p l).2.2 14 = p := rfl
  have e11 : (uM T k p l).2.2 11 = T.2.2 11 := rfl
  unfold F_X5_tunnel_88
  dsimp only
  rw [if_neg c, i1, i2, gdz20 g0 g1, gdz22 g2 g3, zl, nI_clamp (by omega), nI_clamp (by omega), e14, e11, uM_14, nI_1]
  rfl
theorem m_t64 (h5 : T.1 5 = nI NL) (h7 : T.1 7 = nI NB) (hNL : NL ≤ 4) (hNB : NB ≤ 3) : ∀ n g k p l f, g + n = NL → n < f → ∃ k' p' l', zfix F_X5_tunnel_64 f (nI g, uM T k p l) = some (10 * nI NL + nI NB, eT (uM T k' p' l')) ∧ (∀ j, j < g → k' j = k j) ∧ (∀ j, g ≤ j → j < NL → k' j = T.2.2 11 (5 * j)) ∧
    (∀ j, j < 4 * g → p' j = p j) ∧ (∀ j, 4 * NL ≤ j → p' j = p j) ∧ (∀ j, 4 * g ≤ j → j < 4 * NL → p' j = T.2.2 11 (5 * (j / 4) + 1 + j % 4)) ∧ (∀ j, j < NB → l' j = T.2.2 13 j) := by
  intro n
  induction n with
  | zero =>
    intro g k p l f hi hf
    obtain ⟨f, rfl⟩ : ∃ k, f = k + 1 := ⟨f - 1, by omega⟩
    have e5 : (uM T k p l).1 5 = nI NL := h5
    have c : nI NL ≤ nI g := nI_le (by omega) (by omega)
    obtain ⟨l', r1, r2, r3⟩ := m_t131 h7 hNB k p NB 0 l zN (by omega) (by unfold zN; omega)
    refine ⟨k, p, l', ?_, fun _ _ => rfl, fun j h1 h2 => absurd h2 (by omega), fun _ _ => rfl, fun _ _ => rfl, fun j h1 h2 => absurd h2 (by omega), fun j hj => r3 j (by omega) hj⟩
    rw [zfix_s]
    unfold F_X5_tunnel_64
    dsimp only
    rw [e5, if_pos c, ← h5]
    exact r1
  | succ n ih =>
    intro g k p l f hi hf
    obtain ⟨f, rfl⟩ : ∃ k, f = k + 1 := ⟨f - 1, by omega⟩
    have e5 : (uM T k p l).1 5 = nI NL := h5
    have c : ¬ nI NL ≤ nI g := nI_ge (by omega) (by omega)
    have i1 : 5 * nI g = nI (5 * g) := by rw [show (5 : Int32) = nI 5 from rfl, pk_mul]
    have g0 : 0 ≤ nI (5 * g) := nI_pos' (by omega)
    have g1 : nI (5 * g) < 20 := nI_lt (b := 20) (by omega) (by omega)
    have g2 : 0 ≤ nI g := nI_pos' (by omega)
    have g3 : nI g < 4 := nI_lt (b := 4) (by omega) (by omega)
    have e6 : (uM T k p l).2.2 6 = k := rfl
    have e11 : (uM T k p l).2.2 11 = T.2.2 11 := rfl
    have c4 : (4 : Int32) ≤ nI 4 := by decide
    obtain ⟨k', p', l', r1, r2, r3, r4, r5, r6, r7⟩ := ih (g + 1) (upd k g (T.2.2 11 (5 * g))) (upd (upd (upd (upd p (4 * g + 0) (T.2.2 11 (5 * g + 1 + 0))) (4 * g + (0 + 1)) (T.2.2 11 (5 * g + 1 + (0 + 1)))) (4 * g + (0 + 1 + 1)) (T.2.2 11 (5 * g + 1 + (0 + 1 + 1)))) (4 * g + (0 + 1 + 1 + 1)) (T.2.2 11 (5 * g + 1 + (0 + 1 + 1 + 1)))) l f (by omega) (by omega)
    have in88 : ∀ q, zfix (F_X5_tunnel_88 (zfix F_X5_tunnel_64 f) (nI g)) zN (nI 0, uM T q p l) = zfix F_X5_tunnel_64 f (nI (g + 1), uM T q (upd (upd (upd (upd p (4 * g + 0) (T.2.2 11 (5 * g + 1 + 0))) (4 * g + (0 + 1)) (T.2.2 11 (5 * g + 1 + (0 + 1)))) (4 * g + (0 + 1 + 1)) (T.2.2 11 (5 * g + 1 + (0 + 1 + 1)))) (4 * g + (0 + 1 + 1 + 1)) (T.2.2 11 (5 * g + 1 + (0 + 1 + 1 + 1)))) l) := by
      intro q
      rw [show zN = 5995 + 1 + 1 + 1 + 1 + 1 from rfl]
      rw [zfix_s, m_t88 hNL q l _ g 0 (by omega) (by omega), zfix_s, m_t88 hNL q l _ g (0 + 1) (by omega) (by omega), zfix_s, m_t88 hNL q l _ g (0 + 1 + 1) (by omega) (by omega), zfix_s, m_t88 hNL q l _ g (0 + 1 + 1 + 1) (by omega) (by omega), zfix_s]
      unfold F_X5_tunnel_88
      dsimp only
      rw [if_pos (show (4 : Int32) ≤ nI (0 + 1 + 1 + 1 + 1) from c4), nI_1]
    refine ⟨k', p', l', ?_, fun j hj => ?_, fun j h1 h2 => ?_, fun j hj => ?_, fun j hj => ?_, fun j h1 h2 => ?_, r7⟩
    · rw [zfix_s]
      unfold F_X5_tunnel_64
      dsimp only
      rw [e5, if_neg c, i1, gdz20 g0 g1, gdz4 g2 g3, zl, nI_clamp (by omega), nI_clamp (by omega), e6, e11, uM_6]
      exact (in88 _).trans r1
    · rw [r2 j (by omega), upd_apply, if_neg (by omega)]
    · by_cases e : j = g
      · subst e; rw [r2 j (by omega), upd_apply, if_pos rfl]
      · exact r3 j (by omega) h2
    · rw [r4 j (by omega)]
      simp only [upd_apply]
      rw [if_neg (by omega), if_neg (by omega), if_neg (by omega), if_neg (by omega)]
    · rw [r5 j (by omega)]
      simp only [upd_apply]
      rw [if_neg (by omega), if_neg (by omega), if_neg (by omega), if_neg (by omega)]
    · by_cases e : j < 4 * (g + 1)
      · rw [r4 j e]
        simp only [upd_apply]
        rcases (by omega : j = 4 * g + 0 ∨ j = 4 * g + 1 ∨ j = 4 * g + 2 ∨ j = 4 * g + 3) with rfl | rfl | rfl | rfl
        · rw [if_neg (by omega), if_neg (by omega), if_neg (by omega), if_pos (by omega)]; exact congrArg (T.2.2 11) (by omega)
        · rw [if_neg (by omega), if_neg (by omega), if_pos (by omega)]; exact congrArg (T.2.2 11) (by omega)
        · rw [if_neg (by omega), if_pos (by omega)]; exact congrArg (T.2.2 11) (by omega)
        · rw [if_pos (by omega)]; exact congrArg (T.2.2 11) (by omega)
      · exact r6 j (by omega) h2
theorem m_t43 (h5 : T.1 5 = nI NL) (h7 : T.1 7 = nI NB) (hNL : NL ≤ 4) (hNB : NB ≤ 3) : ∀ n i k p l f, i + n = 22 → n < f → (∀ j, j < i → p j = 0) → ∃ k' p' l', zfix F_X5_tunnel_43 f (nI i, uM T k p l) = some (10 * nI NL + nI NB, eT (uM T k' p' l')) ∧ (∀ j, j < NL → k' j = T.2.2 11 (5 * j)) ∧
    (∀ j, 4 * NL ≤ j → j < 22 → p' j = 0) ∧ (∀ j, j < 4 * NL → p' j = T.2.2 11 (5 * (j / 4) + 1 + j % 4)) ∧ (∀ j, j < NB → l' j = T.2.2 13 j) := by
  intro n
  induction n with
  | zero =>
    intro i k p l f hi hf hz
    obtain ⟨f, rfl⟩ : ∃ k, f = k + 1 := ⟨f - 1, by omega⟩
    have c : (22 : Int32) ≤ nI i := nI_le (a := 22) (by omega) (by omega)
    obtain ⟨k', p', l', r1, _, r3, _, r5, r6, r7⟩ := m_t64 h5 h7 hNL hNB NL 0 k p l zN (by omega) (by unfold zN; omega)
    refine ⟨k', p', l', ?_, fun j hj => r3 j (by omega) hj, fun j h1 h2 => by rw [r5 j h1, hz j (by omega)], fun j hj => r6 j (by omega) hj, r7⟩
    rw [zfix_s]
    unfold F_X5_tunnel_43
    dsimp only
    rw [if_pos c]
    exact r1
  | succ n ih =>
    intro i k p l f hi hf hz
    obtain ⟨f, rfl⟩ : ∃ k, f = k + 1 := ⟨f - 1, by omega⟩
    have c : ¬ (22 : Int32) ≤ nI i := nI_ge (b := 22) (by omega) (by omega)
    have g0 : 0 ≤ nI i := nI_pos' (by omega)
    have g1 : nI i < 22 := nI_lt (b := 22) (by omega) (by omega)
    have e14 : (uM T k p l).2.2 14 = p := rfl
    obtain ⟨k', p', l', r1, r2⟩ := ih (i + 1) k (upd p i 0) l f (by omega) (by omega) (by
      intro j hj
      rw [upd_apply]
      by_cases e : j = i
      · rw [if_pos e]
      · rw [if_neg e]; exact hz j (by omega))
    refine ⟨k', p', l', ?_, r2⟩
    rw [zfix_s]
    unfold F_X5_tunnel_43
    dsimp only
    rw [if_neg c, gdz22 g0 g1, zl, nI_clamp (by omega), e14, uM_14, nI_1]
    exact r1
end TM
theorem toN_ltn {g : Int32} {n : Nat} (hn : n ≤ 6000) (g0 : 0 ≤ g) (g1 : g < nI n) : g.toNatClampNeg < n := by
  obtain ⟨m, hm, rfl⟩ := exN (n := n) (nI n) rfl hn g0 (Int32.le_of_lt g1)
  rw [nI_clamp (by omega)]
  exact (nI_ltI (by omega) (by omega)).mp g1
theorem fl_zero (n : Nat) : fl 0 n = 0 := by
  unfold fl; rw [bt_0, bt_0]; rfl
theorem tun_class {S M : zS} (h : rTx S M) (a b : Nat → Int32) (NL NB k : Nat) (h2 : 2 ≤ (M.1 2).toNatClampNeg) (hk : k ≤ 40) (hG : Gd (M.2.2 1) (M.1 2).toNatClampNeg a b NL NB k 2 0 0) :
    ∃ K W G, f_X4_readTunnel S = some (qS (upd (upd (upd (upd S.1 10 (M.2.2 1 1 - 48)) 16 0) 17 0) 18 0, S.2) NL NB K W G) ∧ iG a (4 * NL) G ∧ iK a NL K ∧ iW b NB W ∧ NL ≤ 4 ∧ NB ≤ 3 := by
  have h' : rTx (upd (upd (upd (upd S.1 10 (M.2.2 1 1 - 48)) 16 0) 17 0) 18 0, S.2) M := h
  obtain ⟨K, W, G, r1, r2⟩ := tun_read h' a b NL NB k 2 0 0 0 0 0 zN hG (fun j hj => by rw [fl_zero, if_neg (by omega)]) (fun j hj => by rw [fl_zero, if_neg (by omega)]) ⟨fun i hi => by rw [bt_0, if_neg (by omega)], fun k hk => absurd hk (by omega)⟩ (by omega) (by omega) (by unfold zN; omega)
  refine ⟨K, W, G, ?_, r2⟩
  have f1 : f_X3_figureAt 1 S = some (M.2.2 1 1 - 48) := x_fig h (pos := 1) (by omega)
  unfold f_X4_readTunnel
  rw [f1, Option.bind_some]
  unfold f_X1_layOut
  rw [zl, zl, zl, zl, zl, Option.bind_some]
  unfold f_X2_clear
  rw [zl, zl, zl, zl, Option.bind_some]
  refine Eq.trans ?_ r1
  refine congrArg (fun s => zfix F_X4_readTunnel_24 zN (2, s)) ?_
  refine Prod.ext ?_ rfl
  funext j
  simp only [qS, qF, upd_apply]
  by_cases h11 : j = 11
  · subst h11; rfl
  by_cases h12 : j = 12
  · subst h12; rfl
  by_cases h13 : j = 13
  · subst h13; rfl
  by_cases h14 : j = 14
  · subst h14; rfl
  by_cases h15 : j = 15
  · subst h15; rfl
  simp [h11, h12, h13, h14, h15]
theorem c_tunnel (S M : zS) (h : Rel S M) : AnsW (f_X4_tunnel S) (f_X5_tunnel M) := by
  have h1 : Rel S (upd M.1 0 0, M.2) := h
  obtain ⟨r, p, NL, NB, rs, a, b, i1, i2, i3⟩ := read_start h1.1
  by_cases c : r = -9
  · obtain ⟨l2, v1, v2, v3, k, hk, hG⟩ := i3 c
    subst c
    obtain ⟨K, W, G, q1, q2, q3, q4, hNL, hNB⟩ := tun_class h1.1 a b NL NB k l2 hk hG
    obtain ⟨k', p', l', m1, m2, m3, m4, m5⟩ := m_t43 (T := (upd (upd (upd (pM (upd M.1 0 0, M.2) p NL NB rs a b).1 4 rs) 5 (nI NL)) 7 (nI NB), (pM (upd M.1 0 0, M.2) p NL NB rs a b).2)) (NL := NL) (NB := NB) rfl rfl hNL hNB 22 0 _ _ _ zN (by omega) (by unfold zN; omega) (fun j hj => absurd hj (by omega))
    rw [uM_self] at m1
    have ec : f_X4_tunnel S = some (10 * nI NL + nI NB, (upd (upd (qS (upd (upd (upd (upd S.1 10 (M.2.2 1 1 - 48)) 16 0) 17 0) 18 0, S.2) NL NB K W G).1 20 0) 6 0, S.2)) := by
      unfold f_X4_tunnel
      rw [i1, Option.bind_some, if_pos rfl, q1, Option.bind_some]
      unfold f_X0_forgetAll
      rw [zl, Option.bind_some, zl]
      rfl
    have em : f_X5_tunnel M = some (10 * nI NL + nI NB, eT (uM (upd (upd (upd (pM (upd M.1 0 0, M.2) p NL NB rs a b).1 4 rs) 5 (nI NL)) 7 (nI NB), (pM (upd M.1 0 0, M.2) p NL NB rs a b).2) k' p' l')) := by
      unfold f_X5_tunnel
      rw [zl, i2, Option.bind_some]
      dsimp only
      rw [if_pos rfl, zl, zl, zl]
      exact m1
    refine ⟨_, _, _, ec, em, ?_⟩
    obtain ⟨t, n, pg, ac, sl, se, gg⟩ := h
    have vr : 1 ≤ M.2.2 1 1 - 48 ∧ M.2.2 1 1 - 48 ≤ 6 := by
      have v1' : 49 ≤ M.2.2 1 1 := v1
      have v2' : M.2.2 1 1 ≤ 54 := v2
      constructor <;> grind
    refine ⟨t, ⟨v3.symm, ?_, ?_, rfl, ?_, ?_, rfl, ?_, ?_, ?_, ?_⟩, ⟨⟨?_, ?_⟩, ?_, ?_⟩, ⟨rfl, Int32.le_refl _, ?_, ac.2.2.2.1, ac.2.2.2.2.1, ?_⟩, ?_, se, gg⟩
    · show 1 ≤ rs; rw [v3]; exact vr.1
    · show rs ≤ 6; rw [v3]; exact vr.2
    · exact nI_pos' (by omega)
    · exact nI_le (b := 4) (by omega) (by omega)
    · exact nI_pos' (by omega)
    · exact nI_le (b := 3) (by omega) (by omega)
    · intro g g0 g1
      have g1 : g < nI NL := g1
      have gn : g.toNatClampNeg < NL := toN_ltn (by omega) g0 g1
      have g4 : g < 4 := Int32.lt_of_lt_of_le g1 (nI_le (b := 4) hNL (by omega))
      have e := q3 g.toNatClampNeg (by omega)
      rw [if_pos gn] at e
      have e2 := td_fl K g0 g4
      exact (e2.trans e).trans (m2 _ gn).symm
    · intro g g0 g1
      have g1 : g < nI NB := g1
      have gn : g.toNatClampNeg < NB := toN_ltn (by omega) g0 g1
      have g4 : g < 4 := Int32.lt_of_lt_of_le g1 (nI_le (b := 4) (by omega) (by omega))
      have rg := q4.2 _ gn
      have em := m5 _ gn
      have em' : l' g.toNatClampNeg = b g.toNatClampNeg := em
      refine ⟨?_, ?_, ?_⟩
      · show zushr W (4 * g) &&& 15 = l' g.toNatClampNeg
        rw [em']
        have a4 := tN_4 g0 g4
        apply bt_ext
        intro i hi
        rw [bt_and, bt_15, bt_ushr _ a4.1 a4.2.1, a4.2.2]
        by_cases d : i < 4
        · rw [q4.1 _ (by omega), if_pos (by omega), show (4 * g.toNatClampNeg + i) / 4 = g.toNatClampNeg by omega, show (4 * g.toNatClampNeg + i) % 4 = i by omega]
          simp [d]
        · obtain ⟨m, hm, e9⟩ := exN (n := 9) 9 rfl (by decide) rg.1 rg.2
          have := hi9 m (by omega) i hi (by omega)
          rw [← e9] at this
          simp [d, this]
      · show 0 ≤ l' g.toNatClampNeg
        rw [em']; exact rg.1
      · show l' g.toNatClampNeg ≤ 9
        rw [em']; exact rg.2
    · intro j hj
      have e := q2 j hj
      by_cases d : j < 4 * NL
      · rw [if_pos d] at e
        exact e.trans (m4 j d).symm
      · rw [if_neg d] at e
        exact e.trans (m3 j (by omega) (by omega)).symm
    · intro g hg
      exact (fl_zero _).trans (m3 (16 + g) (by omega) (by omega)).symm
    · exact (m3 20 (by omega) (by omega)).symm
    · exact (m3 21 (by omega) (by omega)).symm
    · show (0 : Int32) ≤ 14; decide
    · intro k hk
      exact absurd hk (by show ¬ k < (0 : Int32).toNatClampNeg; simp)
    · intro k hk
      refine ⟨?_, ?_⟩
      · have z : bt 0 k = false := bt_0 k
        show _ = if bt 0 k then 1 else 0
        rw [z]
        rcases (by omega : k = 0 ∨ k = 1) with rfl | rfl <;> rfl
      · intro z
        have z' : bt 0 k = true := z
        rw [bt_0] at z'; cases z'
  · have n9 := c
    refine ⟨-3, S, pM (upd M.1 0 0, M.2) p NL NB rs a b, ?_, ?_, ?_⟩
    · unfold f_X4_tunnel
      rw [i1, Option.bind_some, if_neg n9]
    · unfold f_X5_tunnel
      rw [zl, i2, Option.bind_some]
      dsimp only
      rw [if_neg n9]
    · exact h
