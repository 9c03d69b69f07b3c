/-! ===== alone, keep, again, see ===== -/
/-- what one alone takes: n steps are left, the next is i, from place a on -/
def sAlo (half k1 t1 : Int32) (r1 : Int32 → Int32) : Nat → Int32 → Int32 → Int32
  | 0, _, _ => 0
  | n + 1, i, a => sStp half k1 (r1 a) i t1 + sAlo half k1 t1 r1 n (i + 1) (sNext a (r1 a))
theorem x_aloneMinutes (g p : Int32) (S : zS) (r1 : Int32 → Int32) (h1 : ∀ a, 0 ≤ a → a < 4 → gr (S.1 15) g a = r1 a) (hs : 0 ≤ S.1 10 ∧ S.1 10 ≤ 6) (hp : 0 ≤ p ∧ p < 4) :
    f_X4_aloneMinutes g p S = some (sAlo (S.1 10 / 2) (zushr (S.1 13) (2 * g) &&& 3) (td (S.1 16) g) r1 (S.1 10).toNatClampNeg 0 p) := by
  have hN : (S.1 10).toNatClampNeg ≤ 6 := by
    have := toN_lt (i := S.1 10) (n := 7) 7 rfl (by decide) (by grind) (by decide); omega
  have hN2 := ofN_toN hs.1
  generalize hT : sAlo (S.1 10 / 2) (zushr (S.1 13) (2 * g) &&& 3) (td (S.1 16) g) r1 (S.1 10).toNatClampNeg 0 p = T
  obtain ⟨⟨s, a, i⟩, fu, ⟨e1, -, -, -, e6⟩, he⟩ := zfix_run (F := F_X4_aloneMinutes_8 S g)
    (fun n e => S.1 10 = e.2.2 + Int32.ofNat n ∧ n ≤ 6 ∧ 0 ≤ e.2.2 ∧ (0 ≤ e.2.1 ∧ e.2.1 < 4) ∧ e.1 + sAlo (S.1 10 / 2) (zushr (S.1 13) (2 * g) &&& 3) (td (S.1 16) g) r1 n e.2.2 e.2.1 = T)
    (by
      intro n e h
      obtain ⟨s, a, i⟩ := e
      obtain ⟨e1, e2, e3, e4, e6⟩ := h
      dsimp only at e1 e3 e4 e6
      rw [ofN_s] at e1
      have hb := ofN_b (n := n) (by omega)
      have hlt : ¬ S.1 10 ≤ i := by grind
      have q1 := h1 a e4.1 e4.2
      unfold gr at q1
      refine ⟨(s + sStp (S.1 10 / 2) (zushr (S.1 13) (2 * g) &&& 3) (r1 a) i (td (S.1 16) g), sNext a (r1 a), i + 1), ?_, by grind, by omega, by grind, sNext_b e4, ?_⟩
      · intro rc
        have b1 : 0 ≤ r1 a ∧ r1 a < 4 := by rw [← q1]; exact and3 _
        simp only [F_X4_aloneMinutes_8, if_neg hlt, x_groundAt, q1, Option.bind_some, x_stepMinutes _ _ _ _ _ b1, zl, x_placeBehind]
      · dsimp only
        rw [← e6]
        simp only [sAlo, Int32.add_assoc])
    (S.1 10).toNatClampNeg (0, p, 0) zN ⟨by rw [hN2]; simp, hN, by show (0 : Int32) ≤ 0; decide, hp, by dsimp only; rw [hT]; simp⟩ (by unfold zN; omega)
  dsimp only at e1 e6
  unfold f_X4_aloneMinutes
  rw [he]
  have : S.1 10 ≤ i := by
    have : Int32.ofNat 0 = 0 := rfl
    grind
  simp only [F_X4_aloneMinutes_8, if_pos this]
  simp only [sAlo] at e6
  rw [← e6]; simp
theorem m_aloneLoop (g p : Int32) (M : zS) (hg : 0 ≤ g ∧ g < 4) (hs : 0 ≤ M.1 4 ∧ M.1 4 ≤ 6) (hp : 0 ≤ p ∧ p < 4) :
    zfix (F_X5_alone_38 M g) zN (p, 0, 0) = some (sAlo (M.1 4 / 2) (M.2.2 6 g.toNatClampNeg) (M.2.2 14 (16 + g).toNatClampNeg) (fun a => M.2.2 14 (0 + 4 * g + a).toNatClampNeg) (M.1 4).toNatClampNeg 0 p, M) := by
  have hN : (M.1 4).toNatClampNeg ≤ 6 := by
    have := toN_lt (i := M.1 4) (n := 7) 7 rfl (by decide) (by grind) (by decide); omega
  have hN2 := ofN_toN hs.1
  generalize hr1 : (fun a : Int32 => M.2.2 14 (0 + 4 * g + a).toNatClampNeg) = r1
  have hr1 : ∀ a : Int32, M.2.2 14 (0 + 4 * g + a).toNatClampNeg = r1 a := fun a => by rw [← hr1]
  generalize hT : sAlo (M.1 4 / 2) (M.2.2 6 g.toNatClampNeg) (M.2.2 14 (16 + g).toNatClampNeg) r1 (M.1 4).toNatClampNeg 0 p = T
  obtain ⟨⟨a, s, i⟩, fu, ⟨e1, -, -, -, e6⟩, he⟩ := zfix_run (F := F_X5_alone_38 M g)
    (fun n e => M.1 4 = e.2.2 + Int32.ofNat n ∧ n ≤ 6 ∧ 0 ≤ e.2.2 ∧ (0 ≤ e.1 ∧ e.1 < 4) ∧ e.2.1 + sAlo (M.1 4 / 2) (M.2.2 6 g.toNatClampNeg) (M.2.2 14 (16 + g).toNatClampNeg) r1 n e.2.2 e.1 = T)
    (by
      intro n e h
      obtain ⟨a, s, i⟩ := e
      obtain ⟨e1, e2, e3, e4, e6⟩ := h
      dsimp only at e1 e3 e4 e6
      rw [ofN_s] at e1
      have hb := ofN_b (n := n) (by omega)
      have hlt : ¬ M.1 4 ≤ i := by grind
      refine ⟨(sNext a (r1 a), s + sStp (M.1 4 / 2) (M.2.2 6 g.toNatClampNeg) (r1 a) i (M.2.2 14 (16 + g).toNatClampNeg), i + 1), ?_, by grind, by omega, by grind, sNext_b e4, ?_⟩
      · intro rc
        have c1 : 0 ≤ 0 + 4 * g + a := by grind
        have c2 : 0 + 4 * g + a < 22 := by grind
        simp only [F_X5_alone_38, if_neg hlt, m_takes _ _ _ _ _ hg e4, Option.bind_some, gdz22 c1 c2, hr1, zl, m_next]
      · dsimp only
        rw [← e6]
        simp only [sAlo, Int32.add_assoc])
    (M.1 4).toNatClampNeg (p, 0, 0) zN ⟨by rw [hN2]; simp, hN, by show (0 : Int32) ≤ 0; decide, hp, by dsimp only; rw [hT]; simp⟩ (by unfold zN; omega)
  dsimp only at e1 e6
  rw [he]
  have : M.1 4 ≤ i := by
    have : Int32.ofNat 0 = 0 := rfl
    grind
  simp only [F_X5_alone_38, if_pos this]
  simp only [sAlo] at e6
  rw [← e6]; simp
theorem c_alone (a b : Int32) (S M : zS) (h : Rel S M) : AnsR S (f_X4_alone a b S) (f_X5_alone a b M) := by
  have hR : Rel S (upd M.1 0 0, M.2) := h
  have pg := h.2.2.1
  obtain ⟨t1, t2, t3, t4, t5, t6, t7, t8, t9, t10, t11⟩ := h.2.1
  unfold f_X4_alone f_X5_alone
  simp only [zl, zj, x_placeRefusal, m_noLegger a (upd M.1 0 0, M.2) t5, m_in' b 0 3 0 3 rfl rfl, Option.bind_some, t4, show upd M.1 0 0 5 = M.1 5 from rfl]
  by_cases c : 0 ≤ a ∧ a < M.1 5
  · have ha : 0 ≤ a ∧ a < 4 := by grind
    simp only [if_pos c, if_true]
    by_cases d : 0 ≤ b ∧ b < 4
    · have d' : 0 ≤ b ∧ b ≤ 3 := by grind
      have e1 := x_aloneMinutes a b S (fun k => M.2.2 14 (0 + 4 * a + k).toNatClampNeg) (fun k h0 h1 => pg.1.gr ha.1 ha.2 h0 h1) (by rw [t1]; grind) d
      have e2 := m_aloneLoop a b (upd M.1 0 0, M.2) ha (by show 0 ≤ M.1 4 ∧ M.1 4 ≤ 6; grind) d
      rw [t1, t10 a c.1 c.2, pg.1.td ha.1 ha.2] at e1
      simp only [if_pos d, if_pos d', if_true, show ¬ (1 : Int32) = 0 by decide, if_false, e1, e2, Option.bind_some]
      exact ansR rfl rfl rfl hR
    · have d' : ¬ (0 ≤ b ∧ b ≤ 3) := by grind
      simp only [if_neg d, if_neg d', if_true, show ¬ (-2 : Int32) = 0 by decide, if_false]
      exact ansR rfl rfl rfl hR
  · simp only [if_neg c, show ¬ (1 : Int32) = 0 by decide, show ¬ (-1 : Int32) = 0 by decide, if_false]
    exact ansR rfl rfl rfl hR
theorem nar0 : vp_nar .boolean 0 = 0 := rfl
theorem nar1 : vp_nar .boolean 1 = 1 := rfl
theorem m_keepLoop (a : Int32) (M : zS) (h0 : 0 ≤ a) (h1 : a < 2) : zfix (F_X5_keep_26 a) zN (0, M) = some (M.2.2 14 21, M.1, M.2.1, zur M.2.2 19 (cpy (M.2.2 14) (M.2.2 19) 0 (22 * a.toNatClampNeg) 22)) := by
  have hm : a.toNatClampNeg < 2 := toN_lt (n := 2) 2 rfl (by decide) h1 (by decide)
  obtain ⟨fu, he⟩ := copy_run (F := F_X5_keep_26 a) M 19 (M.2.2 14) 0 (22 * a.toNatClampNeg) 22 (by decide) (by
    intro i hi rc
    have hb := ofN_lt hi (by decide)
    have hb1 : Int32.ofNat i < 22 := hb.2
    have c : ¬ (22 : Int32) ≤ Int32.ofNat i := by grind
    have q := tN_aff 22 h0 hb.1 (by rw [toN_ofN (show i < 2147483648 by omega)]; omega)
    rw [toN_ofN (show i < 2147483648 by omega)] at q
    have q' : ((22 : Int32) * a + Int32.ofNat i).toNatClampNeg = 22 * a.toNatClampNeg + i := q
    have g0 : 0 ≤ (22 : Int32) * a + Int32.ofNat i := by grind
    have g1 : (22 : Int32) * a + Int32.ofNat i < 44 := by grind
    simp only [F_X5_keep_26, if_neg c, gdz22 hb.1 hb1, gdz44 g0 g1, zl, toN_ofN (show i < 2147483648 by omega), q', zur_at, zur_ne _ _ (show (14 : Nat) ≠ 19 by decide), Nat.zero_add])
  rw [he]
  have c : (22 : Int32) ≤ Int32.ofNat 22 := by decide
  simp only [F_X5_keep_26, if_pos c, gdz22 (show (0 : Int32) ≤ 21 by decide) (show (21 : Int32) < 22 by decide), zur_ne _ _ (show (14 : Nat) ≠ 19 by decide), show (21 : Int32).toNatClampNeg = 21 by decide]
theorem m_againLoop (a : Int32) (M : zS) (h0 : 0 ≤ a) (h1 : a < 2) : zfix (F_X5_again_31 a) zN (0, M) = some (M.2.2 19 (22 * a.toNatClampNeg + 21), upd M.1 18 0, M.2.1, zur M.2.2 14 (cpy (M.2.2 19) (M.2.2 14) (22 * a.toNatClampNeg) 0 22)) := by
  have hm : a.toNatClampNeg < 2 := toN_lt (n := 2) 2 rfl (by decide) h1 (by decide)
  obtain ⟨fu, he⟩ := copy_run (F := F_X5_again_31 a) M 14 (M.2.2 19) (22 * a.toNatClampNeg) 0 22 (by decide) (by
    intro i hi rc
    have hb := ofN_lt hi (by decide)
    have hb1 : Int32.ofNat i < 22 := hb.2
    have c : ¬ (22 : Int32) ≤ Int32.ofNat i := by grind
    have q := tN_aff 22 h0 hb.1 (by rw [toN_ofN (show i < 2147483648 by omega)]; omega)
    rw [toN_ofN (show i < 2147483648 by omega)] at q
    have q' : ((22 : Int32) * a + Int32.ofNat i).toNatClampNeg = 22 * a.toNatClampNeg + i := q
    have g0 : 0 ≤ (22 : Int32) * a + Int32.ofNat i := by grind
    have g1 : (22 : Int32) * a + Int32.ofNat i < 44 := by grind
    simp only [F_X5_again_31, if_neg c, gdz22 hb.1 hb1, gdz44 g0 g1, zl, toN_ofN (show i < 2147483648 by omega), q', zur_at, zur_ne _ _ (show (19 : Nat) ≠ 14 by decide), Nat.zero_add])
  rw [he]
  have c : (22 : Int32) ≤ Int32.ofNat 22 := by decide
  simp only [F_X5_again_31, if_pos c, gdz22 (show (0 : Int32) ≤ 21 by decide) (show (21 : Int32) < 22 by decide), zur_at, zl, show (21 : Int32).toNatClampNeg = 21 by decide]
  rfl
theorem c_keep (a : Int32) (S M : zS) (h : Rel S M) : AnsW (f_X4_keep a S) (f_X5_keep a M) := by
  have hR : Rel S (upd M.1 0 0, M.2) := h
  obtain ⟨tx, tn, pg, ac, sl, se, sd⟩ := h
  unfold f_X4_keep f_X5_keep
  simp only [zl, zj, m_in' a 0 1 0 1 rfl rfl, Option.bind_some]
  by_cases c : 0 ≤ a ∧ a ≤ 1
  · have c1 : ¬ a < 0 := by grind
    have c2 : a < 2 := by grind
    have ha := toN_lt (i := a) (n := 2) 2 rfl (by decide) c2 (by decide)
    have hs := x_storeIn 4 a.toNatClampNeg (by show _ ≤ 8; omega) (by decide) S
    rw [ofN_toN c.1] at hs
    simp only [if_pos c, if_neg c1, if_pos c2, show ¬ (1 : Int32) = 0 by decide, if_false, gdz2 c.1 c2, hs, Option.bind_some, m_keepLoop _ _ c.1 c2]
    refine ansW rfl rfl pg.2.2 ⟨tx, tn, pg, ac, ?_, se, sd⟩
    intro k hk
    have e1 : bt (S.1 6 ||| zshl 1 a) k = (bt (S.1 6) k || decide (k = a.toNatClampNeg)) := by
      rw [bt_or, bt_shl 1 c.1 (by grind) (by omega), bt_1]
      by_cases q : k = a.toNatClampNeg
      · simp [q]
      · have : ¬ (a.toNatClampNeg ≤ k ∧ k - a.toNatClampNeg = 0) := by omega
        cases bt (S.1 6) k <;> simp [q] <;> omega
    show (upd (M.2.2 20) a.toNatClampNeg (vp_nar .boolean 1) k = if bt (S.1 6 ||| zshl 1 a) k = true then 1 else 0) ∧ (bt (S.1 6 ||| zshl 1 a) k = true → ro (srow (S.2.2 4) (a.toNatClampNeg * 4) S.1) (4 * k) (fun j => cpy (M.2.2 14) (M.2.2 19) 0 (22 * a.toNatClampNeg) 22 (22 * k + j)))
    rw [e1, upd_apply, nar1]
    by_cases q : k = a.toNatClampNeg
    · rw [if_pos q]
      refine ⟨by simp [q], fun _ => ?_⟩
      have q0 := srow_at (S.2.2 4) (a.toNatClampNeg * 4) S.1 (show 0 < 4 by decide)
      have q1 := srow_at (S.2.2 4) (a.toNatClampNeg * 4) S.1 (show 1 < 4 by decide)
      have q2 := srow_at (S.2.2 4) (a.toNatClampNeg * 4) S.1 (show 2 < 4 by decide)
      have q3 := srow_at (S.2.2 4) (a.toNatClampNeg * 4) S.1 (show 3 < 4 by decide)
      rw [Nat.add_zero] at q0
      unfold ro
      rw [q, Nat.mul_comm 4, q0, q1, q2, q3]
      refine st4.cong pg (fun j hj => ?_)
      unfold cpy
      rw [if_pos (by omega)]; exact congrArg _ (by omega)
    · rw [if_neg q]
      have := sl k hk
      refine ⟨by simp [q, this.1], fun hb => ?_⟩
      have hb : bt (S.1 6) k = true := by simpa [q] using hb
      have w := this.2 hb
      unfold ro at w ⊢
      rw [srow_ne _ _ _ (by omega), srow_ne _ _ _ (by omega), srow_ne _ _ _ (by omega), srow_ne _ _ _ (by omega)]
      refine st4.cong w (fun j hj => ?_)
      show M.2.2 19 (22 * k + j) = cpy (M.2.2 14) (M.2.2 19) 0 (22 * a.toNatClampNeg) 22 (22 * k + j)
      unfold cpy
      rw [if_neg (by omega)]
  · simp only [if_neg c, if_true]
    by_cases c1 : a < 0
    · simp only [if_pos c1]
      exact ansW rfl rfl rfl hR
    · have c2 : ¬ a < 2 := by grind
      simp only [if_neg c1, if_neg c2]
      exact ansW rfl rfl rfl hR
theorem c_again (a : Int32) (S M : zS) (h : Rel S M) : AnsW (f_X4_again a S) (f_X5_again a M) := by
  have hR : Rel S (upd M.1 0 0, M.2) := h
  obtain ⟨tx, tn, pg, ac, sl, se, sd⟩ := h
  unfold f_X4_again f_X5_again
  simp only [zl, zj, m_in' a 0 1 0 1 rfl rfl, Option.bind_some]
  by_cases c : 0 ≤ a ∧ a ≤ 1
  · have c1 : ¬ a < 0 := by grind
    have c2 : a < 2 := by grind
    have ha := toN_lt (i := a) (n := 2) 2 rfl (by decide) c2 (by decide)
    have hl := sl a.toNatClampNeg ha
    simp only [if_pos c, if_neg c1, if_pos c2, show ¬ (1 : Int32) = 0 by decide, if_false, gdz2 c.1 c2, x_isIn' _ a (show 0 ≤ a ∧ a < 4 by grind), Option.bind_some]
    rw [hl.1]
    cases hb : bt (S.1 6) a.toNatClampNeg
    · simp only [Bool.false_eq_true, if_false, if_true]
      exact ansW rfl rfl rfl hR
    · have w := hl.2 hb
      have hs := x_fetchFrom 4 a.toNatClampNeg (by show _ ≤ 8; omega) (by decide) S
      rw [ofN_toN c.1] at hs
      simp only [if_true, show ¬ (1 : Int32) = 0 by decide, if_false, hs, Option.bind_some, m_againLoop _ _ c.1 c2, f_X0_forgetAll, zl]
      unfold ro at w
      rw [Nat.mul_comm 4] at w
      refine ansW rfl rfl w.2.2 ⟨tx, tn, ?_, ⟨rfl, Int32.le_refl 0, by show (0 : Int32) ≤ 14; decide, ac.2.2.2.1, ac.2.2.2.2.1, fun k hk => absurd hk (Nat.not_lt_zero k)⟩, sl, se, sd⟩
      refine st4.cong w (fun j hj => ?_)
      show _ = cpy (M.2.2 19) (M.2.2 14) (22 * a.toNatClampNeg) 0 22 j
      unfold cpy
      rw [if_pos (by omega)]; rfl
  · simp only [if_neg c, if_true]
    by_cases c1 : a < 0
    · simp only [if_pos c1]
      exact ansW rfl rfl rfl hR
    · have c2 : ¬ a < 2 := by grind
      simp only [if_neg c1, if_neg c2]
      exact ansW rfl rfl rfl hR
theorem tN_see {a b : Int32} (h0 : 0 ≤ a) (h1 : a < 6) (h2 : 1 ≤ b) (h3 : b ≤ 3) : 0 ≤ 4 * a + b ∧ 4 * a + b < 32 ∧ (4 * a + b).toNatClampNeg = 4 * a.toNatClampNeg + b.toNatClampNeg ∧ b.toNatClampNeg < 4 ∧ a.toNatClampNeg < 6 := by
  have e : a = 0 ∨ a = 1 ∨ a = 2 ∨ a = 3 ∨ a = 4 ∨ a = 5 := by grind
  have f : b = 1 ∨ b = 2 ∨ b = 3 := by grind
  rcases e with rfl | rfl | rfl | rfl | rfl | rfl <;> rcases f with rfl | rfl | rfl <;> decide
theorem c_see (a b : Int32) (S M : zS) (h : Rel S M) : AnsW (f_X4_see a b S) (f_X5_see a b M) := by
  have hR : Rel S (upd M.1 0 0, M.2) := h
  obtain ⟨tx, tn, pg, ac, sl, se, sd⟩ := h
  obtain ⟨s1, s2, s3, s4, s5⟩ := se
  unfold f_X4_see f_X5_see
  simp only [zl, zj, m_in' a 0 5 0 5 rfl rfl, m_in' b 1 3 1 3 rfl rfl, Option.bind_some, show upd M.1 0 0 21 = M.1 21 from rfl]
  by_cases c : 0 ≤ a ∧ a ≤ 5
  · have c1 : ¬ a < 0 := by grind
    have c2 : ¬ 6 ≤ a := by grind
    simp only [if_pos c, if_neg c1, if_neg c2, show ¬ (1 : Int32) = 0 by decide, if_false]
    by_cases d : 1 ≤ b ∧ b ≤ 3
    · have d1 : ¬ b < 1 := by grind
      simp only [if_pos d, if_neg d1, if_pos d.2, show ¬ (1 : Int32) = 0 by decide, if_false]
      by_cases e : M.1 21 = 6
      · have e1 : ¬ S.1 8 < 6 := by grind
        simp only [if_pos e, if_neg e1]
        exact ansW rfl rfl rfl hR
      · have e1 : S.1 8 < 6 := by grind
        have e2 : M.1 21 < 6 := by grind
        have hk := toN_lt (i := M.1 21) (n := 6) 6 rfl (by decide) e2 (by decide)
        obtain ⟨n1, n2, n3, n4, n5⟩ := tN_see c.1 (show a < 6 by grind) d.1 d.2
        simp only [if_neg e, if_pos e1, gdz6 s2 e2, show upd (upd M.1 0 0) 21 (M.1 21 + 1) 21 = M.1 21 + 1 from rfl]
        refine ansW rfl rfl (by show S.1 8 + 1 = M.1 21 + 1; rw [s1]) ⟨tx, tn, pg, ac, sl, ⟨by show S.1 8 + 1 = M.1 21 + 1; rw [s1], by show 0 ≤ M.1 21 + 1; grind, by show M.1 21 + 1 ≤ 6; grind, ?_, ?_⟩, sd⟩
        · intro k hk2
          have hk2 : k < (M.1 21 + 1).toNatClampNeg := hk2
          rw [toN_s s2 (by grind)] at hk2
          show (0 ≤ upd (M.2.2 22) (M.1 21).toNatClampNeg a k ∧ upd (M.2.2 22) (M.1 21).toNatClampNeg a k < 6) ∧ 1 ≤ upd (M.2.2 23) (M.1 21).toNatClampNeg b k ∧ upd (M.2.2 23) (M.1 21).toNatClampNeg b k ≤ 3
          by_cases q : k = (M.1 21).toNatClampNeg
          · simp only [upd_apply, if_pos q]; grind
          · simp only [upd_apply, if_neg q]; exact s4 k (by omega)
        · intro s m hs hm
          show bt (S.1 7 ||| zshl 1 (4 * a + b)) (4 * s + m) = true ↔ ∃ k, k < (M.1 21 + 1).toNatClampNeg ∧ upd (M.2.2 22) (M.1 21).toNatClampNeg a k = Int32.ofNat s ∧ upd (M.2.2 23) (M.1 21).toNatClampNeg b k = Int32.ofNat m
          rw [bt_or, bt_shl 1 n1 n2 (by omega), bt_1, n3, toN_s s2 (by grind)]
          have := s5 s m hs hm
          constructor
          · intro hb
            by_cases q : bt (S.1 7) (4 * s + m) = true
            · obtain ⟨k, k1, k2, k3⟩ := this.mp q
              refine ⟨k, by omega, ?_, ?_⟩
              · rw [upd_apply, if_neg (by omega)]; exact k2
              · rw [upd_apply, if_neg (by omega)]; exact k3
            · have hb2 : 4 * s + m = 4 * a.toNatClampNeg + b.toNatClampNeg := by
                simp [q] at hb
                omega
              refine ⟨(M.1 21).toNatClampNeg, by omega, ?_, ?_⟩
              · rw [upd_apply, if_pos rfl, ← ofN_toN c.1]; congr 1; omega
              · rw [upd_apply, if_pos rfl, ← ofN_toN (show 0 ≤ b by grind)]; congr 1; omega
          · rintro ⟨k, k1, k2, k3⟩
            by_cases q : k = (M.1 21).toNatClampNeg
            · rw [upd_apply, if_pos q] at k2 k3
              rw [k2, k3, toN_ofN (by omega), toN_ofN (by omega)]
              simp
            · rw [upd_apply, if_neg q] at k2 k3
              rw [this.mpr ⟨k, by omega, k2, k3⟩]; rfl
    · simp only [if_neg d, if_true]
      by_cases d1 : b < 1
      · simp only [if_pos d1]
        exact ansW rfl rfl rfl hR
      · have d2 : ¬ b ≤ 3 := by grind
        simp only [if_neg d1, if_neg d2]
        exact ansW rfl rfl rfl hR
  · simp only [if_neg c, if_true]
    by_cases c1 : a < 0
    · simp only [if_pos c1]
      exact ansW rfl rfl rfl hR
    · have c2 : 6 ≤ a := by grind
      simp only [if_neg c1, if_pos c2]
      exact ansW rfl rfl rfl hR
