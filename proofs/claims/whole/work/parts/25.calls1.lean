/-! ===== calls, one by one: write, wipe, about, legger, load, alone, time, see, unsee, seed ===== -/
theorem m_in' (x : Int32) (A B : Int64) (a b : Int32) (ha : A = a.toInt64) (hb : B = b.toInt64) : f_X5_in x.toInt64 A B = some (if a ≤ x ∧ x ≤ b then 1 else 0) := by rw [ha, hb, m_in]
theorem ansW {x m : Option (Int32 × zS)} {r r' : Int32} {S' M' : zS} (hx : x = some (r, S')) (hm : m = some (r', M')) (e : r = r') (hR : Rel S' M') : AnsW x m := ⟨r, S', M', hx, by rw [hm, e], hR⟩
theorem ansR {S : zS} {x : Option Int32} {m : Option (Int32 × zS)} {r r' : Int32} {M' : zS} (hx : x = some r) (hm : m = some (r', M')) (e : r = r') (hR : Rel S M') : AnsR S x m := ⟨r, M', hx, by rw [hm, e], hR⟩
theorem Rel.t {S M : zS} (h : Rel S M) : Rel S (upd M.1 0 0, M.2) := h
theorem toN_s {x : Int32} (h0 : 0 ≤ x) (h1 : x < 6000) : (x + 1).toNatClampNeg = x.toNatClampNeg + 1 := by
  have hb := toN_lt (i := x) (n := 6000) 6000 rfl (by decide) h1 (by decide)
  have := ofN_toN h0
  rw [← this, toN_ofN (by omega), ← ofN_s, toN_ofN (by omega)]
theorem c_write (a : Int32) (S M : zS) (h : Rel S M) : AnsW (f_X4_write a S) (f_X5_write a M) := by
  obtain ⟨tx, tn, pg, ac, sl, se, sd⟩ := h
  obtain ⟨x1, x2, x3, x4⟩ := tx
  unfold f_X4_write f_X5_write
  simp only [zl, zj, m_in' a 0 255 0 255 rfl rfl, Option.bind_some]
  by_cases c : 0 ≤ a ∧ a ≤ 255
  · have c1 : ¬ a < 0 := by grind
    simp only [if_pos c, if_neg c1, if_pos c.2, show ¬ (1 : Int32) = 0 by decide, if_false]
    unfold f_X3_append
    simp only [zl, zj, upd_apply, show ¬ (2 : Nat) = 0 by decide, if_false]
    by_cases d : M.1 2 = 40
    · have d1 : ¬ S.1 9 < 0 := by grind
      have d2 : ¬ S.1 9 < 40 := by grind
      simp only [if_neg d1, if_neg d2, if_pos d, Option.bind_some, if_true]
      exact ansW rfl rfl rfl ⟨⟨x1, x2, x3, x4⟩, tn, pg, ac, sl, se, sd⟩
    · have d1 : ¬ S.1 9 < 0 := by grind
      have d2 : S.1 9 < 40 := by grind
      have d3 : M.1 2 < 40 := by grind
      simp only [if_neg d1, if_pos d2, if_neg d, gdz40 (show 0 ≤ S.1 9 by grind) d2, gdz40 x2 d3, Option.bind_some, show ¬ (1 : Int32) = 0 by decide, if_false, if_true]
      refine ansW rfl rfl (by show S.1 9 + 1 = M.1 2 + 1; rw [x1]) ⟨?_, tn, pg, ac, sl, se, sd⟩
      refine ⟨?_, ?_, ?_, ?_⟩
      · show S.1 9 + 1 = M.1 2 + 1; rw [x1]
      · show 0 ≤ M.1 2 + 1; grind
      · show M.1 2 + 1 ≤ 40; grind
      · intro i hi
        have hi : i < (M.1 2 + 1).toNatClampNeg := hi
        rw [toN_s x2 (by grind)] at hi
        show upd (S.2.2 6) (S.1 9).toNatClampNeg a i = upd (M.2.2 1) (M.1 2).toNatClampNeg a i ∧ 0 ≤ upd (M.2.2 1) (M.1 2).toNatClampNeg a i ∧ upd (M.2.2 1) (M.1 2).toNatClampNeg a i ≤ 255
        rw [x1]
        by_cases q : i = (M.1 2).toNatClampNeg
        · simp only [upd_apply, if_pos q, c, and_self]
        · simp only [upd_apply, if_neg q]
          exact x4 i (by omega)
  · simp only [if_neg c, if_true]
    by_cases c1 : a < 0
    · simp only [if_pos c1]
      exact ansW rfl rfl rfl ⟨⟨x1, x2, x3, x4⟩, tn, pg, ac, sl, se, sd⟩
    · have c2 : ¬ a ≤ 255 := by grind
      simp only [if_neg c1, if_neg c2]
      exact ansW rfl rfl rfl ⟨⟨x1, x2, x3, x4⟩, tn, pg, ac, sl, se, sd⟩
theorem c_wipe (S M : zS) (h : Rel S M) : AnsW (f_X4_wipe S) (f_X5_wipe M) := by
  obtain ⟨tx, tn, pg, ac, sl, se, sd⟩ := h
  obtain ⟨x1, x2, x3, x4⟩ := tx
  unfold f_X4_wipe f_X5_wipe
  simp only [zl, upd_apply, show ¬ (2 : Nat) = 0 by decide, if_false]
  refine ansW rfl rfl x1 ⟨⟨rfl, Int32.le_refl 0, by show (0 : Int32) ≤ 40; decide, ?_⟩, tn, pg, ac, sl, se, sd⟩
  intro i hi
  exact absurd hi (Nat.not_lt_zero i)
theorem c_about (a : Int32) (S M : zS) (h : Rel S M) : AnsR S (f_X4_about a S) (f_X5_about a M) := by
  obtain ⟨tx, tn, pg, ac, sl, se, sd⟩ := h
  have x1 := tx.1
  have x2 := tn.1
  have x3 := tn.2.2.2.1
  have x4 := tn.2.2.2.2.2.2.1
  have x5 := pg.2.1
  have x6 := pg.2.2
  have x7 := ac.1
  have x8 := se.1
  unfold f_X4_about f_X5_about
  simp only [zl, gdz22 (show (0 : Int32) ≤ 20 by decide) (show (20 : Int32) < 22 by decide), gdz22 (show (0 : Int32) ≤ 21 by decide) (show (21 : Int32) < 22 by decide), upd_apply]
  have hR : Rel S (upd M.1 0 0, M.2) := ⟨tx, tn, pg, ac, sl, se, sd⟩
  by_cases c0 : a = 0
  · simp only [if_pos c0]; exact ansR rfl rfl (by rw [x2]; rfl) hR
  · simp only [if_neg c0]
    by_cases c1 : a = 1
    · simp only [if_pos c1]; exact ansR rfl rfl (by rw [x3]; rfl) hR
    · simp only [if_neg c1]
      by_cases c2 : a = 2
      · simp only [if_pos c2]; exact ansR rfl rfl (by rw [x4]; rfl) hR
      · simp only [if_neg c2]
        by_cases c3 : a = 3
        · simp only [if_pos c3]; exact ansR rfl rfl (by rw [x5]; rfl) hR
        · simp only [if_neg c3]
          by_cases c4 : a = 4
          · simp only [if_pos c4]; exact ansR rfl rfl (by rw [x6]; rfl) hR
          · simp only [if_neg c4]
            by_cases c5 : a = 5
            · simp only [if_pos c5]; exact ansR rfl rfl (by rw [x7]; rfl) hR
            · simp only [if_neg c5]
              by_cases c6 : a = 6
              · simp only [if_pos c6]; exact ansR rfl rfl (by rw [x8]; rfl) hR
              · simp only [if_neg c6]
                by_cases c7 : a = 7
                · simp only [if_pos c7]; exact ansR rfl rfl (by rw [x1]; rfl) hR
                · simp only [if_neg c7]; exact ansR rfl rfl rfl hR
theorem c_legger (a b : Int32) (S M : zS) (h : Rel S M) : AnsR S (f_X4_legger a b S) (f_X5_legger a b M) := by
  have hR : Rel S (upd M.1 0 0, M.2) := h
  obtain ⟨tx, tn, pg, ac, sl, se, sd⟩ := h
  obtain ⟨t1, t2, t3, t4, t5, t6, t7, t8, t9, t10, t11⟩ := tn
  unfold f_X4_legger f_X5_legger
  simp only [zl, zj, x_hasLegger, m_noLegger a (upd M.1 0 0, M.2) t5, m_in' b 0 3 0 3 rfl rfl, x_isPlace, Option.bind_some, upd_apply, show ¬ (5 : Nat) = 0 by decide, if_false, x_kindOf, x_timesTired, x_groundAt, t4]
  by_cases c : 0 ≤ a ∧ a < M.1 5
  · have c4 : a < 4 := by grind
    simp only [if_pos c, show ¬ (1 : Int32) = 0 by decide, if_false, if_true, gdz4 c.1 c4, gdz22 (show 0 ≤ 16 + a by grind) (show 16 + a < 22 by grind)]
    by_cases d : 0 ≤ b ∧ b < 4
    · have d' : 0 ≤ b ∧ b ≤ 3 := by grind
      have q := pg.1.gr c.1 c4 d.1 d.2
      unfold gr at q
      simp only [if_pos d, if_pos d', show ¬ (1 : Int32) = 0 by decide, if_false, gdz22 (show 0 ≤ 0 + 4 * a + b by grind) (show 0 + 4 * a + b < 22 by grind)]
      exact ansR rfl rfl (by rw [q]) hR
    · have d' : ¬ (0 ≤ b ∧ b ≤ 3) := by grind
      simp only [if_neg d, if_neg d', if_true]
      by_cases e : b = 4
      · simp only [if_pos e]
        exact ansR rfl rfl (by rw [t10 a c.1 c.2]) hR
      · simp only [if_neg e]
        by_cases f : b = 5
        · simp only [if_pos f]
          have q := pg.1.td c.1 c4
          unfold td at q
          exact ansR rfl rfl (by rw [q]) hR
        · simp only [if_neg f]
          exact ansR rfl rfl rfl hR
  · simp only [if_neg c, show ¬ (1 : Int32) = 0 by decide, if_false, if_true]
    exact ansR rfl rfl rfl hR
theorem c_load (a : Int32) (S M : zS) (h : Rel S M) : AnsR S (f_X4_load a S) (f_X5_load a M) := by
  have hR : Rel S (upd M.1 0 0, M.2) := h
  obtain ⟨tx, tn, pg, ac, sl, se, sd⟩ := h
  obtain ⟨t1, t2, t3, t4, t5, t6, t7, t8, t9, t10, t11⟩ := tn
  unfold f_X4_load f_X5_load
  simp only [zl, zj, x_hasBoat, m_noBoat a (upd M.1 0 0, M.2) t8, Option.bind_some, upd_apply, show ¬ (7 : Nat) = 0 by decide, if_false, x_loadOf, t7]
  by_cases c : 0 ≤ a ∧ a < M.1 7
  · simp only [if_pos c, show ¬ (1 : Int32) = 0 by decide, if_false, if_true, gdz3 c.1 (show a < 3 by grind)]
    exact ansR rfl rfl (by rw [(t11 a c.1 c.2).1]) hR
  · simp only [if_neg c, show ¬ (1 : Int32) = 0 by decide, if_false, if_true]
    exact ansR rfl rfl rfl hR
/-- both count the same minutes for a pair -/
theorem pair_eq {S M : zS} (ht : rTn S M) (G T : Int32) (kk : Nat) (hS : S.1 15 = G) (hp : cPg G T (M.2.2 kk)) (g k p q : Int32) (hg : 0 ≤ g ∧ g < M.1 5) (hk : 0 ≤ k ∧ k < M.1 5) (hp1 : 0 ≤ p ∧ p < 4) (hq : 0 ≤ q ∧ q < 4) :
    ∃ t, f_X4_pairMinutes g k p q T S = some t ∧ f_X5_timeOf kk g k p q M = some t ∧ 0 ≤ t ∧ t ≤ 54 := by
  obtain ⟨t1, t2, t3, t4, t5, t6, t7, t8, t9, t10, t11⟩ := ht
  have hg4 : 0 ≤ g ∧ g < 4 := by grind
  have hk4 : 0 ≤ k ∧ k < 4 := by grind
  have hN : (M.1 4).toNatClampNeg ≤ 6 := by
    have := toN_lt (i := M.1 4) (n := 7) 7 rfl (by decide) (by grind) (by decide); omega
  have e1 := x_pairMinutes g k p q T S (fun a => M.2.2 kk (0 + 4 * g + a).toNatClampNeg) (fun a => M.2.2 kk (0 + 4 * k + a).toNatClampNeg) (fun a h0 h1 => by rw [hS]; exact hp.gr hg4.1 hg4.2 h0 h1) (fun a h0 h1 => by rw [hS]; exact hp.gr hk4.1 hk4.2 h0 h1) (by rw [t1]; grind) hp1 hq
  have e2 := m_timeOf kk g k p q M hg4 hk4 (by grind) hp1 hq
  rw [t1, t10 g hg.1 hg.2, t10 k hk.1 hk.2, hp.td hg4.1 hg4.2, hp.td hk4.1 hk4.2] at e1
  refine ⟨_, e1, e2, ?_⟩
  have b1 := hp.b (16 + g).toNatClampNeg (by rw [tN_16 hg4.1 hg4.2]; have := tN_c hg4.1 hg4.2; omega)
  have b2 := hp.b (16 + k).toNatClampNeg (by rw [tN_16 hk4.1 hk4.2]; have := tN_c hk4.1 hk4.2; omega)
  have b := sTim_b (half := M.1 4 / 2) (k1 := M.2.2 6 g.toNatClampNeg) (k2 := M.2.2 6 k.toNatClampNeg) (r1 := fun a => M.2.2 kk (0 + 4 * g + a).toNatClampNeg) (r2 := fun a => M.2.2 kk (0 + 4 * k + a).toNatClampNeg) b1 b2 (M.1 4).toNatClampNeg hN 0 p q
  rw [ofN_toN (by grind)] at b
  generalize sTim (M.1 4 / 2) (M.2.2 6 g.toNatClampNeg) (M.2.2 6 k.toNatClampNeg) (M.2.2 kk (16 + g).toNatClampNeg) (M.2.2 kk (16 + k).toNatClampNeg) (fun a => M.2.2 kk (0 + 4 * g + a).toNatClampNeg) (fun a => M.2.2 kk (0 + 4 * k + a).toNatClampNeg) (M.1 4).toNatClampNeg 0 p q = t at *
  grind
theorem c_time (a b c p q : Int32) (S M : zS) (h : Rel S M) : AnsR S (f_X4_time a b c p q S) (f_X5_time a b c p q M) := by
  have hR : Rel S (upd M.1 0 0, M.2) := h
  obtain ⟨tx, tn, pg, ac, sl, se, sd⟩ := h
  have tn' : rTn S (upd M.1 0 0, M.2) := tn
  obtain ⟨t1, t2, t3, t4, t5, t6, t7, t8, t9, t10, t11⟩ := tn
  unfold f_X4_time f_X5_time
  simp only [zl, zj, x_pairRefusal, m_noPair a b c (upd M.1 0 0, M.2) t5 t8, Option.bind_some, x_isPlace, m_in' p 0 3 0 3 rfl rfl, m_in' q 0 3 0 3 rfl rfl, x_loadOf, t4, t7, show upd M.1 0 0 7 = M.1 7 from rfl, show upd M.1 0 0 5 = M.1 5 from rfl]
  by_cases d : (0 ≤ a ∧ a < M.1 7) ∧ (0 ≤ b ∧ b < M.1 5) ∧ 0 ≤ c ∧ c < M.1 5
  · simp only [if_pos d]
    by_cases e : b = c
    · simp only [if_pos e, show ¬ (-2 : Int32) = 0 by decide, if_false]
      exact ansR rfl rfl rfl hR
    · simp only [if_neg e, if_true]
      by_cases f : 0 ≤ p ∧ p < 4
      · have f' : 0 ≤ p ∧ p ≤ 3 := by grind
        simp only [if_pos f, if_pos f', show ¬ (1 : Int32) = 0 by decide, if_false]
        by_cases g : 0 ≤ q ∧ q < 4
        · have g' : 0 ≤ q ∧ q ≤ 3 := by grind
          obtain ⟨t, q1, q2, -⟩ := pair_eq tn' (S.1 15) (S.1 16) 14 rfl pg.1 b c p q d.2.1 d.2.2 f g
          simp only [if_pos g, if_pos g', show ¬ (1 : Int32) = 0 by decide, if_false, q1, q2, Option.bind_some, gdz3 d.1.1 (show a < 3 by grind)]
          exact ansR rfl rfl (by rw [(t11 a d.1.1 d.1.2).1]) hR
        · have g' : ¬ (0 ≤ q ∧ q ≤ 3) := by grind
          simp only [if_neg g, if_neg g', if_true]
          exact ansR rfl rfl rfl hR
      · have f' : ¬ (0 ≤ p ∧ p ≤ 3) := by grind
        simp only [if_neg f, if_neg f', if_true]
        exact ansR rfl rfl rfl hR
  · simp only [if_neg d, show ¬ (-1 : Int32) = 0 by decide, if_false]
    exact ansR rfl rfl rfl hR
theorem c_unsee (S M : zS) (h : Rel S M) : AnsW (f_X4_unsee S) (f_X5_unsee M) := by
  obtain ⟨tx, tn, pg, ac, sl, se, sd⟩ := h
  unfold f_X4_unsee f_X5_unsee
  simp only [zl, upd_apply, show ¬ (21 : Nat) = 0 by decide, if_false]
  refine ansW rfl rfl se.1 ⟨tx, tn, pg, ac, sl, ⟨rfl, Int32.le_refl 0, by show (0 : Int32) ≤ 6; decide, fun k hk => absurd hk (Nat.not_lt_zero k), ?_⟩, sd⟩
  intro s m hs hm
  constructor
  · intro q
    have q : bt 0 (4 * s + m) = true := q
    rw [bt_0] at q; cases q
  · rintro ⟨k, hk, -⟩
    exact absurd hk (Nat.not_lt_zero k)
theorem c_seed (v : Int64) (S M : zS) (h : Rel S M) : ∃ r S' M', f_X4_seed v S = some (r, S') ∧ f_X5_seed v M = some (r, M') ∧ Rel S' M' := by
  obtain ⟨tx, tn, pg, ac, sl, se, sd⟩ := h
  unfold f_X4_seed f_X5_seed
  simp only [zl]
  exact ⟨M.2.1, (S.1, v, S.2.2), (upd M.1 0 0, v, M.2.2), by rw [sd], rfl, tx, tn, pg, ac, sl, se, rfl⟩
