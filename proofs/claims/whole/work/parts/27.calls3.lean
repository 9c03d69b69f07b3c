/-! ===== rest, wet, dry, undo, alone, keep, again, see ===== -/
theorem lay0 (w s : Int32) (h0 : 0 ≤ s) (h1 : s < 32) : w &&& ((zshl 3 s) ^^^ (-1)) = lay w 0 s := by
  apply bt_ext
  intro i hi
  unfold lay
  rw [bt_or, bt_shl 0 h0 h1 hi, bt_0]
  simp
theorem st4_lay {G T Th C : Int32} {p : Nat → Int32} (h : st4 G T Th C p) {g k v : Int32} (hg : 0 ≤ g ∧ g < 4) (hk : 0 ≤ k ∧ k < 4) (hv : 0 ≤ v ∧ v < 4) : st4 (lay G v (8 * g + 2 * k)) T Th C (upd p (0 + 4 * g + k).toNatClampNeg v) := by
  have cg := tN_c hg.1 hg.2
  have ck := tN_c hk.1 hk.2
  obtain ⟨s1, s2, s3⟩ := tN_82 hg.1 hg.2 hk.1 hk.2
  have e := tN_page hg.1 hg.2 hk.1 hk.2
  obtain ⟨⟨h1, h2⟩, h3, h4⟩ := h
  have s4 : 8 * g + 2 * k < 31 := by grind
  refine ⟨⟨fun j hj => ?_, fun j hj => ?_⟩, ?_, ?_⟩
  · rw [fl_lay G v s1 s4 hv.1 hv.2 (by omega) (by omega), upd_apply, e, s3]
    by_cases c : j = 4 * g.toNatClampNeg + k.toNatClampNeg
    · rw [if_pos (by omega), if_pos c]
    · rw [if_neg (by omega), if_neg c]; exact h1 j hj
  · rw [upd_apply, e, if_neg (by omega)]; exact h2 j hj
  · rw [upd_apply, e, if_neg (by omega)]; exact h3
  · rw [upd_apply, e, if_neg (by omega)]; exact h4
theorem st4_rest {G T Th C : Int32} {p : Nat → Int32} (h : st4 G T Th C p) {g : Int32} (hg : 0 ≤ g ∧ g < 4) : st4 G (lay T 0 (2 * g)) Th C (upd p (16 + g).toNatClampNeg 0) := by
  have cg := tN_c hg.1 hg.2
  obtain ⟨s1, s2, s3⟩ := tN_2 hg.1 hg.2
  have e := tN_16 hg.1 hg.2
  obtain ⟨⟨h1, h2⟩, h3, h4⟩ := h
  have s4 : 2 * g < 31 := by grind
  refine ⟨⟨fun j hj => ?_, fun j hj => ?_⟩, ?_, ?_⟩
  · rw [upd_apply, e, if_neg (by omega)]; exact h1 j hj
  · rw [fl_lay T 0 s1 s4 (by decide) (by decide) (by omega) (by omega), upd_apply, e, s3]
    by_cases c : j = g.toNatClampNeg
    · rw [if_pos (by omega), if_pos (by omega)]
    · rw [if_neg (by omega), if_neg (by omega)]; exact h2 j hj
  · rw [upd_apply, e, if_neg (by omega)]; exact h3
  · rw [upd_apply, e, if_neg (by omega)]; exact h4
theorem st4_clock {G T Th C : Int32} {p : Nat → Int32} (h : st4 G T Th C p) (d : Int32) : st4 G T Th (C + d) (upd p 21 (p 21 + d)) := by
  obtain ⟨⟨h1, h2⟩, h3, h4⟩ := h
  refine ⟨⟨fun j hj => ?_, fun j hj => ?_⟩, ?_, ?_⟩
  · rw [upd_apply, if_neg (by omega)]; exact h1 j hj
  · rw [upd_apply, if_neg (by omega)]; exact h2 j hj
  · rw [upd_apply, if_neg (by decide)]; exact h3
  · rw [upd_apply, if_pos rfl, h4]
theorem c_rest (a : Int32) (S M : zS) (h : Rel S M) : AnsW (f_X4_rest a S) (f_X5_rest a M) := by
  have hR : Rel S (upd M.1 0 0, M.2) := h
  obtain ⟨t1, t2, t3, t4, t5, t6, t7, t8, t9, t10, t11⟩ := h.2.1
  unfold f_X4_rest f_X5_rest
  simp only [zl, x_hasLegger, m_noLegger a (upd M.1 0 0, M.2) t5, Option.bind_some, t4, show upd M.1 0 0 5 = M.1 5 from rfl, x_timesTired]
  by_cases c : 0 ≤ a ∧ a < M.1 5
  · have ha : 0 ≤ a ∧ a < 4 := by grind
    have q := h.2.2.1.1.td ha.1 ha.2
    unfold td at q
    simp only [if_pos c, show ¬ (1 : Int32) = 0 by decide, if_false, if_true, gdz22 (show 0 ≤ 16 + a by grind) (show 16 + a < 22 by grind), gdz22 (show (0 : Int32) ≤ 21 by decide) (show (21 : Int32) < 22 by decide)]
    rw [q]
    by_cases d : M.2.2 14 (16 + a).toNatClampNeg = 0
    · simp only [if_pos d]
      exact ansW rfl rfl rfl hR
    · obtain ⟨S', M', n1, n2, n3, n4, n5, n6⟩ := hR.note
      have e21 : (21 : Int32).toNatClampNeg = 21 := by decide
      simp only [if_neg d, n1, n2, Option.bind_some, e21, zur_at, zur_zur]
      obtain ⟨s1, s2, s3⟩ := tN_2 ha.1 ha.2
      have pg2 := st4_clock (st4_rest n3.2.2.1 ha) 5
      rw [← lay0 _ _ s1 s2] at pg2
      exact ansW rfl rfl pg2.2.2 ⟨n3.1, n3.2.1, pg2, n3.2.2.2.1, n3.2.2.2.2.1, n3.2.2.2.2.2.1, n3.2.2.2.2.2.2⟩
  · simp only [if_neg c, show ¬ (1 : Int32) = 0 by decide, if_false, if_true]
    exact ansW rfl rfl rfl hR
theorem c_wet (a b : Int32) (S M : zS) (h : Rel S M) : AnsW (f_X4_wet a b S) (f_X5_wet a b M) := by
  have hR : Rel S (upd M.1 0 0, M.2) := h
  obtain ⟨t1, t2, t3, t4, t5, t6, t7, t8, t9, t10, t11⟩ := h.2.1
  unfold f_X4_wet f_X5_wet
  simp only [zl, x_placeRefusal, m_noLegger a (upd M.1 0 0, M.2) t5, m_in' b 0 3 0 3 rfl rfl, Option.bind_some, t4, show upd M.1 0 0 5 = M.1 5 from rfl, x_groundAt]
  by_cases c : 0 ≤ a ∧ a < M.1 5
  · have ha : 0 ≤ a ∧ a < 4 := by grind
    simp only [if_pos c, if_true]
    by_cases d : 0 ≤ b ∧ b < 4
    · have d' : 0 ≤ b ∧ b ≤ 3 := by grind
      have q := h.2.2.1.1.gr ha.1 ha.2 d.1 d.2
      unfold gr at q
      simp only [if_pos d, if_pos d', if_true, show ¬ (1 : Int32) = 0 by decide, if_false, gdz22 (show 0 ≤ 0 + 4 * a + b by grind) (show 0 + 4 * a + b < 22 by grind)]
      rw [q]
      by_cases e : M.2.2 14 (0 + 4 * a + b).toNatClampNeg = 2
      · simp only [if_pos e]
        exact ansW rfl rfl rfl hR
      · obtain ⟨S', M', n1, n2, n3, n4, n5, n6⟩ := hR.note
        simp only [if_neg e, n1, n2, Option.bind_some, f_X2_cover, zl]
        have pg2 := st4_lay n3.2.2.1 ha d (v := 2) (by decide)
        exact ansW rfl rfl rfl ⟨n3.1, n3.2.1, pg2, n3.2.2.2.1, n3.2.2.2.2.1, n3.2.2.2.2.2.1, n3.2.2.2.2.2.2⟩
    · have d' : ¬ (0 ≤ b ∧ b ≤ 3) := by grind
      simp only [if_neg d, if_neg d', if_true, show ¬ (-2 : Int32) = 0 by decide, if_false]
      exact ansW rfl rfl rfl hR
  · simp only [if_neg c, show ¬ (1 : Int32) = 0 by decide, show ¬ (-1 : Int32) = 0 by decide, if_false]
    exact ansW rfl rfl rfl hR
def wetC (r : Int32 → Int32) : Int32 := (((0 + if r 0 = 2 then 1 else 0) + if r 1 = 2 then 1 else 0) + if r 2 = 2 then 1 else 0) + if r 3 = 2 then 1 else 0
theorem zN_5 : zN = 5995 + 1 + 1 + 1 + 1 + 1 := rfl
theorem x_wetPlaces (a : Int32) (S : zS) : f_X2_wetPlaces a S = some (wetC (fun k => zushr (zushr (S.1 15) (8 * a)) (2 * k) &&& 3)) := by
  unfold f_X2_wetPlaces
  rw [zN_5]
  have h : ∀ rc (s i : Int32), ¬ (4 : Int32) ≤ i → F_X2_wetPlaces_4 a S rc (s, i) = rc (s + (if zushr (zushr (S.1 15) (8 * a)) (2 * i) &&& 3 = 2 then 1 else 0), i + 1) := by
    intro rc s i hi
    simp only [F_X2_wetPlaces_4, if_neg hi, x_groundAt, Option.bind_some, zl, zj]
    split <;> rfl
  have h4 : ∀ rc (s : Int32), F_X2_wetPlaces_4 a S rc (s, 4) = some s := by
    intro rc s
    simp only [F_X2_wetPlaces_4, show (4 : Int32) ≤ 4 by decide, if_true]
  rw [zfix_s, h _ _ _ (by decide), zfix_s, show (0 : Int32) + 1 = 1 by decide, h _ _ _ (by decide), zfix_s, show (1 : Int32) + 1 = 2 by decide, h _ _ _ (by decide), zfix_s, show (2 : Int32) + 1 = 3 by decide, h _ _ _ (by decide), zfix_s, show (3 : Int32) + 1 = 4 by decide, h4]
  rfl
theorem m_dryLoop (a : Int32) (M : zS) (ha : 0 ≤ a ∧ a < 4) : zfix (F_X5_dry_71 M a) zN (0, 0) = some (wetC (fun k => M.2.2 14 (0 + 4 * a + k).toNatClampNeg), M) := by
  rw [zN_5]
  have h : ∀ rc (s i : Int32), 0 ≤ i → i < 4 → F_X5_dry_71 M a rc (s, i) = rc (s + (if M.2.2 14 (0 + 4 * a + i).toNatClampNeg = 2 then 1 else 0), i + 1) := by
    intro rc s i h0 h1
    simp only [F_X5_dry_71, if_neg (show ¬ (4 : Int32) ≤ i by grind), gdz22 (show 0 ≤ 0 + 4 * a + i by grind) (show 0 + 4 * a + i < 22 by grind), zl, zj]
    split <;> rfl
  have h4 : ∀ rc (s : Int32), F_X5_dry_71 M a rc (s, 4) = some (s, M) := by
    intro rc s
    simp only [F_X5_dry_71, show (4 : Int32) ≤ 4 by decide, if_true]
  rw [zfix_s, h _ _ _ (by decide) (by decide), zfix_s, show (0 : Int32) + 1 = 1 by decide, h _ _ _ (by decide) (by decide), zfix_s, show (1 : Int32) + 1 = 2 by decide, h _ _ _ (by decide) (by decide), zfix_s, show (2 : Int32) + 1 = 3 by decide, h _ _ _ (by decide) (by decide), zfix_s, show (3 : Int32) + 1 = 4 by decide, h4]
  rfl
theorem wetC_cong {r s : Int32 → Int32} (h : ∀ k, 0 ≤ k → k < 4 → r k = s k) : wetC r = wetC s := by
  unfold wetC
  rw [h 0 (by decide) (by decide), h 1 (by decide) (by decide), h 2 (by decide) (by decide), h 3 (by decide) (by decide)]
theorem c_dry (a b : Int32) (S M : zS) (h : Rel S M) : AnsW (f_X4_dry a b S) (f_X5_dry a b M) := by
  have hR : Rel S (upd M.1 0 0, M.2) := h
  obtain ⟨t1, t2, t3, t4, t5, t6, t7, t8, t9, t10, t11⟩ := h.2.1
  unfold f_X4_dry f_X5_dry
  simp only [zl, x_placeRefusal, m_noLegger a (upd M.1 0 0, M.2) t5, m_in' b 0 3 0 3 rfl rfl, Option.bind_some, t4, show upd M.1 0 0 5 = M.1 5 from rfl, x_groundAt]
  by_cases c : 0 ≤ a ∧ a < M.1 5
  · have ha : 0 ≤ a ∧ a < 4 := by grind
    simp only [if_pos c, if_true]
    by_cases d : 0 ≤ b ∧ b < 4
    · have d' : 0 ≤ b ∧ b ≤ 3 := by grind
      have q := h.2.2.1.1.gr ha.1 ha.2 d.1 d.2
      unfold gr at q
      simp only [if_pos d, if_pos d', if_true, show ¬ (1 : Int32) = 0 by decide, if_false, gdz22 (show 0 ≤ 0 + 4 * a + b by grind) (show 0 + 4 * a + b < 22 by grind)]
      rw [q]
      by_cases e : M.2.2 14 (0 + 4 * a + b).toNatClampNeg = 2
      · obtain ⟨S', M', n1, n2, n3, n4, n5, n6⟩ := hR.note
        simp only [if_pos e, n1, n2, Option.bind_some, f_X2_cover, zl, x_wetPlaces, m_dryLoop _ _ ha]
        have pg2 := st4_lay n3.2.2.1 ha d (v := 0) (by decide)
        refine ansW rfl rfl ?_ ⟨n3.1, n3.2.1, pg2, n3.2.2.2.1, n3.2.2.2.2.1, n3.2.2.2.2.2.1, n3.2.2.2.2.2.2⟩
        exact wetC_cong (fun k h0 h1 => pg2.1.gr ha.1 ha.2 h0 h1)
      · simp only [if_neg e]
        exact ansW rfl rfl rfl hR
    · have d' : ¬ (0 ≤ b ∧ b ≤ 3) := by grind
      simp only [if_neg d, if_neg d', if_true, show ¬ (-2 : Int32) = 0 by decide, if_false]
      exact ansW rfl rfl rfl hR
  · simp only [if_neg c, show ¬ (1 : Int32) = 0 by decide, show ¬ (-1 : Int32) = 0 by decide, if_false]
    exact ansW rfl rfl rfl hR
theorem m_undoLoop (M : zS) (h0 : 0 ≤ M.1 18) (h1 : M.1 18 < 14) : zfix F_X5_undo_27 zN (0, M) = some (M.1 18, M.1, M.2.1, zur M.2.2 14 (cpy (M.2.2 17) (M.2.2 14) (22 * (M.1 18).toNatClampNeg) 0 22)) := by
  have hm : (M.1 18).toNatClampNeg < 14 := toN_lt (n := 14) 14 rfl (by decide) h1 (by decide)
  obtain ⟨fu, he⟩ := copy_run (F := F_X5_undo_27) M 14 (M.2.2 17) (22 * (M.1 18).toNatClampNeg) 0 22 (by decide) (by
    intro i hi rc
    have hb := ofN_lt hi (by decide)
    have hb1 : Int32.ofNat i < 22 := hb.2
    have c : ¬ (22 : Int32) ≤ Int32.ofNat i := by grind
    have q := tN_aff 22 h0 hb.1 (by rw [toN_ofN (show i < 2147483648 by omega)]; omega)
    rw [toN_ofN (show i < 2147483648 by omega)] at q
    have q' : ((22 : Int32) * M.1 18 + Int32.ofNat i).toNatClampNeg = 22 * (M.1 18).toNatClampNeg + i := q
    have g0 : 0 ≤ (22 : Int32) * M.1 18 + Int32.ofNat i := by grind
    have g1 : (22 : Int32) * M.1 18 + Int32.ofNat i < 308 := by grind
    simp only [F_X5_undo_27, if_neg c, gdz22 hb.1 hb1, gdz308 g0 g1, zl, toN_ofN (show i < 2147483648 by omega), q', zur_at, zur_ne _ _ (show (17 : Nat) ≠ 14 by decide), Nat.zero_add])
  rw [he]
  have c : (22 : Int32) ≤ Int32.ofNat 22 := by decide
  simp only [F_X5_undo_27, if_pos c]
theorem c_undo (S M : zS) (h : Rel S M) : AnsW (f_X4_undo S) (f_X5_undo M) := by
  have hR : Rel S (upd M.1 0 0, M.2) := h
  obtain ⟨tx, tn, pg, ac, sl, se, sd⟩ := h
  obtain ⟨a1, a2, a3, a4, a5, a6⟩ := ac
  unfold f_X4_undo f_X5_undo
  simp only [zl, upd_apply, show ¬ (18 : Nat) = 0 by decide, if_false]
  by_cases c : M.1 18 = 0
  · rw [if_pos (a1.trans c), if_pos c]
    exact ansW rfl rfl rfl hR
  · rw [if_neg (fun q => c (a1.symm.trans q)), if_neg c]
    have hf := toN_lt (i := S.1 19) (n := 14) 14 rfl (by decide) a5 (by decide)
    have hm : (M.1 18 - 1).toNatClampNeg < 14 := toN_lt (n := 14) 14 rfl (by decide) (by grind) (by decide)
    have hm1 : (M.1 18).toNatClampNeg = (M.1 18 - 1).toNatClampNeg + 1 := by
      have := toN_s (x := M.1 18 - 1) (by grind) (by grind)
      rw [← this]; congr 1; grind
    have ex : xlen 7 = 56 := rfl
    have hx := x_fetchFrom 7 (((S.1 19).toNatClampNeg + (M.1 18 - 1).toNatClampNeg) % 14) (by rw [ex]; omega) (by rw [ex]; decide) (upd S.1 20 (S.1 20 - 1), S.2)
    rw [← rem14' a4 a5 (b := M.1 18 - 1) (by grind) (by grind)] at hx
    have hx2 : f_X0_takeBack S = f_X2_fetchFrom 7 (zrem (S.1 19 + (M.1 18 - 1)) 14) (upd S.1 20 (S.1 20 - 1), S.2) := by
      unfold f_X0_takeBack
      simp only [zl]
      rw [show upd S.1 20 (S.1 20 - 1) 19 = S.1 19 from rfl, show upd S.1 20 (S.1 20 - 1) 20 = M.1 18 - 1 by rw [← a1]; rfl]
      cases f_X2_fetchFrom 7 (zrem (S.1 19 + (M.1 18 - 1)) 14) (upd S.1 20 (S.1 20 - 1), S.2) <;> rfl
    rw [hx2, hx, m_undoLoop _ (by show 0 ≤ M.1 18 - 1; grind) (by show M.1 18 - 1 < 14; grind)]
    simp only [Option.bind_some]
    refine ansW rfl rfl (by show S.1 20 - 1 = M.1 18 - 1; rw [a1]) ⟨tx, tn, ?_, ?_, sl, se, sd⟩
    · have q := a6 (M.1 18 - 1).toNatClampNeg (by omega)
      rw [Nat.mul_comm 4] at q
      refine st4.cong q (fun j hj => ?_)
      show _ = cpy (M.2.2 17) (M.2.2 14) (22 * (M.1 18 - 1).toNatClampNeg) 0 22 j
      unfold cpy
      rw [if_pos (by omega)]; rfl
    · refine ⟨by show S.1 20 - 1 = M.1 18 - 1; rw [a1], by show 0 ≤ M.1 18 - 1; grind, by show M.1 18 - 1 ≤ 14; grind, a4, a5, ?_⟩
      intro k hk
      have hk : k < (M.1 18 - 1).toNatClampNeg := hk
      exact a6 k (by omega)
