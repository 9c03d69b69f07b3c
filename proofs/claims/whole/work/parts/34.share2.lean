/-! ===== share: the reference's side ===== -/
def vF (wv : Nat → Nat) (old : Nat → Int32) (c : Nat) : Nat → Int32 := fun j => if j < c then nI (wv j) else old j
theorem vF_s (wv : Nat → Nat) (old : Nat → Int32) (c : Nat) : upd (vF wv old c) c (nI (wv c)) = vF wv old (c + 1) := by
  funext j
  unfold upd vF
  by_cases h : j = c
  · rw [if_pos h, if_pos (by omega), h]
  · rw [if_neg h]
    by_cases h2 : j < c
    · rw [if_pos h2, if_pos (by omega)]
    · rw [if_neg h2, if_neg (by omega)]
theorem upd_same (f : Nat → Int32) (k : Nat) : upd f k (f k) = f := by
  funext j; unfold upd; split
  · rename_i h; rw [h]
  · rfl
theorem m_shareLoop2 {S M : zS} (h : Rel S M) (g b u : Int32) (hg : 0 ≤ g ∧ g < M.1 5) (hb : 0 ≤ b ∧ b < M.1 7) (wv : Nat → Nat) (w3 : ∀ c, wv c ≤ 200) (w4 : ∀ c, c < 2 ^ (M.1 5).toNatClampNeg → wv c ≤ wv (c ||| 2 ^ g.toNatClampNeg))
    (hv : ∀ c, c < 2 ^ (M.1 5).toNatClampNeg → M.2.2 33 c = nI (wv c)) :
    zfix (F_X5_share_84 M u g) zN (0, 0) = some (frI (shF wv (M.1 5).toNatClampNeg g.toNatClampNeg (2 ^ (M.1 5).toNatClampNeg)) (fc (M.1 5).toNatClampNeg) u, M) := by
  have t5 := h.2.1.2.2.2.2.1
  have t6 := h.2.1.2.2.2.2.2.1
  have hN : (M.1 5).toNatClampNeg < 5 := toN_lt (n := 5) 5 rfl (by decide) (Int32.lt_of_le_of_lt t6 (by decide)) (by decide)
  have hG := tN_ltt hg.1 hg.2
  have hg4 : 0 ≤ g ∧ g < 4 := ⟨hg.1, Int32.lt_of_lt_of_le hg.2 t6⟩
  have eN := ofN_toN t5
  have eG := ofN_toN hg.1
  generalize hNN : (M.1 5).toNatClampNeg = N at *
  generalize hGG : g.toNatClampNeg = G at *
  obtain ⟨f1, f2, f3, f4, f5, f6, f7⟩ := facs N hN
  obtain ⟨e', fu, ⟨-, he1⟩, he⟩ := zfix_run (F := F_X5_share_84 M u g) (fun n e => n ≤ 2 ^ N ∧ e = (nI (shF wv N G (2 ^ N - n)), nI (2 ^ N - n))) (by
    rintro n e ⟨h1, rfl⟩
    obtain ⟨c, hc⟩ : ∃ c, c = 2 ^ N - (n + 1) := ⟨_, rfl⟩
    refine ⟨_, ?_, by omega, rfl⟩
    intro rc
    rw [← hc, show 2 ^ N - n = c + 1 by omega]
    have hc2 : c < 2 ^ N := by omega
    obtain ⟨o1, o2, o3, o4⟩ := orbit N hN c hc2 G hG
    rw [eG] at o1
    have o3 : bt (nI c) G = c.testBit G := o3
    have o1 : nI c ||| zshl 1 g = nI (c ||| 2 ^ G) := o1
    have hle : ¬ Int32.ofNat (2 ^ N) ≤ nI c := nI_ge (by omega) (by omega)
    simp only [F_X5_share_84, ← eN, f5, if_neg hle, m_has _ _ hg4, Option.bind_some, zj, zl, hGG, o3, shF, nI_succ]
    by_cases q : c.testBit G = true
    · simp only [q, if_true, show ¬ (1 : Int32) = 0 by decide, if_false, Nat.add_zero]
    · have q := Bool.eq_false_iff.mpr q
      obtain ⟨k1, k2, k3, k4, k5, k6, k7⟩ := cnts N hN c hc2 G hG q
      have k2 : f_X5_many (nI c) = some (Int32.ofNat (pcn c)) := k2
      have hm := w4 c hc2
      have z1 : nI (c ||| 2 ^ G) < 16 := nI_lt (b := 16) (by omega) (by omega)
      have z2 : nI c < 16 := nI_lt (b := 16) (by omega) (by omega)
      have z3 : 0 ≤ nI (c ||| 2 ^ G) := nI_pos' (by omega)
      have z4 : 0 ≤ nI c := nI_pos' (by omega)
      simp only [q, Bool.false_eq_true, if_false, if_true, o1, k2, Option.bind_some, k4, k6, gdz16 z3 z1, gdz16 z4 z2, nI_clamp (show c ||| 2 ^ G < 2 ^ 31 by omega), nI_clamp (show c < 2 ^ 31 by omega), hv _ o2, hv c hc2]
      rw [pk_sub hm]
      show rc (nI (shF wv N G c) + nI (fc (pcn c)) * nI (fc (N - 1 - pcn c)) * nI (wv (c ||| 2 ^ G) - wv c), nI c + 1) = _
      rw [pk_mul, pk_mul, nI_add, Nat.mul_comm (fc (pcn c) * fc (N - 1 - pcn c))]) (2 ^ N) (0, 0) zN ⟨Nat.le_refl _, by rw [Nat.sub_self]; rfl⟩ (by unfold zN; omega)
  rw [he, he1, Nat.sub_zero]
  have hx : Int32.ofNat (2 ^ N) ≤ nI (2 ^ N) := nI_le (Nat.le_refl _) (by omega)
  have hb2 := shF_b wv N G hN hG (fun c _ => w3 c) (2 ^ N) (Nat.le_refl _)
  simp only [F_X5_share_84, ← eN, f5, if_pos hx, f2, Option.bind_some]
  have := m_frac (shF wv N G (2 ^ N)) (fc N) u (by omega) f3 (by omega)
  have this : f_X5_fraction (nI (shF wv N G (2 ^ N))) (Int32.ofNat (fc N)) u = _ := this
  rw [this]; rfl
theorem m_shareLoop {S M : zS} (h : Rel S M) (g b u : Int32) (hg : 0 ≤ g ∧ g < M.1 5) (hb : 0 ≤ b ∧ b < M.1 7) :
    ∃ M', zfix (F_X5_share_26 u g b) zN (0, M) = some (frI (shF (fun c => (wB (fun i j => mT M 14 i j 0 0) (M.2.2 8 b.toNatClampNeg) (M.1 5) (nI c)).toNatClampNeg) (M.1 5).toNatClampNeg g.toNatClampNeg (2 ^ (M.1 5).toNatClampNeg)) (fc (M.1 5).toNatClampNeg) u, M') ∧ Rel S M' := by
  obtain ⟨wv, w1, w2, w3, w4⟩ := sh_facts h g b hg hb
  rw [← w2]
  have tn := h.2.1
  have pg := h.2.2.1
  have t5 := h.2.1.2.2.2.2.1
  have t6 := h.2.1.2.2.2.2.2.1
  have t9 := h.2.1.2.2.2.2.2.2.2.2.1
  have hN : (M.1 5).toNatClampNeg < 5 := toN_lt (n := 5) 5 rfl (by decide) (Int32.lt_of_le_of_lt t6 (by decide)) (by decide)
  have eN := ofN_toN t5
  obtain ⟨f1, f2, f3, f4, f5, f6, f7⟩ := facs _ hN
  rw [eN] at f5
  obtain ⟨⟨e1, e2⟩, fu, ⟨-, x, y, he1⟩, he⟩ := zfix_run (F := F_X5_share_26 u g b) (fun n e => n ≤ 2 ^ (M.1 5).toNatClampNeg ∧ ∃ x y, e = (nI (2 ^ (M.1 5).toNatClampNeg - n), (upd (upd M.1 25 x) 26 y, M.2.1, zur M.2.2 33 (vF wv (M.2.2 33) (2 ^ (M.1 5).toNatClampNeg - n))))) (by
    rintro n e ⟨h1, x, y, rfl⟩
    obtain ⟨c, hc⟩ : ∃ c, c = 2 ^ (M.1 5).toNatClampNeg - (n + 1) := ⟨_, rfl⟩
    have hc2 : c < 2 ^ (M.1 5).toNatClampNeg := by omega
    have hfb := m_findBest b (nI c) (upd (upd M.1 25 x) 26 y, M.2.1, zur M.2.2 33 (vF wv (M.2.2 33) c)) (fun i j => mT M 14 i j 0 0) ⟨t5, t6⟩ ⟨hb.1, Int32.lt_of_lt_of_le hb.2 t9⟩ (fun i j h0 h1 h2 u v => by
      have h2 : j < M.1 5 := h2
      have tn3 : rTn S (upd (upd (upd (upd M.1 25 x) 26 y) 25 u) 26 v, M.2.1, zur M.2.2 33 (vF wv (M.2.2 33) c)) := tn
      exact (mT_eq tn3 (S.1 16) 14 pg.1 (g := i) (k := j) (p := 0) (q := 0) ⟨h0, Int32.lt_trans h1 h2⟩ ⟨Int32.le_trans h0 (Int32.le_of_lt h1), h2⟩ (by decide) (by decide)).2.1)
    have hfb : f_X5_findBest b (nI c) (upd (upd M.1 25 x) 26 y, M.2.1, zur M.2.2 33 (vF wv (M.2.2 33) c)) = some (upd (upd (upd (upd M.1 25 x) 26 y) 25 (fO (mB (fun i j => mT M 14 i j 0 0) (M.2.2 8 b.toNatClampNeg) (nI c)) (M.1 5).toNatClampNeg 0 (-9, -9)).1) 26 (fO (mB (fun i j => mT M 14 i j 0 0) (M.2.2 8 b.toNatClampNeg) (nI c)) (M.1 5).toNatClampNeg 0 (-9, -9)).2, M.2.1, zur M.2.2 33 (vF wv (M.2.2 33) c)) := hfb
    have hw := w1 (nI c)
    have hwc : (wB (fun i j => mT M 14 i j 0 0) (M.2.2 8 b.toNatClampNeg) (M.1 5) (nI c)).toNatClampNeg = wv c := by rw [w2]
    rw [hwc] at hw
    unfold wB at hw
    rw [upd_25] at hfb
    generalize fO (mB (fun i j => mT M 14 i j 0 0) (M.2.2 8 b.toNatClampNeg) (nI c)) (M.1 5).toNatClampNeg 0 (-9, -9) = A at *
    refine ⟨(nI (c + 1), (upd (upd M.1 25 A.1) 26 A.2, M.2.1, zur M.2.2 33 (vF wv (M.2.2 33) (c + 1)))), ?_, by omega, A.1, A.2, by rw [show 2 ^ (M.1 5).toNatClampNeg - n = c + 1 by omega]⟩
    intro rc
    rw [← hc]
    have hle : ¬ Int32.ofNat (2 ^ (M.1 5).toNatClampNeg) ≤ nI c := nI_ge (by omega) (by omega)
    have z2 : nI c < 16 := nI_lt (b := 16) (by omega) (by omega)
    have z4 : 0 ≤ nI c := nI_pos' (by omega)
    simp only [F_X5_share_26, show upd (upd M.1 25 x) 26 y 5 = M.1 5 from rfl, f5, if_neg hle, hfb, Option.bind_some, zj, zl, gdz16 z4 z2, zur_at, zur_zur, nI_clamp (show c < 2 ^ 31 by omega), show upd (upd M.1 25 A.1) 26 A.2 25 = A.1 from rfl, show upd (upd M.1 25 A.1) 26 A.2 26 = A.2 from rfl, nI_succ]
    by_cases q : A.1 = -9
    · rw [if_pos q] at hw ⊢
      rw [hw, vF_s]
    · rw [if_neg q] at hw ⊢
      rw [hw, vF_s]) (2 ^ (M.1 5).toNatClampNeg) (0, M) zN ⟨Nat.le_refl _, M.1 25, M.1 26, by
        rw [Nat.sub_self, upd_same, upd_same]
        have : vF wv (M.2.2 33) 0 = M.2.2 33 := by funext j; rfl
        rw [this, zur_same]; rfl⟩ (by unfold zN; omega)
  rw [Nat.sub_zero] at he1
  obtain ⟨rfl, rfl⟩ : e1 = nI (2 ^ (M.1 5).toNatClampNeg) ∧ e2 = (upd (upd M.1 25 x) 26 y, M.2.1, zur M.2.2 33 (vF wv (M.2.2 33) (2 ^ (M.1 5).toNatClampNeg))) := ⟨congrArg Prod.fst he1, congrArg Prod.snd he1⟩
  have hR2 : Rel S (upd (upd M.1 25 x) 26 y, M.2.1, zur M.2.2 33 (vF wv (M.2.2 33) (2 ^ (M.1 5).toNatClampNeg))) := h
  have hx : Int32.ofNat (2 ^ (M.1 5).toNatClampNeg) ≤ nI (2 ^ (M.1 5).toNatClampNeg) := nI_le (Nat.le_refl _) (by omega)
  have l2 := m_shareLoop2 hR2 g b u hg hb wv w3 w4 (fun c hc => by
    show vF wv (M.2.2 33) (2 ^ (M.1 5).toNatClampNeg) c = nI (wv c)
    unfold vF; exact if_pos hc)
  refine ⟨_, ?_, hR2⟩
  rw [he]
  simp only [F_X5_share_26, show upd (upd M.1 25 x) 26 y 5 = M.1 5 from rfl, f5, if_pos hx]
  exact l2
theorem c_share (a b c : Int32) (S M : zS) (h : Rel S M) : AnsR S (f_X4_share a b c S) (f_X5_share a b c M) := by
  have hR : Rel S (upd M.1 0 0, M.2) := h
  obtain ⟨t1, t2, t3, t4, t5, t6, t7, t8, t9, t10, t11⟩ := h.2.1
  unfold f_X4_share f_X5_share
  rw [zl, x_hasLegger, Option.bind_some, zj, m_noLegger a (upd M.1 0 0, M.2) t5, Option.bind_some, zj, x_hasBoat, m_noBoat b (upd M.1 0 0, M.2) t8, t4, t7, Option.bind_some, Option.bind_some]
  rw [show (upd M.1 0 0, M.2).1 5 = M.1 5 from rfl, show (upd M.1 0 0, M.2).1 7 = M.1 7 from rfl]
  by_cases d : 0 ≤ a ∧ a < M.1 5
  · rw [if_pos d, if_pos d, if_neg (show ¬ (1 : Int32) = 0 by decide), if_pos rfl]
    by_cases e : 0 ≤ b ∧ b < M.1 7
    · rw [if_pos e, if_pos e, if_neg (show ¬ (1 : Int32) = 0 by decide), if_pos rfl]
      have q1 := x_shareLoop hR a b c d e
      obtain ⟨M', q2, q3⟩ := m_shareLoop hR a b c d e
      exact ansR q1 q2 rfl q3
    · rw [if_neg e, if_neg e, if_pos rfl, if_neg (show ¬ (1 : Int32) = 0 by decide)]
      exact ansR rfl rfl rfl hR
  · rw [if_neg d, if_neg d, if_pos rfl, if_neg (show ¬ (1 : Int32) = 0 by decide)]
    exact ansR rfl rfl rfl hR
