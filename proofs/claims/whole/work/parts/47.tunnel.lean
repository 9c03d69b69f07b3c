/-! ===== the class lays a good tunnel ===== -/
def qF (f : Nat → Int32) (nl nb : Nat) (K W G : Int32) : Nat → Int32 := fun j => if j = 11 then nI nl else if j = 12 then nI nb else if j = 13 then K else if j = 14 then W else if j = 15 then G else f j
def qS (S : zS) (nl nb : Nat) (K W G : Int32) : zS := (qF S.1 nl nb K W G, S.2)
theorem qF_11 (f : Nat → Int32) (nl nb : Nat) (K W G : Int32) (v : Nat) : upd (qF f nl nb K W G) 11 (nI v) = qF f v nb K W G := by
  funext j; simp only [qF, upd_apply]; by_cases h : j = 11 <;> simp [h]
theorem qF_12 (f : Nat → Int32) (nl nb : Nat) (K W G : Int32) (v : Nat) : upd (qF f nl nb K W G) 12 (nI v) = qF f nl v K W G := by
  funext j; simp only [qF, upd_apply]; by_cases h : j = 12 <;> simp [h]
theorem qF_13 (f : Nat → Int32) (nl nb : Nat) (K W G v : Int32) : upd (qF f nl nb K W G) 13 v = qF f nl nb v W G := by
  funext j; simp only [qF, upd_apply]; by_cases h : j = 13 <;> simp [h]
theorem qF_14 (f : Nat → Int32) (nl nb : Nat) (K W G v : Int32) : upd (qF f nl nb K W G) 14 v = qF f nl nb K v G := by
  funext j; simp only [qF, upd_apply]; by_cases h : j = 14 <;> simp [h]
theorem qF_15 (f : Nat → Int32) (nl nb : Nat) (K W G v : Int32) : upd (qF f nl nb K W G) 15 v = qF f nl nb K W v := by
  funext j; simp only [qF, upd_apply]; by_cases h : j = 15 <;> simp [h]
theorem fl_z {w : Int32} {n : Nat} (h : fl w n = 0) : bt w n = false ∧ bt w (n + 1) = false := by
  unfold fl at h
  cases h1 : bt w (n + 1) <;> cases h0 : bt w n <;> rw [h1, h0] at h <;> first | exact ⟨rfl, rfl⟩ | exact absurd h (by decide)
theorem or_lay {w v : Int32} {s : Int32} (h0 : 0 ≤ s) (h1 : s < 32) (hv : 0 ≤ v) (hv2 : v < 4) (hz : fl w s.toNatClampNeg = 0) : w ||| zshl v s = lay w v s := by
  apply bt_ext
  intro i hi
  have z := fl_z hz
  rw [bt_lay w v h0 h1 hv hv2 hi, bt_or, bt_shl _ h0 h1 hi]
  generalize s.toNatClampNeg = n at *
  by_cases c : n ≤ i ∧ i < n + 2
  · rw [if_pos c]
    have : bt w i = false := by
      rcases (by omega : i = n ∨ i = n + 1) with rfl | rfl
      · exact z.1
      · exact z.2
    simp [this, c.1]
  · rw [if_neg c]
    by_cases d : n ≤ i
    · have e : bt v (i - n) = false := by
        have := bt_fl_hi v 0 (i - n) (by omega)
        rwa [fl_self hv hv2] at this
      simp [e]
    · simp [d]
theorem hi9 : ∀ v : Nat, v < 10 → ∀ i, i < 32 → 4 ≤ i → bt (nI v) i = false := by decide +kernel
/-- what the class has laid after nl leggers and nb boats -/
def iG (a : Nat → Int32) (n : Nat) (G : Int32) : Prop := ∀ j, j < 16 → fl G (2 * j) = if j < n then a (5 * (j / 4) + 1 + j % 4) else 0
def iK (a : Nat → Int32) (n : Nat) (K : Int32) : Prop := ∀ g, g < 4 → fl K (2 * g) = if g < n then a (5 * g) else 0
def iW (b : Nat → Int32) (n : Nat) (W : Int32) : Prop := (∀ i, i < 32 → bt W i = if i < 4 * n then bt (b (i / 4)) (i % 4) else false) ∧ ∀ k, k < n → 0 ≤ b k ∧ b k ≤ 9
theorem iG_s {a : Nat → Int32} {n : Nat} {G v : Int32} (h : iG a n G) (hn : n < 16) (hv : 0 ≤ v) (hv2 : v < 4) (e : a (5 * (n / 4) + 1 + n % 4) = v) : iG a (n + 1) (lay G v (nI (2 * n))) := by
  intro j hj
  have h0 : 0 ≤ nI (2 * n) := nI_pos' (by omega)
  have h1 : nI (2 * n) < 31 := nI_lt (b := 31) (by omega) (by omega)
  have ec : (nI (2 * n)).toNatClampNeg = 2 * n := nI_clamp (by omega)
  rw [fl_lay G v h0 h1 hv hv2 (by omega) (by rw [ec]; omega), ec]
  by_cases c : j = n
  · rw [if_pos (by omega), if_pos (by omega), c, e]
  · rw [if_neg (by omega), h j hj]
    by_cases d : j < n
    · rw [if_pos d, if_pos (by omega)]
    · rw [if_neg d, if_neg (by omega)]
theorem iK_s {a : Nat → Int32} {n : Nat} {K v : Int32} (h : iK a n K) (hn : n < 4) (hv : 0 ≤ v) (hv2 : v < 4) (e : a (5 * n) = v) : iK a (n + 1) (K ||| zshl v (nI (2 * n))) := by
  intro j hj
  have h0 : 0 ≤ nI (2 * n) := nI_pos' (by omega)
  have h1 : nI (2 * n) < 31 := nI_lt (b := 31) (by omega) (by omega)
  have h2 : nI (2 * n) < 32 := nI_lt (b := 32) (by omega) (by omega)
  have ec : (nI (2 * n)).toNatClampNeg = 2 * n := nI_clamp (by omega)
  have z : fl K (nI (2 * n)).toNatClampNeg = 0 := by rw [ec, h n hn, if_neg (by omega)]
  rw [or_lay h0 h2 hv hv2 z, fl_lay K v h0 h1 hv hv2 (by omega) (by rw [ec]; omega), ec]
  by_cases c : j = n
  · rw [if_pos (by omega), if_pos (by omega), c, e]
  · rw [if_neg (by omega), h j hj]
    by_cases d : j < n
    · rw [if_pos d, if_pos (by omega)]
    · rw [if_neg d, if_neg (by omega)]
theorem iW_s {b : Nat → Int32} {n : Nat} {W v : Int32} (h : iW b n W) (hn : n < 3) (hv : 0 ≤ v) (hv2 : v ≤ 9) (e : b n = v) : iW b (n + 1) (W ||| zshl v (nI (4 * n))) := by
  have h0 : 0 ≤ nI (4 * n) := nI_pos' (by omega)
  have h2 : nI (4 * n) < 32 := nI_lt (b := 32) (by omega) (by omega)
  have ec : (nI (4 * n)).toNatClampNeg = 4 * n := nI_clamp (by omega)
  refine ⟨fun i hi => ?_, fun k hk => ?_⟩
  · rw [bt_or, bt_shl _ h0 h2 hi, ec, h.1 i hi]
    by_cases d : i < 4 * n
    · have c : ¬ 4 * n ≤ i := by omega
      rw [if_pos d, if_pos (by omega)]
      simp [c]
    · rw [if_neg d]
      by_cases d2 : i < 4 * (n + 1)
      · rw [if_pos d2, show i / 4 = n by omega, e, show i % 4 = i - 4 * n by omega]
        have c : 4 * n ≤ i := by omega
        simp [c]
      · rw [if_neg d2]
        obtain ⟨m, hm, em⟩ := exN (n := 9) 9 rfl (by decide) hv hv2
        have := hi9 m (by omega) (i - 4 * n) (by omega) (by omega)
        rw [← em] at this
        simp [this]
  · by_cases c : k = n
    · rw [c, e]; exact ⟨hv, hv2⟩
    · exact h.2 k (by omega)
section TU
variable {S M : zS}
theorem x_fig (h : rTx S M) {pos : Nat} (hp : pos < (M.1 2).toNatClampNeg) : f_X3_figureAt (nI pos) S = some (M.2.2 1 pos - 48) := by
  unfold f_X3_figureAt
  rw [x_let h hp, Option.bind_some]
theorem fig_r3 {x : Int32} (h : 48 ≤ x ∧ x ≤ 51) : 0 ≤ x - 48 ∧ x - 48 < 4 := by
  obtain ⟨h1, h2⟩ := h
  constructor <;> grind
theorem fig_r9 {x : Int32} (h : 48 ≤ x ∧ x ≤ 57) : 0 ≤ x - 48 ∧ x - 48 ≤ 9 := by
  obtain ⟨h1, h2⟩ := h
  constructor <;> grind
theorem x_cov (h : rTx S M) (nl nb k pos : Nat) (K W G : Int32) (hp : pos + 2 + k < (M.1 2).toNatClampNeg) (hk : k < 4) (rec_9 rc : Int32 × zS → Option zS) :
    F_X4_readTunnel_50 (nI pos) rec_9 rc (nI k, qS S nl nb K W G) = rc (nI (k + 1), qS S nl nb K W (lay G (M.2.2 1 (pos + 2 + k) - 48) (nI (2 * (4 * nl + k))))) := by
  have c : ¬ (4 : Int32) ≤ nI k := nI_ge (b := 4) hk (by omega)
  have h' : rTx (qS S nl nb K W G) M := h
  have e11 : (qS S nl nb K W G).1 11 = nI nl := rfl
  have e15 : (qS S nl nb K W G).1 15 = G := rfl
  have i1 : nI pos + 2 + nI k = nI (pos + 2 + k) := by rw [show (2 : Int32) = nI 2 from rfl, nI_add, nI_add]
  have i2 : 8 * nI nl + 2 * nI k = nI (2 * (4 * nl + k)) := by
    rw [show (8 : Int32) = nI 8 from rfl, show (2 : Int32) = nI 2 from rfl, pk_mul, pk_mul, nI_add]
    congr 1; omega
  unfold F_X4_readTunnel_50
  dsimp only
  rw [if_neg c, i1, x_fig h' hp, Option.bind_some, e11]
  unfold f_X2_cover
  rw [zl, zl, i2, Option.bind_some, nI_1, e15]
  congr 1
  refine Prod.ext rfl (Prod.ext ?_ rfl)
  exact qF_15 _ _ _ _ _ _ _
theorem x_leg (h : rTx S M) (nl nb pos : Nat) (K W G : Int32) (hp : pos + 1 < (M.1 2).toNatClampNeg) (rec_9 rc : Int32 × zS → Option zS) :
    F_X4_readTunnel_50 (nI pos) rec_9 rc (nI 4, qS S nl nb K W G) = rec_9 (nI (pos + 6), qS S (nl + 1) nb (K ||| zshl (M.2.2 1 (pos + 1) - 48) (nI (2 * nl))) W G) := by
  have c : (4 : Int32) ≤ nI 4 := by decide
  have h' : rTx (qS S nl nb K W G) M := h
  have e11 : (qS S nl nb K W G).1 11 = nI nl := rfl
  have e13 : (qS S nl nb K W G).1 13 = K := rfl
  have i2 : 2 * nI nl = nI (2 * nl) := by rw [show (2 : Int32) = nI 2 from rfl, pk_mul]
  have i6 : nI pos + 6 = nI (pos + 6) := by rw [show (6 : Int32) = nI 6 from rfl, nI_add]
  unfold F_X4_readTunnel_50
  dsimp only
  rw [if_pos c, nI_1, x_fig h' hp, Option.bind_some]
  unfold f_X1_addLegger
  rw [zl, zl, Option.bind_some, e11, e13, i2, i6]
  congr 1
  refine Prod.ext rfl (Prod.ext ?_ rfl)
  dsimp only
  rw [show (qS S nl nb K W G).1 = qF S.1 nl nb K W G from rfl, qF_13, show qF S.1 nl nb (K ||| zshl (M.2.2 1 (pos + 1) - 48) (nI (2 * nl))) W G 11 = nI nl from rfl, nI_1]
  exact qF_11 _ _ _ _ _ _ _
theorem tun_read (h : rTx S M) (a b : Nat → Int32) (NL NB : Nat) : ∀ k pos nl nb K W G f, Gd (M.2.2 1) (M.1 2).toNatClampNeg a b NL NB k pos nl nb → iG a (4 * nl) G → iK a nl K → iW b nb W → nl ≤ 4 → nb ≤ 3 → k < f →
    ∃ K' W' G', zfix F_X4_readTunnel_24 f (nI pos, qS S nl nb K W G) = some (qS S NL NB K' W' G') ∧ iG a (4 * NL) G' ∧ iK a NL K' ∧ iW b NB W' ∧ NL ≤ 4 ∧ NB ≤ 3 := by
  have hL : (M.1 2).toNatClampNeg < 41 := toN_lt (n := 41) 41 rfl (by decide) (Int32.lt_of_le_of_lt h.2.2.1 (by decide)) (by decide)
  have eL : M.1 2 = nI (M.1 2).toNatClampNeg := (ofN_toN h.2.1).symm
  intro k
  induction k with
  | zero =>
    intro pos nl nb K W G f hG iG0 iK0 iW0 hnl hnb hf
    obtain ⟨f, rfl⟩ : ∃ k, f = k + 1 := ⟨f - 1, by omega⟩
    obtain ⟨e1, e2, e3⟩ := hG
    subst e2; subst e3
    refine ⟨K, W, G, ?_, iG0, iK0, iW0, hnl, hnb⟩
    have e9 : (qS S nl nb K W G).1 9 = S.1 9 := rfl
    have c : S.1 9 ≤ nI pos := by rw [h.1, eL, e1]; exact Int32.le_refl _
    rw [zfix_s]
    unfold F_X4_readTunnel_24
    dsimp only
    rw [e9, if_pos c]
  | succ k ih =>
    intro pos nl nb K W G f hG iG0 iK0 iW0 hnl hnb hf
    obtain ⟨f, rfl⟩ : ∃ k, f = k + 1 := ⟨f - 1, by omega⟩
    have h' : rTx (qS S nl nb K W G) M := h
    have e9 : (qS S nl nb K W G).1 9 = S.1 9 := rfl
    have hp : pos < (M.1 2).toNatClampNeg := by
      rcases hG with g | g
      · have := g.1; omega
      · have := g.1; omega
    have c : ¬ S.1 9 ≤ nI pos := by rw [h.1, eL]; exact nI_ge hp (by omega)
    have st : ∀ rc : Int32 × zS → Option zS, F_X4_readTunnel_24 rc (nI pos, qS S nl nb K W G) = if M.2.2 1 pos = 71 then zfix (F_X4_readTunnel_50 (nI pos) rc) zN (nI 0, qS S nl nb K W G) else
        (f_X3_figureAt (nI pos + (1 : Int32)) (qS S nl nb K W G)).bind fun r_13 =>
        (f_X1_addBoat r_13 (qS S nl nb K W G)).bind fun S_15 =>
        rc ((nI pos + (2 : Int32)), S_15) := by
      intro rc
      unfold F_X4_readTunnel_24
      dsimp only
      rw [e9, if_neg c, x_let h' hp, Option.bind_some]
      rfl
    rw [zfix_s, st]
    rcases hG with ⟨g1, g2, g3, g4, g5⟩ | ⟨g1, g2, g3, g4, g5⟩
    · rw [if_pos g2, show zN = 5995 + 1 + 1 + 1 + 1 + 1 from rfl]
      have v0 := g4 1 (by omega)
      have v1 := g4 2 (by omega)
      have v2 := g4 3 (by omega)
      have v3 := g4 4 (by omega)
      have vk := g4 0 (by omega)
      rw [zfix_s, x_cov h nl nb 0 pos K W G (by omega) (by omega), zfix_s, x_cov h nl nb (0 + 1) pos K W _ (by omega) (by omega), zfix_s, x_cov h nl nb (0 + 1 + 1) pos K W _ (by omega) (by omega), zfix_s, x_cov h nl nb (0 + 1 + 1 + 1) pos K W _ (by omega) (by omega), zfix_s]
      have j0 := iG_s iG0 (by omega) (fig_r3 v0.1).1 (fig_r3 v0.1).2 (by rw [show 5 * (4 * nl / 4) + 1 + 4 * nl % 4 = 5 * nl + 1 by omega, v0.2])
      have j1 := iG_s j0 (by omega) (fig_r3 v1.1).1 (fig_r3 v1.1).2 (by rw [show 5 * ((4 * nl + 1) / 4) + 1 + (4 * nl + 1) % 4 = 5 * nl + 2 by omega, v1.2])
      have j2 := iG_s j1 (by omega) (fig_r3 v2.1).1 (fig_r3 v2.1).2 (by rw [show 5 * ((4 * nl + 1 + 1) / 4) + 1 + (4 * nl + 1 + 1) % 4 = 5 * nl + 3 by omega, v2.2])
      have j3 := iG_s j2 (by omega) (fig_r3 v3.1).1 (fig_r3 v3.1).2 (by rw [show 5 * ((4 * nl + 1 + 1 + 1) / 4) + 1 + (4 * nl + 1 + 1 + 1) % 4 = 5 * nl + 4 by omega, v3.2])
      have jk := iK_s iK0 g3 (fig_r3 vk.1).1 (fig_r3 vk.1).2 (by rw [show 5 * nl = 5 * nl + 0 by omega, vk.2])
      have xl := x_leg h nl nb pos K W (lay (lay (lay (lay G (M.2.2 1 (pos + 1 + 1) - 48) (nI (2 * (4 * nl)))) (M.2.2 1 (pos + 1 + 2) - 48) (nI (2 * (4 * nl + 1)))) (M.2.2 1 (pos + 1 + 3) - 48) (nI (2 * (4 * nl + 1 + 1)))) (M.2.2 1 (pos + 1 + 4) - 48) (nI (2 * (4 * nl + 1 + 1 + 1)))) (by omega) (zfix F_X4_readTunnel_24 f) (zfix (F_X4_readTunnel_50 (nI pos) (zfix F_X4_readTunnel_24 f)) 5995)
      have r := ih (pos + 6) (nl + 1) nb _ W _ f g5 j3 jk iW0 (by omega) hnb (by omega)
      obtain ⟨K', W', G', r1, r2⟩ := r
      exact ⟨K', W', G', xl.trans r1, r2⟩
    · have c71 : ¬ M.2.2 1 pos = 71 := by rw [g2]; decide
      have jw := iW_s iW0 g3 (fig_r9 g4.1).1 (fig_r9 g4.1).2 g4.2
      have e12 : (qS S nl nb K W G).1 12 = nI nb := rfl
      have e14 : (qS S nl nb K W G).1 14 = W := rfl
      have i4 : 4 * nI nb = nI (4 * nb) := by rw [show (4 : Int32) = nI 4 from rfl, pk_mul]
      have i2 : nI pos + 2 = nI (pos + 2) := by rw [show (2 : Int32) = nI 2 from rfl, nI_add]
      have r := ih (pos + 2) nl (nb + 1) K _ G f g5 iG0 iK0 jw hnl (by omega) (by omega)
      obtain ⟨K', W', G', r1, r2⟩ := r
      refine ⟨K', W', G', ?_, r2⟩
      rw [if_neg c71, nI_1, x_fig h' (by omega), Option.bind_some]
      unfold f_X1_addBoat
      rw [zl, zl, Option.bind_some, e12, e14, i4, i2]
      rw [← r1]
      congr 1
      refine Prod.ext rfl (Prod.ext ?_ rfl)
      dsimp only
      rw [show (qS S nl nb K W G).1 = qF S.1 nl nb K W G from rfl, qF_14, show qF S.1 nl nb K (W ||| zshl (M.2.2 1 (pos + 1) - 48) (nI (4 * nb))) G 12 = nI nb from rfl, nI_1]
      exact qF_12 _ _ _ _ _ _ _
end TU
