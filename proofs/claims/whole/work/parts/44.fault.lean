/-! ===== the text read: fault ===== -/
/-- the first of m figures from pos on that isn't one, or isn't there -/
def sc (t : Nat → Int32) (L : Nat) (lo hi : Int32) : Nat → Nat → Option Nat
  | 0, _ => none
  | m + 1, pos => if pos < L ∧ lo ≤ t pos ∧ t pos ≤ hi then sc t L lo hi m (pos + 1) else some pos
theorem sc_none {t : Nat → Int32} {L : Nat} {lo hi : Int32} : ∀ m pos, sc t L lo hi m pos = none → (∀ k, k < m → pos + k < L ∧ lo ≤ t (pos + k) ∧ t (pos + k) ≤ hi) := by
  intro m
  induction m with
  | zero => intro pos _ k hk; omega
  | succ m ih =>
    intro pos h k hk
    unfold sc at h
    by_cases q : pos < L ∧ lo ≤ t pos ∧ t pos ≤ hi
    · rw [if_pos q] at h
      by_cases e : k = 0
      · subst e; exact q
      · have := ih (pos + 1) h (k - 1) (by omega)
        rw [show pos + 1 + (k - 1) = pos + k by omega] at this
        exact this
    · rw [if_neg q] at h; cases h
theorem sc_some {t : Nat → Int32} {L : Nat} {lo hi : Int32} : ∀ m pos p, sc t L lo hi m pos = some p → p < pos + m := by
  intro m
  induction m with
  | zero => intro pos p h; cases h
  | succ m ih =>
    intro pos p h
    unfold sc at h
    by_cases q : pos < L ∧ lo ≤ t pos ∧ t pos ≤ hi
    · rw [if_pos q] at h
      have := ih (pos + 1) p h
      omega
    · rw [if_neg q] at h
      injection h with h
      omega
section TX
variable {S M : zS}
theorem x_let (h : rTx S M) {pos : Nat} (hp : pos < (M.1 2).toNatClampNeg) : f_X3_letterAt (nI pos) S = some (M.2.2 1 pos) := by
  obtain ⟨x1, x2, x3, x4⟩ := h
  have hL : (M.1 2).toNatClampNeg < 41 := toN_lt (n := 41) 41 rfl (by decide) (Int32.lt_of_le_of_lt x3 (by decide)) (by decide)
  have eL : M.1 2 = nI (M.1 2).toNatClampNeg := (ofN_toN x2).symm
  have c1 : ¬ nI pos < 0 := nI_pos (by omega)
  have c2 : ¬ S.1 9 ≤ nI pos := by rw [x1, eL]; exact nI_ge hp (by omega)
  have c3 : ¬ (40 : Int32) ≤ nI pos := nI_ge (b := 40) (by omega) (by omega)
  have g0 : 0 ≤ nI pos := nI_pos' (by omega)
  have g1 : nI pos < 40 := nI_lt (b := 40) (by omega) (by omega)
  unfold f_X3_letterAt
  rw [zj, zj, if_neg c1, if_neg c2, if_neg c3, gdz40 g0 g1, nI_clamp (by omega), (x4 pos hp).1]
theorem ff_ok (h : rTx S M) (rc : Int32 × Int32 × Int32 × Int32 × Int32 × Int32 → Option Int32) (x1 x2 lo hi : Int32) (m pos : Nat) (hm : m < 6) (hp : pos < (M.1 2).toNatClampNeg) (c : lo ≤ M.2.2 1 pos ∧ M.2.2 1 pos ≤ hi) :
    F_X3_firstFault_17 S rc (x1, x2, nI (m + 1), lo, hi, nI pos) = rc (x1, x2, nI m, lo, hi, nI (pos + 1)) := by
  have hL : (M.1 2).toNatClampNeg < 41 := toN_lt (n := 41) 41 rfl (by decide) (Int32.lt_of_le_of_lt h.2.2.1 (by decide)) (by decide)
  have eL : M.1 2 = nI (M.1 2).toNatClampNeg := (ofN_toN h.2.1).symm
  have c2 : ¬ S.1 9 ≤ nI pos := by rw [h.1, eL]; exact nI_ge hp (by omega)
  have c3 : ¬ nI (m + 1) ≤ 0 := nI_nle (by omega) (by omega)
  unfold F_X3_firstFault_17
  dsimp only
  rw [if_neg c2, x_let h hp, Option.bind_some, zj, if_neg c3, zj, if_neg (Int32.not_lt.mpr c.1), if_pos c.2]
  show rc (x1, x2, nI (m + 1) + -1, lo, hi, nI pos + 1) = _
  rw [pk_m1, nI_1]
theorem ff_bad (h : rTx S M) (rc : Int32 × Int32 × Int32 × Int32 × Int32 × Int32 → Option Int32) (x1 x2 lo hi : Int32) (m pos : Nat) (hm : m < 6) (hp : pos ≤ (M.1 2).toNatClampNeg) (c : ¬ (pos < (M.1 2).toNatClampNeg ∧ lo ≤ M.2.2 1 pos ∧ M.2.2 1 pos ≤ hi)) :
    F_X3_firstFault_17 S rc (x1, x2, nI (m + 1), lo, hi, nI pos) = some (nI pos) := by
  have hL : (M.1 2).toNatClampNeg < 41 := toN_lt (n := 41) 41 rfl (by decide) (Int32.lt_of_le_of_lt h.2.2.1 (by decide)) (by decide)
  have eL : M.1 2 = nI (M.1 2).toNatClampNeg := (ofN_toN h.2.1).symm
  have c3 : ¬ nI (m + 1) ≤ 0 := nI_nle (by omega) (by omega)
  unfold F_X3_firstFault_17
  dsimp only
  by_cases q : pos < (M.1 2).toNatClampNeg
  · have c2 : ¬ S.1 9 ≤ nI pos := by rw [h.1, eL]; exact nI_ge q (by omega)
    rw [if_neg c2, x_let h q, Option.bind_some, zj, if_neg c3, zj]
    by_cases q1 : M.2.2 1 pos < lo
    · rw [if_pos q1]
    · rw [if_neg q1, if_neg (fun z => c ⟨q, Int32.not_lt.mp q1, z⟩)]
  · have e : pos = (M.1 2).toNatClampNeg := by omega
    have c2 : S.1 9 ≤ nI pos := by rw [h.1, eL, e]; exact Int32.le_refl _
    have e9 : S.1 9 = nI pos := by rw [h.1, eL, e]
    rw [if_pos c2, zj, zj, if_neg c3]
    split <;> rw [e9]
theorem ff_scan (h : rTx S M) (x1 x2 lo hi : Int32) : ∀ m pos f, m < 6 → pos ≤ (M.1 2).toNatClampNeg → zfix (F_X3_firstFault_17 S) (f + m) (x1, x2, nI m, lo, hi, nI pos) = match sc (M.2.2 1) (M.1 2).toNatClampNeg lo hi m pos with
    | some p => if 0 < f + m then some (nI p) else none
    | none => zfix (F_X3_firstFault_17 S) f (x1, x2, nI 0, lo, hi, nI (pos + m)) := by
  intro m
  induction m with
  | zero => intro pos f _ _; rfl
  | succ m ih =>
    intro pos f hm hp
    rw [← Nat.add_assoc, zfix_s]
    by_cases q : pos < (M.1 2).toNatClampNeg ∧ lo ≤ M.2.2 1 pos ∧ M.2.2 1 pos ≤ hi
    · rw [ff_ok h _ x1 x2 lo hi m pos (by omega) q.1 q.2, ih (pos + 1) f (by omega) (by omega)]
      have e : sc (M.2.2 1) (M.1 2).toNatClampNeg lo hi (m + 1) pos = sc (M.2.2 1) (M.1 2).toNatClampNeg lo hi m (pos + 1) := if_pos q
      rw [e, show pos + 1 + m = pos + (m + 1) by omega]
      cases hs : sc (M.2.2 1) (M.1 2).toNatClampNeg lo hi m (pos + 1) with
      | none => rfl
      | some p =>
        dsimp only
        rw [if_pos (show 0 < f + m + 1 by omega)]
        cases m with
        | zero => cases hs
        | succ m => rw [if_pos (by omega)]
    · rw [ff_bad h _ x1 x2 lo hi m pos (by omega) hp q]
      have e : sc (M.2.2 1) (M.1 2).toNatClampNeg lo hi (m + 1) pos = some pos := if_neg q
      rw [e]
      dsimp only
      rw [if_pos (by omega)]
theorem ff_end (h : rTx S M) (rc : Int32 × Int32 × Int32 × Int32 × Int32 × Int32 → Option Int32) (x1 x2 lo hi : Int32) (pos : Nat) (h0 : 0 < pos) (hp : pos = (M.1 2).toNatClampNeg) :
    F_X3_firstFault_17 S rc (x1, x2, nI 0, lo, hi, nI pos) = some (-9) := by
  have hL : (M.1 2).toNatClampNeg < 41 := toN_lt (n := 41) 41 rfl (by decide) (Int32.lt_of_le_of_lt h.2.2.1 (by decide)) (by decide)
  have eL : M.1 2 = nI (M.1 2).toNatClampNeg := (ofN_toN h.2.1).symm
  have c2 : S.1 9 ≤ nI pos := by rw [h.1, eL, hp]; exact Int32.le_refl _
  have n0 : ¬ S.1 9 = 0 := by rw [h.1, eL, ← hp]; exact nI_ne0 h0 (by omega)
  have c3 : nI 0 ≤ 0 := by decide
  unfold F_X3_firstFault_17
  dsimp only
  rw [if_pos c2, zj, zj, if_neg n0, if_pos c3]
theorem ff_part (h : rTx S M) (rc : Int32 × Int32 × Int32 × Int32 × Int32 × Int32 → Option Int32) (nl nb : Nat) (hnl : nl < 6) (hnb : nb < 6) (lo hi : Int32) (pos : Nat) (h0 : 0 < pos) (hp : pos < (M.1 2).toNatClampNeg) :
    F_X3_firstFault_17 S rc (nI nl, nI nb, nI 0, lo, hi, nI pos) = if M.2.2 1 pos = 71 ∧ nl < 4 then rc (nI (nl + 1), nI nb, nI 5, 48, 51, nI (pos + 1)) else if M.2.2 1 pos = 66 ∧ nb < 3 then rc (nI nl, nI (nb + 1), nI 1, 48, 57, nI (pos + 1)) else some (nI pos) := by
  have hL : (M.1 2).toNatClampNeg < 41 := toN_lt (n := 41) 41 rfl (by decide) (Int32.lt_of_le_of_lt h.2.2.1 (by decide)) (by decide)
  have eL : M.1 2 = nI (M.1 2).toNatClampNeg := (ofN_toN h.2.1).symm
  have c2 : ¬ S.1 9 ≤ nI pos := by rw [h.1, eL]; exact nI_ge hp (by omega)
  have c3 : nI 0 ≤ 0 := by decide
  have c4 : ¬ nI pos = 0 := nI_ne0 h0 (by omega)
  have c5 : ¬ nI pos ≤ 0 := nI_nle h0 (by omega)
  unfold F_X3_firstFault_17
  dsimp only
  rw [if_neg c2, x_let h hp, Option.bind_some, zj, if_pos c3, zj, if_neg c4]
  dsimp only
  rw [zj, if_neg c5]
  by_cases q : M.2.2 1 pos = 71
  · rw [if_pos q]
    by_cases q1 : nl < 4
    · have c : ¬ (4 : Int32) ≤ nI nl := nI_ge (b := 4) q1 (by omega)
      rw [if_neg c, if_pos ⟨q, q1⟩, nI_1, nI_1]; rfl
    · have q2 : ¬ M.2.2 1 pos = 66 := by rw [q]; decide
      have c : (4 : Int32) ≤ nI nl := nI_le (a := 4) (by omega) (by omega)
      rw [if_pos c, if_neg (fun z => q1 z.2), if_neg (fun z => q2 z.1)]
      dsimp only
      rw [zj, if_neg c5, if_neg q2]
  · rw [if_neg q, if_neg (fun z => q z.1)]
    dsimp only
    rw [zj, if_neg c5]
    by_cases q2 : M.2.2 1 pos = 66
    · rw [if_pos q2]
      by_cases q3 : nb < 3
      · have c : ¬ (3 : Int32) ≤ nI nb := nI_ge (b := 3) q3 (by omega)
        rw [if_neg c, if_pos ⟨q2, q3⟩, nI_1, nI_1]; rfl
      · have c : (3 : Int32) ≤ nI nb := nI_le (a := 3) (by omega) (by omega)
        rw [if_pos c, if_neg (fun z => q3 z.2)]
    · rw [if_neg q2, if_neg (fun z => q2 z.1)]
theorem ff_first (h : rTx S M) (rc : Int32 × Int32 × Int32 × Int32 × Int32 × Int32 → Option Int32) :
    F_X3_firstFault_17 S rc (0, 0, 0, 48, 48, 0) = if 0 < (M.1 2).toNatClampNeg ∧ M.2.2 1 0 = 76 then rc (nI 0, nI 0, nI 1, 49, 54, nI 1) else some 0 := by
  have hL : (M.1 2).toNatClampNeg < 41 := toN_lt (n := 41) 41 rfl (by decide) (Int32.lt_of_le_of_lt h.2.2.1 (by decide)) (by decide)
  have eL : M.1 2 = nI (M.1 2).toNatClampNeg := (ofN_toN h.2.1).symm
  unfold F_X3_firstFault_17
  dsimp only
  by_cases q : 0 < (M.1 2).toNatClampNeg
  · have c2 : ¬ S.1 9 ≤ 0 := by rw [h.1, eL]; exact nI_nle q (by omega)
    have hl := x_let h q
    have hl : f_X3_letterAt 0 S = some (M.2.2 1 0) := hl
    rw [if_neg c2, hl, Option.bind_some, zj, if_pos (show (0 : Int32) ≤ 0 by decide), zj, if_pos rfl]
    by_cases q1 : M.2.2 1 0 = 76
    · rw [if_pos q1, if_pos ⟨q, q1⟩]; rfl
    · rw [if_neg q1, if_neg (fun z => q1 z.2)]
      dsimp only
      rw [zj, if_pos (show (0 : Int32) ≤ 0 by decide)]
      dsimp only
      rw [zj, if_pos (show (0 : Int32) ≤ 0 by decide)]
  · have e0 : S.1 9 = 0 := by rw [h.1, eL, show (M.1 2).toNatClampNeg = 0 by omega]; rfl
    have q2 : ¬ (0 < (M.1 2).toNatClampNeg ∧ M.2.2 1 0 = 76) := fun z => q z.1
    rw [if_neg q2, e0, if_pos (show (0 : Int32) ≤ 0 by decide), zj, zj, if_pos rfl]
end TX
/-! the reference's reader -/
def pF (f : Nat → Int32) (pos nl nb : Nat) (rs : Int32) : Nat → Int32 := fun j => if j = 3 then nI pos else if j = 10 then nI nl else if j = 12 then nI nb else if j = 9 then rs else f j
def pM (M : zS) (pos nl nb : Nat) (rs : Int32) (a b : Nat → Int32) : zS := (pF M.1 pos nl nb rs, M.2.1, zur (zur M.2.2 11 a) 13 b)
theorem pF_3 (f : Nat → Int32) (pos nl nb : Nat) (rs : Int32) (v : Nat) : upd (pF f pos nl nb rs) 3 (nI v) = pF f v nl nb rs := by
  funext j; simp only [pF, upd_apply]; by_cases h : j = 3 <;> simp [h]
theorem pF_10 (f : Nat → Int32) (pos nl nb : Nat) (rs : Int32) (v : Nat) : upd (pF f pos nl nb rs) 10 (nI v) = pF f pos v nb rs := by
  funext j; simp only [pF, upd_apply]; by_cases h : j = 10 <;> simp [h]
theorem pF_12 (f : Nat → Int32) (pos nl nb : Nat) (rs : Int32) (v : Nat) : upd (pF f pos nl nb rs) 12 (nI v) = pF f pos nl v rs := by
  funext j; simp only [pF, upd_apply]; by_cases h : j = 12 <;> simp [h]
theorem pF_9 (f : Nat → Int32) (pos nl nb : Nat) (rs v : Int32) : upd (pF f pos nl nb rs) 9 v = pF f pos nl nb v := by
  funext j; simp only [pF, upd_apply]; by_cases h : j = 9 <;> simp [h]
theorem pM_11 (M : zS) (pos nl nb : Nat) (rs : Int32) (a b a' : Nat → Int32) : zur (pM M pos nl nb rs a b).2.2 11 a' = (pM M pos nl nb rs a' b).2.2 := by
  funext j; simp only [pM, zur_apply]; by_cases h : j = 11 <;> simp [h]
theorem pM_13 (M : zS) (pos nl nb : Nat) (rs : Int32) (a b b' : Nat → Int32) : zur (pM M pos nl nb rs a b).2.2 13 b' = (pM M pos nl nb rs a b').2.2 := by
  funext j; simp only [pM, zur_apply]; by_cases h : j = 13 <;> simp [h]
def txOk (M : zS) : Prop := 0 ≤ M.1 2 ∧ M.1 2 ≤ 40 ∧ ∀ i : Nat, i < (M.1 2).toNatClampNeg → 0 ≤ M.2.2 1 i ∧ M.2.2 1 i ≤ 255
theorem fig_rng {x lo hi a b : Int32} (hx : 0 ≤ x ∧ x ≤ 255) (h1 : lo = a + 48) (h2 : hi = b + 48) (ha : 0 ≤ a ∧ a ≤ 9) (hb : 0 ≤ b ∧ b ≤ 9) : (a ≤ x - 48 ∧ x - 48 ≤ b) ↔ (lo ≤ x ∧ x ≤ hi) := by
  subst h1; subst h2
  constructor
  · rintro ⟨h3, h4⟩; constructor <;> grind
  · rintro ⟨h3, h4⟩; constructor <;> grind
theorem m_figure {M : zS} (h : txOk M) (pos nl nb : Nat) (rs : Int32) (a b : Nat → Int32) (lo hi u v : Int32) (hp : pos ≤ (M.1 2).toNatClampNeg) (h1 : lo = u + 48) (h2 : hi = v + 48) (hu : 0 ≤ u ∧ u ≤ 9) (hv : 0 ≤ v ∧ v ≤ 9) :
    f_X5_figure u v (pM M pos nl nb rs a b) = if pos < (M.1 2).toNatClampNeg ∧ lo ≤ M.2.2 1 pos ∧ M.2.2 1 pos ≤ hi then some (M.2.2 1 pos - 48, pM M (pos + 1) nl nb rs a b) else some (-9, pM M pos nl nb rs a b) := by
  obtain ⟨x2, x3, x4⟩ := h
  have hL : (M.1 2).toNatClampNeg < 41 := toN_lt (n := 41) 41 rfl (by decide) (Int32.lt_of_le_of_lt x3 (by decide)) (by decide)
  have eL : M.1 2 = nI (M.1 2).toNatClampNeg := (ofN_toN x2).symm
  have e3 : (pM M pos nl nb rs a b).1 3 = nI pos := rfl
  have e2 : (pM M pos nl nb rs a b).1 2 = M.1 2 := rfl
  have e1 : (pM M pos nl nb rs a b).2.2 1 = M.2.2 1 := rfl
  unfold f_X5_figure
  rw [zj, e3, e2, e1]
  by_cases q : pos < (M.1 2).toNatClampNeg
  · have n1 : ¬ nI pos = M.1 2 := by
      rw [eL]; intro z
      have := (nI_eq (by omega) (by omega)).mp z
      omega
    have g0 : 0 ≤ nI pos := nI_pos' (by omega)
    have g1 : nI pos < 40 := nI_lt (b := 40) (by omega) (by omega)
    have hx := x4 pos q
    have rg := fig_rng hx h1 h2 hu hv
    rw [if_neg n1, gdz40 g0 g1, nI_clamp (by omega), m_in, Option.bind_some]
    by_cases r : lo ≤ M.2.2 1 pos ∧ M.2.2 1 pos ≤ hi
    · rw [if_pos (rg.mpr r), if_neg (show ¬ (1 : Int32) = 0 by decide), if_pos ⟨q, r⟩, zl, nI_1]
      have f3 : (upd (pM M pos nl nb rs a b).1 3 (nI (pos + 1)), (pM M pos nl nb rs a b).2) = pM M (pos + 1) nl nb rs a b := by
        refine Prod.ext ?_ rfl
        exact pF_3 _ _ _ _ _ _
      rw [f3]
      have e3' : (pM M (pos + 1) nl nb rs a b).1 3 = nI (pos + 1) := rfl
      have e1' : (pM M (pos + 1) nl nb rs a b).2.2 1 = M.2.2 1 := rfl
      rw [e3', e1', nI_pred, gdz40 g0 g1, nI_clamp (by omega)]
    · rw [if_neg (fun z => r (rg.mp z)), if_pos rfl, if_neg (fun z => r z.2)]
  · have n1 : nI pos = M.1 2 := by rw [eL]; congr 1; omega
    rw [if_pos n1, if_neg (fun z => q z.1)]
theorem fig_ne9 {x : Int32} (h : 48 ≤ x) (h2 : x ≤ 255) : ¬ x - 48 = -9 := by grind
theorem m_readLegger {M : zS} (h : txOk M) (nl nb : Nat) (hnl : nl < 4) (rs : Int32) (b : Nat → Int32) : ∀ m k pos a fuel, k + m = 5 → m < fuel → pos ≤ (M.1 2).toNatClampNeg →
    match sc (M.2.2 1) (M.1 2).toNatClampNeg 48 51 m pos with
    | some p => ∃ a', zfix F_X5_readLegger_2 fuel (nI k, pM M pos nl nb rs a b) = some (0, pM M p nl nb rs a' b) ∧ (∀ j, j < 5 * nl + k → a' j = a j)
    | none => ∃ a', zfix F_X5_readLegger_2 fuel (nI k, pM M pos nl nb rs a b) = some (1, pM M (pos + m) (nl + 1) nb rs a' b) ∧ (∀ j, j < 5 * nl + k → a' j = a j) ∧ (∀ j, j < m → a' (5 * nl + k + j) = M.2.2 1 (pos + j) - 48) := by
  intro m
  induction m with
  | zero =>
    intro k pos a fuel hk hf hp
    obtain ⟨f, rfl⟩ : ∃ f, fuel = f + 1 := ⟨fuel - 1, by omega⟩
    show ∃ a', _ ∧ _ ∧ _
    refine ⟨a, ?_, fun _ _ => rfl, fun j hj => by omega⟩
    have hk5 : k = 5 := by omega
    subst hk5
    rw [zfix_s]
    unfold F_X5_readLegger_2
    dsimp only
    have e10 : (pM M pos nl nb rs a b).1 10 = nI nl := rfl
    have c : (5 : Int32) ≤ nI 5 := by decide
    rw [if_pos c, zl, e10, nI_1]
    congr 2
    refine Prod.ext ?_ rfl
    exact pF_10 _ _ _ _ _ _
  | succ m ih =>
    intro k pos a fuel hk hf hp
    obtain ⟨f, rfl⟩ : ∃ f, fuel = f + 1 := ⟨fuel - 1, by omega⟩
    have c5 : ¬ (5 : Int32) ≤ nI k := nI_ge (b := 5) (by omega) (by omega)
    have fg := m_figure h pos nl nb rs a b 48 51 0 3 hp (by decide) (by decide) (by decide) (by decide)
    by_cases q : pos < (M.1 2).toNatClampNeg ∧ 48 ≤ M.2.2 1 pos ∧ M.2.2 1 pos ≤ 51
    · have e : sc (M.2.2 1) (M.1 2).toNatClampNeg 48 51 (m + 1) pos = sc (M.2.2 1) (M.1 2).toNatClampNeg 48 51 m (pos + 1) := if_pos q
      rw [e]
      rw [if_pos q] at fg
      have i1 : 5 * nI (nl) + nI k = nI (5 * nl + k) := by rw [show (5 : Int32) = nI 5 from rfl, pk_mul, nI_add]
      have g0 : 0 ≤ nI (5 * nl + k) := nI_pos' (by omega)
      have g1 : nI (5 * nl + k) < 20 := nI_lt (b := 20) (by omega) (by omega)
      have n9 := fig_ne9 q.2.1 (Int32.le_trans q.2.2 (by decide))
      have e10 : (pM M (pos + 1) nl nb rs a b).1 10 = nI nl := rfl
      have e11 : (pM M (pos + 1) nl nb rs a b).2.2 11 = a := rfl
      have st : ∀ rc : Int32 × zS → Option (Int32 × zS), F_X5_readLegger_2 rc (nI k, pM M pos nl nb rs a b) = rc (nI (k + 1), pM M (pos + 1) nl nb rs (upd a (5 * nl + k) (M.2.2 1 pos - 48)) b) := by
        intro rc
        unfold F_X5_readLegger_2
        dsimp only
        rw [if_neg c5, fg, Option.bind_some]
        dsimp only
        rw [if_neg n9, e10, i1, gdz20 g0 g1, zl, nI_clamp (by omega), e11, pM_11, nI_1]
        rfl
      have r := ih (k + 1) (pos + 1) (upd a (5 * nl + k) (M.2.2 1 pos - 48)) f (by omega) (by omega) (by omega)
      rw [zfix_s, st]
      cases hs : sc (M.2.2 1) (M.1 2).toNatClampNeg 48 51 m (pos + 1) with
      | some p =>
        rw [hs] at r
        obtain ⟨a', r1, r2⟩ := r
        exact ⟨a', r1, fun j hj => by rw [r2 j (by omega), upd_apply, if_neg (by omega)]⟩
      | none =>
        rw [hs] at r
        obtain ⟨a', r1, r2, r3⟩ := r
        refine ⟨a', by rw [r1, show pos + 1 + m = pos + (m + 1) by omega], ?_, ?_⟩
        · intro j hj
          rw [r2 j (by omega), upd_apply, if_neg (by omega)]
        · intro j hj
          by_cases z : j = 0
          · subst z
            rw [Nat.add_zero, Nat.add_zero, r2 _ (by omega), upd_apply, if_pos rfl]
          · have := r3 (j - 1) (by omega)
            rw [show 5 * nl + (k + 1) + (j - 1) = 5 * nl + k + j by omega, show pos + 1 + (j - 1) = pos + j by omega] at this
            exact this
    · have e : sc (M.2.2 1) (M.1 2).toNatClampNeg 48 51 (m + 1) pos = some pos := if_neg q
      rw [e]
      rw [if_neg q] at fg
      refine ⟨a, ?_, fun _ _ => rfl⟩
      rw [zfix_s]
      unfold F_X5_readLegger_2
      dsimp only
      rw [if_neg c5, fg, Option.bind_some]
      dsimp only
      rw [if_pos rfl]
