/-! ===== orders and pairs: all orders against the boats as they are numbered ===== -/
def fw {α : Type} (g : Nat → α → α) : Nat → α → α
  | 0, a => a
  | w + 1, a => g w (fw g w a)
theorem fw_add {α : Type} (g : Nat → α → α) (x : Nat) : ∀ y a, fw g (x + y) a = fw (fun i => g (x + i)) y (fw g x a) := by
  intro y
  induction y with
  | zero => intro a; rfl
  | succ y ih => intro a; show g (x + y) (fw g (x + y) a) = _; rw [ih]; rfl
theorem fw_cong {α : Type} {g h : Nat → α → α} : ∀ {n : Nat}, (∀ i, i < n → ∀ a, g i a = h i a) → ∀ a, fw g n a = fw h n a := by
  intro n
  induction n with
  | zero => intro _ a; rfl
  | succ n ih =>
    intro hh a
    show g n (fw g n a) = h n (fw h n a)
    rw [ih (fun i hi => hh i (by omega)), hh n (by omega)]
theorem fw_id {α : Type} {g : Nat → α → α} {a : α} : ∀ {n : Nat}, (∀ i, i < n → g i a = a) → fw g n a = a := by
  intro n
  induction n with
  | zero => intro _; rfl
  | succ n ih =>
    intro hh
    show g n (fw g n a) = a
    rw [ih (fun i hi => hh i (by omega)), hh n (by omega)]
theorem fw_block {α : Type} (g : Nat → α → α) (np : Nat) : ∀ B a, fw g (B * np) a = fw (fun b acc => fw (fun q acc => g (b * np + q) acc) np acc) B a := by
  intro B
  induction B with
  | zero => intro a; rw [Nat.zero_mul]; rfl
  | succ B ih => intro a; rw [Nat.succ_mul, fw_add, ih]; rfl
/-- the least so far: time, row -/
def upA (a : Option (Nat × Nat)) (t f : Nat) : Option (Nat × Nat) := match a with
  | none => some (t, f)
  | some x => if t < x.1 then some (t, f) else some x
def fmin (g : Nat → Nat) : Nat → Nat
  | 0 => 0
  | 1 => g 0
  | q + 2 => min (fmin g (q + 1)) (g (q + 1))
theorem fmin_le (g : Nat → Nat) : ∀ n q, q < n → fmin g n ≤ g q := by
  intro n
  induction n with
  | zero => intro q h; omega
  | succ n ih =>
    intro q h
    cases n with
    | zero =>
      have : q = 0 := by omega
      subst this
      exact Nat.le_refl _
    | succ n =>
      show min (fmin g (n + 1)) (g (n + 1)) ≤ g q
      by_cases e : q = n + 1
      · subst e; omega
      · have := ih q (by omega); omega
theorem fmin_cong {g h : Nat → Nat} : ∀ {n : Nat}, (∀ q, q < n → g q = h q) → fmin g n = fmin h n := by
  intro n
  induction n with
  | zero => intro _; rfl
  | succ n ih =>
    intro hh
    cases n with
    | zero => exact hh 0 (by omega)
    | succ n =>
      show min (fmin g (n + 1)) (g (n + 1)) = min (fmin h (n + 1)) (h (n + 1))
      rw [ih (fun q hq => hh q (by omega)), hh (n + 1) (by omega)]
def bsL (B : Nat) (t0 t1 t2 : Bool) : List Nat := (if decide (0 < B) && !t0 then [0] else []) ++ ((if decide (1 < B) && !t1 then [1] else []) ++ (if decide (2 < B) && !t2 then [2] else []))
def uB (t0 t1 t2 : Bool) (b : Nat) : Bool := if b = 0 then t0 else if b = 1 then t1 else t2
def sumL (ld : Nat → Nat) : List Nat → Nat
  | [] => 0
  | b :: bs => ld b + sumL ld bs
def factA (B : Nat) (t0 t1 t2 : Bool) : Bool := match bsL B t0 t1 t2 with
  | [] => true
  | b1 :: rest => decide (b1 < B) && (!uB t0 t1 t2 b1 && (decide (∀ b, b < b1 → uB t0 t1 t2 b = true) && decide (bsL B (t0 || decide (b1 = 0)) (t1 || decide (b1 = 1)) (t2 || decide (b1 = 2)) = rest)))
theorem factA_ok : ∀ B : Nat, B < 4 → ∀ t0 t1 t2 : Bool, factA B t0 t1 t2 = true := by decide +kernel
theorem factC : ∀ B : Nat, B < 4 → ∀ t0 t1 t2 : Bool, ∀ b : Nat, b < 3 → b < B → uB t0 t1 t2 b = false → (bsL B (t0 || decide (b = 0)) (t1 || decide (b = 1)) (t2 || decide (b = 2))).length + 1 = (bsL B t0 t1 t2).length := by decide +kernel
theorem factS (ld : Nat → Nat) (B : Nat) (hB : B < 4) (t0 t1 t2 : Bool) (b : Nat) (hb : b < B) (h : uB t0 t1 t2 b = false) : sumL ld (bsL B (t0 || decide (b = 0)) (t1 || decide (b = 1)) (t2 || decide (b = 2))) + ld b = sumL ld (bsL B t0 t1 t2) := by
  rcases (by omega : B = 0 ∨ B = 1 ∨ B = 2 ∨ B = 3) with rfl | rfl | rfl | rfl <;> rcases (by omega : b = 0 ∨ b = 1 ∨ b = 2) with rfl | rfl | rfl <;> cases t0 <;> cases t1 <;> cases t2 <;> simp [bsL, sumL, uB] at * <;> omega
section SO
variable {P : Type} (tq : P → Nat → Nat) (lg : P → Nat → Nat → P) (ld : Nat → Nat) (thr : P → Nat → Bool) (fg : Nat → Nat → Nat) (np B : Nat)
/-- all boats in any order, by all pairs: n are left -/
def oF : Nat → P → Nat → Nat → Option (Nat × Nat) → Option (Nat × Nat)
  | 0, _, f, t, a => upA a t f
  | n + 1, p, f, t, a => fw (fun w acc => if thr p (w / np) then acc else oF n (lg p (w / np) (w % np)) (1000 * f + fg (w / np) (w % np)) (t + tq p (w % np) + ld (w / np)) acc) (B * np) a
/-- the boats of a row in its order, by all pairs -/
def oA : List Nat → P → Nat → Nat → Option (Nat × Nat) → Option (Nat × Nat)
  | [], _, f, t, a => upA a t f
  | b :: bs, p, f, t, a => fw (fun q acc => oA bs (lg p b q) (1000 * f + fg b q) (t + tq p q + ld b) acc) np a
/-- what the pairs take at least, n legs -/
def mn : Nat → P → Nat
  | 0, _ => 0
  | n + 1, p => fmin (fun q => tq p q + mn n (lg p 0 q)) np
variable {tq lg ld thr fg np B}
variable {E : P → P → Prop}
theorem mn_cong (hE : ∀ p p' b b' q, E p p' → q < np → tq p q = tq p' q ∧ E (lg p b q) (lg p' b' q)) : ∀ n p p', E p p' → mn tq lg np n p = mn tq lg np n p' := by
  intro n
  induction n with
  | zero => intro p p' _; rfl
  | succ n ih =>
    intro p p' h
    exact fmin_cong (fun q hq => by rw [(hE p p' 0 0 q h hq).1, ih _ _ (hE p p' 0 0 q h hq).2])
/-- what is as little as the least that can come stays -/
theorem mA_stay (hE : ∀ p p' b b' q, E p p' → q < np → tq p q = tq p' q ∧ E (lg p b q) (lg p' b' q)) (hr : ∀ p, E p p) : ∀ bs p f t T R, T ≤ t + sumL ld bs + mn tq lg np bs.length p → oA tq lg ld fg np bs p f t (some (T, R)) = some (T, R) := by
  intro bs
  induction bs with
  | nil =>
    intro p f t T R h
    have h : T ≤ t := h
    show (if t < T then _ else _) = _
    rw [if_neg (by omega)]
  | cons b bs ih =>
    intro p f t T R h
    refine fw_id (fun q hq => ?_)
    apply ih
    have h1 : mn tq lg np (bs.length + 1) p ≤ tq p q + mn tq lg np bs.length (lg p 0 q) := fmin_le (fun q => tq p q + mn tq lg np bs.length (lg p 0 q)) np q hq
    have h2 : mn tq lg np bs.length (lg p 0 q) = mn tq lg np bs.length (lg p b q) := mn_cong hE _ _ _ (hE p p 0 b q (hr p) hq).2
    have h3 : sumL ld (b :: bs) = ld b + sumL ld bs := rfl
    have h4 : (b :: bs).length = bs.length + 1 := rfl
    rw [h3, h4] at h
    omega
/-- the least is reached, and nothing grows -/
theorem mA_least (hnp : 0 < np) (hE : ∀ p p' b b' q, E p p' → q < np → tq p q = tq p' q ∧ E (lg p b q) (lg p' b' q)) (hr : ∀ p, E p p) : ∀ bs p f t a, ∃ T R, oA tq lg ld fg np bs p f t a = some (T, R) ∧ T ≤ t + sumL ld bs + mn tq lg np bs.length p ∧ (∀ T0 R0, a = some (T0, R0) → T ≤ T0) := by
  intro bs
  induction bs with
  | nil =>
    intro p f t a
    cases a with
    | none => exact ⟨t, f, rfl, by show t ≤ t + 0 + 0; omega, fun _ _ h => by cases h⟩
    | some x =>
      by_cases q : t < x.1
      · refine ⟨t, f, by show (if t < x.1 then _ else _) = _; rw [if_pos q], by show t ≤ t + 0 + 0; omega, ?_⟩
        intro T0 R0 h
        cases h
        have : t < T0 := q
        omega
      · refine ⟨x.1, x.2, by show (if t < x.1 then _ else _) = _; rw [if_neg q], by show x.1 ≤ t + 0 + 0; omega, ?_⟩
        intro T0 R0 h
        cases h
        exact Nat.le_refl _
  | cons b bs ih =>
    intro p f t a
    have main : ∀ n, n ≤ np → (n = 0 ∧ fw (fun q acc => oA tq lg ld fg np bs (lg p b q) (1000 * f + fg b q) (t + tq p q + ld b) acc) n a = a) ∨ ∃ T R, fw (fun q acc => oA tq lg ld fg np bs (lg p b q) (1000 * f + fg b q) (t + tq p q + ld b) acc) n a = some (T, R) ∧ T ≤ t + (ld b + sumL ld bs) + fmin (fun q => tq p q + mn tq lg np bs.length (lg p 0 q)) n ∧ (∀ T0 R0, a = some (T0, R0) → T ≤ T0) := by
      intro n
      induction n with
      | zero => intro _; exact Or.inl ⟨rfl, rfl⟩
      | succ n ihn =>
        intro hn
        right
        have h2 : mn tq lg np bs.length (lg p 0 n) = mn tq lg np bs.length (lg p b n) := mn_cong hE _ _ _ (hE p p 0 b n (hr p) (by omega)).2
        show ∃ T R, oA tq lg ld fg np bs (lg p b n) (1000 * f + fg b n) (t + tq p n + ld b) (fw (fun q acc => oA tq lg ld fg np bs (lg p b q) (1000 * f + fg b q) (t + tq p q + ld b) acc) n a) = some (T, R) ∧ _ ∧ _
        rcases ihn (by omega) with ⟨h0, h1⟩ | ⟨T, R, h1, h3, h4⟩
        · rw [h1]
          obtain ⟨T', R', k1, k2, k3⟩ := ih (lg p b n) (1000 * f + fg b n) (t + tq p n + ld b) a
          subst h0
          refine ⟨T', R', k1, ?_, k3⟩
          have : fmin (fun q => tq p q + mn tq lg np bs.length (lg p 0 q)) (0 + 1) = tq p 0 + mn tq lg np bs.length (lg p 0 0) := rfl
          rw [this, h2]
          omega
        · rw [h1]
          obtain ⟨T', R', k1, k2, k3⟩ := ih (lg p b n) (1000 * f + fg b n) (t + tq p n + ld b) (some (T, R))
          have k5 := k3 T R rfl
          cases n with
          | zero => 
            refine ⟨T', R', k1, ?_, fun T0 R0 h => ?_⟩
            · have : fmin (fun q => tq p q + mn tq lg np bs.length (lg p 0 q)) (0 + 1) = tq p 0 + mn tq lg np bs.length (lg p 0 0) := rfl
              rw [this, h2]; omega
            · have := h4 T0 R0 h
              omega
          | succ n =>
            have e : fmin (fun q => tq p q + mn tq lg np bs.length (lg p 0 q)) (n + 1 + 1) = min (fmin (fun q => tq p q + mn tq lg np bs.length (lg p 0 q)) (n + 1)) (tq p (n + 1) + mn tq lg np bs.length (lg p 0 (n + 1))) := rfl
            refine ⟨T', R', k1, by rw [e, h2]; omega, fun T0 R0 h => ?_⟩
            have := h4 T0 R0 h
            omega
    rcases main np (Nat.le_refl _) with ⟨h0, -⟩ | ⟨T, R, h1, h2, h3⟩
    · omega
    · exact ⟨T, R, h1, h2, h3⟩
/-- in whatever order, the boats as they are numbered come first and stay -/
theorem oF_oA (hB : B < 4) (hnp : 0 < np) (hE : ∀ p p' b b' q, E p p' → q < np → tq p q = tq p' q ∧ E (lg p b q) (lg p' b' q)) (hr : ∀ p, E p p)
    (ht : ∀ p b q b', q < np → b < 3 → b' < 3 → thr (lg p b q) b' = (thr p b' || decide (b = b'))) : ∀ n p f t a, (bsL B (thr p 0) (thr p 1) (thr p 2)).length = n → oF tq lg ld thr fg np B n p f t a = oA tq lg ld fg np (bsL B (thr p 0) (thr p 1) (thr p 2)) p f t a := by
  have hu : ∀ p b, b < B → uB (thr p 0) (thr p 1) (thr p 2) b = thr p b := by
    intro p b hb
    unfold uB
    rcases (by omega : b = 0 ∨ b = 1 ∨ b = 2) with rfl | rfl | rfl <;> rfl
  intro n
  induction n with
  | zero =>
    intro p f t a h
    rw [List.length_eq_zero_iff.mp h]; rfl
  | succ n ih =>
    intro p f t a h
    have A := factA_ok B hB (thr p 0) (thr p 1) (thr p 2)
    have C := factC B hB (thr p 0) (thr p 1) (thr p 2)
    have Sm := factS ld B hB (thr p 0) (thr p 1) (thr p 2)
    have hl : ∀ b q, q < np → b < 3 → bsL B (thr (lg p b q) 0) (thr (lg p b q) 1) (thr (lg p b q) 2) = bsL B (thr p 0 || decide (b = 0)) (thr p 1 || decide (b = 1)) (thr p 2 || decide (b = 2)) := by
      intro b q hq hb; rw [ht _ _ _ _ hq hb (by decide), ht _ _ _ _ hq hb (by decide), ht _ _ _ _ hq hb (by decide)]
    unfold factA at A
    cases hb : bsL B (thr p 0) (thr p 1) (thr p 2) with
    | nil => rw [hb] at h; cases h
    | cons b1 rest =>
      rw [hb] at A h C Sm
      simp only [Bool.and_eq_true, decide_eq_true_eq, Bool.not_eq_true'] at A
      obtain ⟨A1, A2, A3, A4⟩ := A
      have hlen : rest.length = n := by simpa using h
      -- a block of one boat
      have blk : ∀ b, b < B → thr p b = false → ∀ acc, fw (fun q acc => if thr p ((b * np + q) / np) then acc else oF tq lg ld thr fg np B n (lg p ((b * np + q) / np) ((b * np + q) % np)) (1000 * f + fg ((b * np + q) / np) ((b * np + q) % np)) (t + tq p ((b * np + q) % np) + ld ((b * np + q) / np)) acc) np acc = oA tq lg ld fg np (b :: bsL B (thr p 0 || decide (b = 0)) (thr p 1 || decide (b = 1)) (thr p 2 || decide (b = 2))) p f t acc := by
        intro b hbB hbt acc
        refine fw_cong (fun q hq acc => ?_) acc
        have d1 : (b * np + q) / np = b := by rw [Nat.mul_comm, Nat.mul_add_div hnp, Nat.div_eq_of_lt hq, Nat.add_zero]
        have d2 : (b * np + q) % np = q := by rw [Nat.mul_comm, Nat.mul_add_mod, Nat.mod_eq_of_lt hq]
        rw [d1, d2, hbt]
        simp only [Bool.false_eq_true, if_false]
        have hb3 : b < 3 := by omega
        have cl := C b hb3 hbB (by rw [hu p b hbB]; exact hbt)
        rw [ih _ _ _ _ (by rw [hl _ _ hq hb3]; simpa [hlen] using cl), hl _ _ hq hb3]
      have thr_blk : ∀ b, thr p b = true → ∀ acc, fw (fun q acc => if thr p ((b * np + q) / np) then acc else oF tq lg ld thr fg np B n (lg p ((b * np + q) / np) ((b * np + q) % np)) (1000 * f + fg ((b * np + q) / np) ((b * np + q) % np)) (t + tq p ((b * np + q) % np) + ld ((b * np + q) / np)) acc) np acc = acc := by
        intro b hbt acc
        refine fw_id (fun q hq => ?_)
        have d1 : (b * np + q) / np = b := by rw [Nat.mul_comm, Nat.mul_add_div hnp, Nat.div_eq_of_lt hq, Nat.add_zero]
        rw [d1, hbt]; rfl
      show fw (fun w acc => if thr p (w / np) then acc else oF tq lg ld thr fg np B n (lg p (w / np) (w % np)) (1000 * f + fg (w / np) (w % np)) (t + tq p (w % np) + ld (w / np)) acc) (B * np) a = _
      rw [fw_block]
      obtain ⟨y, hy⟩ : ∃ y, B = b1 + (1 + y) := ⟨B - b1 - 1, by omega⟩
      have e1 : thr p b1 = false := by rw [← hu p b1 A1]; exact A2
      generalize hG : (fun (b : Nat) (acc : Option (Nat × Nat)) => fw (fun q acc => if thr p ((b * np + q) / np) then acc else oF tq lg ld thr fg np B n (lg p ((b * np + q) / np) ((b * np + q) % np)) (1000 * f + fg ((b * np + q) / np) ((b * np + q) % np)) (t + tq p ((b * np + q) % np) + ld ((b * np + q) / np)) acc) np acc) = G
      have hG1 : ∀ b, b < B → thr p b = false → ∀ acc, G b acc = oA tq lg ld fg np (b :: bsL B (thr p 0 || decide (b = 0)) (thr p 1 || decide (b = 1)) (thr p 2 || decide (b = 2))) p f t acc := by
        intro b h1 h2 acc; rw [← hG]; exact blk b h1 h2 acc
      have hG2 : ∀ b, thr p b = true → ∀ acc, G b acc = acc := by
        intro b h2 acc; rw [← hG]; exact thr_blk b h2 acc
      have s1 : fw G b1 a = a := fw_id (fun b hb' => hG2 b (by rw [← hu p b (by omega)]; exact A3 b hb') a)
      have s2 : fw G (b1 + 1) a = oA tq lg ld fg np (b1 :: rest) p f t a := by
        show G b1 (fw G b1 a) = _
        rw [s1, hG1 b1 A1 e1, A4]
      obtain ⟨T, R, k1, k2, -⟩ := mA_least (ld := ld) (fg := fg) hnp hE hr (b1 :: rest) p f t a
      have hl1 : (b1 :: rest).length = n + 1 := by simp [hlen]
      rw [hl1] at k2
      rw [hy, ← Nat.add_assoc, fw_add, s2, k1]
      refine fw_id (fun b hb' => ?_)
      by_cases hbt : thr p (b1 + 1 + b) = true
      · exact hG2 _ hbt _
      · have hbt := Bool.eq_false_iff.mpr hbt
        have hbB : b1 + 1 + b < B := by omega
        rw [hG1 _ hbB hbt]
        apply mA_stay hE hr
        have cl := C (b1 + 1 + b) (by omega) hbB (by rw [hu p _ hbB]; exact hbt)
        have sm := Sm (b1 + 1 + b) hbB (by rw [hu p _ hbB]; exact hbt)
        have hl2 : ((b1 + 1 + b) :: bsL B (thr p 0 || decide (b1 + 1 + b = 0)) (thr p 1 || decide (b1 + 1 + b = 1)) (thr p 2 || decide (b1 + 1 + b = 2))).length = n + 1 := by
          rw [List.length_cons, cl]; simp [hlen]
        rw [hl2]
        have sm2 : sumL ld ((b1 + 1 + b) :: bsL B (thr p 0 || decide (b1 + 1 + b = 0)) (thr p 1 || decide (b1 + 1 + b = 1)) (thr p 2 || decide (b1 + 1 + b = 2))) = sumL ld (b1 :: rest) := by
          rw [← sm]; show ld _ + _ = _; omega
        rw [sm2]
        exact k2
/-! the class's number: minutes ahead of the row -/
def cF (tq : P → Nat → Nat) (lg : P → Nat → Nat → P) (ld : Nat → Nat) (fg : Nat → Nat → Nat) (np : Nat) : List Nat → P → Nat → Nat → Nat → Nat
  | [], _, f, t, L => min L (t * 1000000000 + f)
  | b :: bs, p, f, t, L => fw (fun q acc => cF tq lg ld fg np bs (lg p b q) (1000 * f + fg b q) (t + tq p q + ld b) acc) np L
theorem cF_le : ∀ bs p f t L, cF tq lg ld fg np bs p f t L ≤ L := by
  intro bs
  induction bs with
  | nil => intro p f t L; show min L _ ≤ L; omega
  | cons b bs ih =>
    intro p f t L
    have : ∀ n, fw (fun q acc => cF tq lg ld fg np bs (lg p b q) (1000 * f + fg b q) (t + tq p q + ld b) acc) n L ≤ L := by
      intro n
      induction n with
      | zero => exact Nat.le_refl _
      | succ n ihn => exact Nat.le_trans (ih _ _ _ _) ihn
    exact this np
theorem cF_prune : ∀ bs p f t L, L ≤ t * 1000000000 → cF tq lg ld fg np bs p f t L = L := by
  intro bs
  induction bs with
  | nil => intro p f t L h; show min L _ = L; omega
  | cons b bs ih =>
    intro p f t L h
    refine fw_id (fun q hq => ih _ _ _ _ ?_)
    exact Nat.le_trans h (Nat.mul_le_mul_right _ (by omega))
def cMax : Nat := 1000000000000
/-- the class's number tells the reference's time and row -/
def rK (L : Nat) (a : Option (Nat × Nat)) : Prop := (a = none ∧ L = cMax) ∨ ∃ T R, a = some (T, R) ∧ L = T * 1000000000 + R ∧ R < 1000000000 ∧ T ≤ 1000
theorem cF_oA (hfg : ∀ b q, fg b q < fg b (q + 1)) (hfg2 : ∀ b q, b < 3 → q < np → fg b q < 1000) (htq : ∀ p q, q < np → tq p q ≤ 54) (hld : ∀ b, ld b ≤ 9) : ∀ bs p f t L a, (∀ b, b ∈ bs → b < 3) → rK L a → 1000 ^ bs.length * (f + 1) ≤ 1000000000 → t + 63 * bs.length ≤ 999 → (∀ T R, a = some (T, R) → R < 1000 ^ bs.length * f) →
    rK (cF tq lg ld fg np bs p f t L) (oA tq lg ld fg np bs p f t a) ∧ (∀ T R, oA tq lg ld fg np bs p f t a = some (T, R) → R < 1000 ^ bs.length * (f + 1)) := by
  intro bs
  induction bs with
  | nil =>
    intro p f t L a _ h hf ht hc
    have hf : 1 * (f + 1) ≤ 1000000000 := hf
    have hc : ∀ T R, a = some (T, R) → R < 1 * f := hc
    show rK (min L (t * 1000000000 + f)) (upA a t f) ∧ ∀ T R, upA a t f = some (T, R) → R < 1 * (f + 1)
    rcases h with ⟨rfl, rfl⟩ | ⟨T, R, rfl, rfl, h1, h2⟩
    · have ht : t ≤ 999 := by simpa using ht
      have : min cMax (t * 1000000000 + f) = t * 1000000000 + f := by unfold cMax; omega
      rw [this]
      exact ⟨Or.inr ⟨t, f, rfl, rfl, by omega, by omega⟩, fun T R e => by cases e; omega⟩
    · have h3 := hc T R rfl
      have ht : t ≤ 999 := by simpa using ht
      by_cases q : t < T
      · have e1 : upA (some (T, R)) t f = some (t, f) := if_pos q
        have e2 : min (T * 1000000000 + R) (t * 1000000000 + f) = t * 1000000000 + f := by omega
        rw [e1, e2]
        exact ⟨Or.inr ⟨t, f, rfl, rfl, by omega, by omega⟩, fun T R e => by cases e; omega⟩
      · have e1 : upA (some (T, R)) t f = some (T, R) := if_neg q
        have e2 : min (T * 1000000000 + R) (t * 1000000000 + f) = T * 1000000000 + R := by omega
        rw [e1, e2]
        exact ⟨Or.inr ⟨T, R, rfl, rfl, h1, h2⟩, fun T R e => by cases e; omega⟩
  | cons b bs ih =>
    intro p f t L a hb h hf ht hc
    have hb3 : b < 3 := hb b (by simp)
    have hl : (b :: bs).length = bs.length + 1 := rfl
    rw [hl] at hf ht hc ⊢
    have ep : ∀ z, 1000 ^ (bs.length + 1) * z = 1000 ^ bs.length * (1000 * z) := by
      intro z; rw [Nat.pow_succ, Nat.mul_assoc]
    rw [ep] at hf
    have main : ∀ n, n ≤ np → rK (fw (fun q acc => cF tq lg ld fg np bs (lg p b q) (1000 * f + fg b q) (t + tq p q + ld b) acc) n L) (fw (fun q acc => oA tq lg ld fg np bs (lg p b q) (1000 * f + fg b q) (t + tq p q + ld b) acc) n a) ∧ (∀ T R, fw (fun q acc => oA tq lg ld fg np bs (lg p b q) (1000 * f + fg b q) (t + tq p q + ld b) acc) n a = some (T, R) → R < 1000 ^ bs.length * (1000 * f + fg b n) ∧ (n = np → R < 1000 ^ bs.length * (1000 * (f + 1)))) := by
      intro n
      induction n with
      | zero =>
        intro _
        refine ⟨h, fun T R e => ?_⟩
        have h1 := hc T R e
        rw [ep] at h1
        have h2 : 1000 ^ bs.length * (1000 * f) ≤ 1000 ^ bs.length * (1000 * f + fg b 0) := Nat.mul_le_mul_left _ (by omega)
        have h3 : 1000 ^ bs.length * (1000 * f) ≤ 1000 ^ bs.length * (1000 * (f + 1)) := Nat.mul_le_mul_left _ (by omega)
        exact ⟨by omega, fun _ => by omega⟩
      | succ n ihn =>
        intro hn
        obtain ⟨k1, k2⟩ := ihn (by omega)
        have g1 := hfg2 b n hb3 (by omega)
        have g2 := hfg b n
        have hmul : 1000 ^ bs.length * (1000 * f + fg b n + 1) ≤ 1000 ^ bs.length * (1000 * (f + 1)) := Nat.mul_le_mul_left _ (by omega)
        have htn := htq p n (by omega)
        have hldb := hld b
        have r := ih (lg p b n) (1000 * f + fg b n) (t + tq p n + ld b) _ _ (fun b' hb' => hb b' (by simp [hb'])) k1 (by omega) (by omega) (fun T R e => (k2 T R e).1)
        refine ⟨r.1, fun T R e => ?_⟩
        have r2 := r.2 T R e
        have hmul2 : 1000 ^ bs.length * (1000 * f + fg b n + 1) ≤ 1000 ^ bs.length * (1000 * f + fg b (n + 1)) := Nat.mul_le_mul_left _ (by omega)
        exact ⟨by omega, fun _ => by omega⟩
    obtain ⟨m1, m2⟩ := main np (Nat.le_refl _)
    refine ⟨m1, fun T R e => ?_⟩
    rw [ep]
    exact (m2 T R e).2 rfl
end SO
