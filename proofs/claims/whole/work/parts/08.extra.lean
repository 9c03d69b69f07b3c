/-! ===== loops and merges of the pure programs; a few rows of zV ===== -/
def zfix {ε ρ : Type} (F : (ε → Option ρ) → ε → Option ρ) : Nat → ε → Option ρ
  | 0, _ => none
  | n + 1, e => F (zfix F n) e
def zN : Nat := 6000
def zjoin {α ρ : Type} (K : α → Option ρ) (F : (α → Option ρ) → Option ρ) : Option ρ := F K
theorem zjoin_of {α ρ : Type} {K : α → Option ρ} {F : (α → Option ρ) → Option ρ} {z : ρ} {G : Prop} (h : zjoin K F = some z) (c : ∀ k : α → Option ρ, (∀ a, k a = some z → K a = some z) → F k = some z → G) : G := c K (fun _ h => h) h
theorem zfix_ind {ε ρ : Type} {F : (ε → Option ρ) → ε → Option ρ} {z : ρ} (P : ε → Prop) (step : ∀ rc : ε → Option ρ, (∀ e, rc e = some z → P e) → ∀ e, F rc e = some z → P e) : ∀ n e, zfix F n e = some z → P e := by
  intro n
  induction n with
  | zero => intro e h; cases h
  | succ n ih => intro e h; exact step (zfix F n) ih e h
theorem zfix_indN {ε ρ : Type} {F : (ε → Option ρ) → ε → Option ρ} (P : Nat → ε → ρ → Prop) (step : ∀ n (rc : ε → Option ρ), (∀ e r, rc e = some r → P n e r) → ∀ e r, F rc e = some r → P (n + 1) e r) : ∀ n e r, zfix F n e = some r → P n e r := by
  intro n
  induction n with
  | zero => intro e r h; cases h
  | succ n ih => intro e r h; exact step n (zfix F n) ih e r h
theorem zV_topS {E : zE} {σ : Type} {wd : σ → va_W} {nL : Nat} {S : σ} {pc : Nat} {lv : List (Nat × Value)} {st : List Value} (k : ∀ S1 : σ, S1 = S → zV E wd nL S1 pc lv st) : zV E wd nL S pc lv st := k S rfl
theorem zne {x : Int32} (v : Int32) {n : Int} (hv : v.toInt = n) (h : ¬ x = v) : ¬ x.toInt = n := fun e => h (Int32.toInt_inj.mp (e.trans hv.symm))
