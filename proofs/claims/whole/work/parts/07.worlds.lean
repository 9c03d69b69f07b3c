/-! ===== the worlds: S.1 the int fields, S.2.1 the seed, S.2.2 the arrays (by number); q the object, ad the addresses ===== -/
abbrev zS : Type := (Nat → Int32) × Int64 × (Nat → Nat → Int32)
def zur (a : Nat → Nat → Int32) (k : Nat) (row : Nat → Int32) : Nat → Nat → Int32 := fun j => if j = k then row else a j
abbrev zty (cI cZ : ClassId) : List (ClassId × FieldType) := [(cI, .int), (cZ, .boolean)]
abbrev zin (i : Int32) (n : Nat) : Prop := ¬ (i < 0 ∨ n ≤ i.toNatClampNeg)
abbrev zb (v : Int32) : Prop := v = 0 ∨ v = 1
theorem znz {v : Int32} (h : zb v) : narrow .boolean (.int v) = .int v := by rcases h with rfl | rfl <;> rfl
def zlet {α β : Type} (a : α) (f : α → Option β) : Option β := f a
theorem zlet_of {α β : Type} {a y : α} {f : α → Option β} {z : β} (e : y = a) (h : zlet a f = some z) : f y = some z := by rw [e]; exact h
def zsum {ρ ε : Type} (y : ρ ⊕ ε) (f : ε → Option ρ) : Option ρ := match y with
  | .inl r => some r
  | .inr e => f e
def zNwL : List Cond := [.fieldLinkNest "LeggedThrough" 48 "LeggedThrough$Text" "length" "I" "LeggedThrough", .fieldLinkNest "LeggedThrough" 71 "LeggedThrough$Plan" "steps" "I" "LeggedThrough", .fieldLinkNest "LeggedThrough" 65 "LeggedThrough$Plan" "leggers" "I" "LeggedThrough", .fieldLinkNest "LeggedThrough" 68 "LeggedThrough$Plan" "boats" "I" "LeggedThrough", .fieldLinkNest "LeggedThrough" 100 "LeggedThrough$State" "tired" "I" "LeggedThrough", .fieldLinkNest "LeggedThrough" 74 "LeggedThrough$State" "through" "I" "LeggedThrough", .fieldLinkNest "LeggedThrough" 77 "LeggedThrough$State" "clock" "I" "LeggedThrough", .fieldLinkNest "LeggedThrough" 80 "LeggedThrough$Acts" "many" "I" "LeggedThrough", .methodLinkNest "LeggedThrough" 9 ⟨"LeggedThrough$Text", "<init>", "()V"⟩ "LeggedThrough", .methodLinkNest "LeggedThrough" 18 ⟨"LeggedThrough$Plan", "<init>", "()V"⟩ "LeggedThrough", .methodLinkNest "LeggedThrough" 25 ⟨"LeggedThrough$State", "<init>", "()V"⟩ "LeggedThrough", .methodLinkNest "LeggedThrough" 32 ⟨"LeggedThrough$Acts", "<init>", "()V"⟩ "LeggedThrough", .methodLinkNest "LeggedThrough$State" 24 ⟨"LeggedThrough", "groundIn", "(II)I"⟩ "LeggedThrough"]
def zNw (U : State) : Prop := ∀ w ∈ zNwL, va_Nw w U
theorem zNw_ok : zNwOk zNw := by
  constructor
  · intro u U h hu w hw
    have ht : ∀ w ∈ zNwL, w.onTables = true := by decide +kernel
    exact va_Nw.same (ht w hw) h.symm (hu w hw)
  · intro u U h hu w hw
    have hw2 := hu w hw
    simp only [zNwL, List.mem_cons, List.not_mem_nil, or_false] at hw
    rcases hw with rfl | rfl | rfl | rfl | rfl | rfl | rfl | rfl | rfl | rfl | rfl | rfl | rfl <;> first | exact va_Nw.warmF h hw2 | exact va_Nw.warmM h hw2
def mF (ad : Nat → Nat) (S : zS) : List Value := [.int (S.1 0), .ref (ad 1), .int (S.1 2), .int (S.1 3), .int (S.1 4), .int (S.1 5), .ref (ad 6), .int (S.1 7), .ref (ad 8), .int (S.1 9), .int (S.1 10), .ref (ad 11), .int (S.1 12), .ref (ad 13), .ref (ad 14), .ref (ad 15), .ref (ad 16), .ref (ad 17), .int (S.1 18), .ref (ad 19), .ref (ad 20), .int (S.1 21), .ref (ad 22), .ref (ad 23), .long S.2.1, .int (S.1 25), .int (S.1 26), .int (S.1 27), .int (S.1 28), .int (S.1 29), .int (S.1 30), .int (S.1 31), .int (S.1 32), .ref (ad 33), .ref (ad 34), .ref (ad 35), .int (S.1 36)]
def wM (cI cZ : ClassId) (q : Nat) (ad : Nat → Nat) (S : zS) : va_W := [(q, .inr (5, mF ad S)), (ad 1, .inl (cI, 40, .inl (S.2.2 1))), (ad 6, .inl (cI, 4, .inl (S.2.2 6))), (ad 8, .inl (cI, 3, .inl (S.2.2 8))), (ad 11, .inl (cI, 20, .inl (S.2.2 11))), (ad 13, .inl (cI, 3, .inl (S.2.2 13))), (ad 14, .inl (cI, 22, .inl (S.2.2 14))), (ad 15, .inl (cI, 22, .inl (S.2.2 15))), (ad 16, .inl (cI, 22, .inl (S.2.2 16))), (ad 17, .inl (cI, 308, .inl (S.2.2 17))), (ad 19, .inl (cI, 44, .inl (S.2.2 19))), (ad 20, .inl (cZ, 2, .inl (S.2.2 20))), (ad 22, .inl (cI, 6, .inl (S.2.2 22))), (ad 23, .inl (cI, 6, .inl (S.2.2 23))), (ad 33, .inl (cI, 16, .inl (S.2.2 33))), (ad 34, .inl (cI, 6, .inl (S.2.2 34))), (ad 35, .inl (cI, 6, .inl (S.2.2 35)))]
theorem wM_f0 (cI cZ : ClassId) (q : Nat) (ad : Nat → Nat) (S : zS) (x : Int32) : (wM cI cZ q ad S).set 0 (q, .inr (5, (mF ad S).set 0 (.int x))) = wM cI cZ q ad (upd S.1 0 x, S.2) := rfl
theorem wM_f2 (cI cZ : ClassId) (q : Nat) (ad : Nat → Nat) (S : zS) (x : Int32) : (wM cI cZ q ad S).set 0 (q, .inr (5, (mF ad S).set 2 (.int x))) = wM cI cZ q ad (upd S.1 2 x, S.2) := rfl
theorem wM_f3 (cI cZ : ClassId) (q : Nat) (ad : Nat → Nat) (S : zS) (x : Int32) : (wM cI cZ q ad S).set 0 (q, .inr (5, (mF ad S).set 3 (.int x))) = wM cI cZ q ad (upd S.1 3 x, S.2) := rfl
theorem wM_f4 (cI cZ : ClassId) (q : Nat) (ad : Nat → Nat) (S : zS) (x : Int32) : (wM cI cZ q ad S).set 0 (q, .inr (5, (mF ad S).set 4 (.int x))) = wM cI cZ q ad (upd S.1 4 x, S.2) := rfl
theorem wM_f5 (cI cZ : ClassId) (q : Nat) (ad : Nat → Nat) (S : zS) (x : Int32) : (wM cI cZ q ad S).set 0 (q, .inr (5, (mF ad S).set 5 (.int x))) = wM cI cZ q ad (upd S.1 5 x, S.2) := rfl
theorem wM_f7 (cI cZ : ClassId) (q : Nat) (ad : Nat → Nat) (S : zS) (x : Int32) : (wM cI cZ q ad S).set 0 (q, .inr (5, (mF ad S).set 7 (.int x))) = wM cI cZ q ad (upd S.1 7 x, S.2) := rfl
theorem wM_f9 (cI cZ : ClassId) (q : Nat) (ad : Nat → Nat) (S : zS) (x : Int32) : (wM cI cZ q ad S).set 0 (q, .inr (5, (mF ad S).set 9 (.int x))) = wM cI cZ q ad (upd S.1 9 x, S.2) := rfl
theorem wM_f10 (cI cZ : ClassId) (q : Nat) (ad : Nat → Nat) (S : zS) (x : Int32) : (wM cI cZ q ad S).set 0 (q, .inr (5, (mF ad S).set 10 (.int x))) = wM cI cZ q ad (upd S.1 10 x, S.2) := rfl
theorem wM_f12 (cI cZ : ClassId) (q : Nat) (ad : Nat → Nat) (S : zS) (x : Int32) : (wM cI cZ q ad S).set 0 (q, .inr (5, (mF ad S).set 12 (.int x))) = wM cI cZ q ad (upd S.1 12 x, S.2) := rfl
theorem wM_f18 (cI cZ : ClassId) (q : Nat) (ad : Nat → Nat) (S : zS) (x : Int32) : (wM cI cZ q ad S).set 0 (q, .inr (5, (mF ad S).set 18 (.int x))) = wM cI cZ q ad (upd S.1 18 x, S.2) := rfl
theorem wM_f21 (cI cZ : ClassId) (q : Nat) (ad : Nat → Nat) (S : zS) (x : Int32) : (wM cI cZ q ad S).set 0 (q, .inr (5, (mF ad S).set 21 (.int x))) = wM cI cZ q ad (upd S.1 21 x, S.2) := rfl
theorem wM_f24 (cI cZ : ClassId) (q : Nat) (ad : Nat → Nat) (S : zS) (x : Int64) : (wM cI cZ q ad S).set 0 (q, .inr (5, (mF ad S).set 24 (.long x))) = wM cI cZ q ad (S.1, x, S.2.2) := rfl
theorem wM_f25 (cI cZ : ClassId) (q : Nat) (ad : Nat → Nat) (S : zS) (x : Int32) : (wM cI cZ q ad S).set 0 (q, .inr (5, (mF ad S).set 25 (.int x))) = wM cI cZ q ad (upd S.1 25 x, S.2) := rfl
theorem wM_f26 (cI cZ : ClassId) (q : Nat) (ad : Nat → Nat) (S : zS) (x : Int32) : (wM cI cZ q ad S).set 0 (q, .inr (5, (mF ad S).set 26 (.int x))) = wM cI cZ q ad (upd S.1 26 x, S.2) := rfl
theorem wM_f27 (cI cZ : ClassId) (q : Nat) (ad : Nat → Nat) (S : zS) (x : Int32) : (wM cI cZ q ad S).set 0 (q, .inr (5, (mF ad S).set 27 (.int x))) = wM cI cZ q ad (upd S.1 27 x, S.2) := rfl
theorem wM_f28 (cI cZ : ClassId) (q : Nat) (ad : Nat → Nat) (S : zS) (x : Int32) : (wM cI cZ q ad S).set 0 (q, .inr (5, (mF ad S).set 28 (.int x))) = wM cI cZ q ad (upd S.1 28 x, S.2) := rfl
theorem wM_f29 (cI cZ : ClassId) (q : Nat) (ad : Nat → Nat) (S : zS) (x : Int32) : (wM cI cZ q ad S).set 0 (q, .inr (5, (mF ad S).set 29 (.int x))) = wM cI cZ q ad (upd S.1 29 x, S.2) := rfl
theorem wM_f30 (cI cZ : ClassId) (q : Nat) (ad : Nat → Nat) (S : zS) (x : Int32) : (wM cI cZ q ad S).set 0 (q, .inr (5, (mF ad S).set 30 (.int x))) = wM cI cZ q ad (upd S.1 30 x, S.2) := rfl
theorem wM_f31 (cI cZ : ClassId) (q : Nat) (ad : Nat → Nat) (S : zS) (x : Int32) : (wM cI cZ q ad S).set 0 (q, .inr (5, (mF ad S).set 31 (.int x))) = wM cI cZ q ad (upd S.1 31 x, S.2) := rfl
theorem wM_f32 (cI cZ : ClassId) (q : Nat) (ad : Nat → Nat) (S : zS) (x : Int32) : (wM cI cZ q ad S).set 0 (q, .inr (5, (mF ad S).set 32 (.int x))) = wM cI cZ q ad (upd S.1 32 x, S.2) := rfl
theorem wM_f36 (cI cZ : ClassId) (q : Nat) (ad : Nat → Nat) (S : zS) (x : Int32) : (wM cI cZ q ad S).set 0 (q, .inr (5, (mF ad S).set 36 (.int x))) = wM cI cZ q ad (upd S.1 36 x, S.2) := rfl
theorem wM_a1 (cI cZ : ClassId) (q : Nat) (ad : Nat → Nat) (S : zS) (r : Nat → Int32) : (wM cI cZ q ad S).set 1 (ad 1, .inl (cI, 40, .inl r)) = wM cI cZ q ad (S.1, S.2.1, zur S.2.2 1 r) := rfl
theorem wM_a6 (cI cZ : ClassId) (q : Nat) (ad : Nat → Nat) (S : zS) (r : Nat → Int32) : (wM cI cZ q ad S).set 2 (ad 6, .inl (cI, 4, .inl r)) = wM cI cZ q ad (S.1, S.2.1, zur S.2.2 6 r) := rfl
theorem wM_a8 (cI cZ : ClassId) (q : Nat) (ad : Nat → Nat) (S : zS) (r : Nat → Int32) : (wM cI cZ q ad S).set 3 (ad 8, .inl (cI, 3, .inl r)) = wM cI cZ q ad (S.1, S.2.1, zur S.2.2 8 r) := rfl
theorem wM_a11 (cI cZ : ClassId) (q : Nat) (ad : Nat → Nat) (S : zS) (r : Nat → Int32) : (wM cI cZ q ad S).set 4 (ad 11, .inl (cI, 20, .inl r)) = wM cI cZ q ad (S.1, S.2.1, zur S.2.2 11 r) := rfl
theorem wM_a13 (cI cZ : ClassId) (q : Nat) (ad : Nat → Nat) (S : zS) (r : Nat → Int32) : (wM cI cZ q ad S).set 5 (ad 13, .inl (cI, 3, .inl r)) = wM cI cZ q ad (S.1, S.2.1, zur S.2.2 13 r) := rfl
theorem wM_a14 (cI cZ : ClassId) (q : Nat) (ad : Nat → Nat) (S : zS) (r : Nat → Int32) : (wM cI cZ q ad S).set 6 (ad 14, .inl (cI, 22, .inl r)) = wM cI cZ q ad (S.1, S.2.1, zur S.2.2 14 r) := rfl
theorem wM_a15 (cI cZ : ClassId) (q : Nat) (ad : Nat → Nat) (S : zS) (r : Nat → Int32) : (wM cI cZ q ad S).set 7 (ad 15, .inl (cI, 22, .inl r)) = wM cI cZ q ad (S.1, S.2.1, zur S.2.2 15 r) := rfl
theorem wM_a16 (cI cZ : ClassId) (q : Nat) (ad : Nat → Nat) (S : zS) (r : Nat → Int32) : (wM cI cZ q ad S).set 8 (ad 16, .inl (cI, 22, .inl r)) = wM cI cZ q ad (S.1, S.2.1, zur S.2.2 16 r) := rfl
theorem wM_a17 (cI cZ : ClassId) (q : Nat) (ad : Nat → Nat) (S : zS) (r : Nat → Int32) : (wM cI cZ q ad S).set 9 (ad 17, .inl (cI, 308, .inl r)) = wM cI cZ q ad (S.1, S.2.1, zur S.2.2 17 r) := rfl
theorem wM_a19 (cI cZ : ClassId) (q : Nat) (ad : Nat → Nat) (S : zS) (r : Nat → Int32) : (wM cI cZ q ad S).set 10 (ad 19, .inl (cI, 44, .inl r)) = wM cI cZ q ad (S.1, S.2.1, zur S.2.2 19 r) := rfl
theorem wM_a20 (cI cZ : ClassId) (q : Nat) (ad : Nat → Nat) (S : zS) (r : Nat → Int32) : (wM cI cZ q ad S).set 11 (ad 20, .inl (cZ, 2, .inl r)) = wM cI cZ q ad (S.1, S.2.1, zur S.2.2 20 r) := rfl
theorem wM_a22 (cI cZ : ClassId) (q : Nat) (ad : Nat → Nat) (S : zS) (r : Nat → Int32) : (wM cI cZ q ad S).set 12 (ad 22, .inl (cI, 6, .inl r)) = wM cI cZ q ad (S.1, S.2.1, zur S.2.2 22 r) := rfl
theorem wM_a23 (cI cZ : ClassId) (q : Nat) (ad : Nat → Nat) (S : zS) (r : Nat → Int32) : (wM cI cZ q ad S).set 13 (ad 23, .inl (cI, 6, .inl r)) = wM cI cZ q ad (S.1, S.2.1, zur S.2.2 23 r) := rfl
theorem wM_a33 (cI cZ : ClassId) (q : Nat) (ad : Nat → Nat) (S : zS) (r : Nat → Int32) : (wM cI cZ q ad S).set 14 (ad 33, .inl (cI, 16, .inl r)) = wM cI cZ q ad (S.1, S.2.1, zur S.2.2 33 r) := rfl
theorem wM_a34 (cI cZ : ClassId) (q : Nat) (ad : Nat → Nat) (S : zS) (r : Nat → Int32) : (wM cI cZ q ad S).set 15 (ad 34, .inl (cI, 6, .inl r)) = wM cI cZ q ad (S.1, S.2.1, zur S.2.2 34 r) := rfl
theorem wM_a35 (cI cZ : ClassId) (q : Nat) (ad : Nat → Nat) (S : zS) (r : Nat → Int32) : (wM cI cZ q ad S).set 16 (ad 35, .inl (cI, 6, .inl r)) = wM cI cZ q ad (S.1, S.2.1, zur S.2.2 35 r) := rfl
abbrev mok (k : Nat) : Prop := k = 14 ∨ k = 15 ∨ k = 16
theorem wM_at (cI cZ : ClassId) (q : Nat) (ad : Nat → Nat) (S : zS) {k : Nat} (hk : mok k) : (wM cI cZ q ad S)[k - 8]? = some (ad k, .inl (cI, 22, .inl (S.2.2 k))) := by rcases hk with rfl | rfl | rfl <;> rfl
theorem wM_as (cI cZ : ClassId) (q : Nat) (ad : Nat → Nat) (S : zS) {k : Nat} (hk : mok k) (r : Nat → Int32) : (wM cI cZ q ad S).set (k - 8) (ad k, .inl (cI, 22, .inl r)) = wM cI cZ q ad (S.1, S.2.1, zur S.2.2 k r) := by rcases hk with rfl | rfl | rfl <;> rfl
def xF (ad : Nat → Nat) (S : zS) : List Value := [.ref (ad 0), .ref (ad 1), .ref (ad 2), .ref (ad 3), .ref (ad 4), .ref (ad 5), .int (S.1 6), .int (S.1 7), .int (S.1 8), .long S.2.1]
def xT (ad : Nat → Nat) (S : zS) : List Value := [.ref (ad 6), .int (S.1 9)]
def xP (S : zS) : List Value := [.int (S.1 10), .int (S.1 11), .int (S.1 12), .int (S.1 13), .int (S.1 14)]
def xS (S : zS) : List Value := [.int (S.1 15), .int (S.1 16), .int (S.1 17), .int (S.1 18)]
def xA (ad : Nat → Nat) (S : zS) : List Value := [.ref (ad 7), .int (S.1 19), .int (S.1 20)]
def wC (cI : ClassId) (q : Nat) (ad : Nat → Nat) (S : zS) : va_W := [(q, .inr (4, xF ad S)), (ad 0, .inr (3, xT ad S)), (ad 1, .inr (1, xP S)), (ad 2, .inr (2, xS S)), (ad 3, .inr (0, xA ad S)), (ad 4, .inl (cI, 8, .inl (S.2.2 4))), (ad 5, .inl (cI, 4, .inl (S.2.2 5))), (ad 6, .inl (cI, 40, .inl (S.2.2 6))), (ad 7, .inl (cI, 56, .inl (S.2.2 7)))]
theorem wC_f6 (cI : ClassId) (q : Nat) (ad : Nat → Nat) (S : zS) (x : Int32) : (wC cI q ad S).set 0 (q, .inr (4, (xF ad S).set 6 (.int x))) = wC cI q ad (upd S.1 6 x, S.2) := rfl
theorem wC_f7 (cI : ClassId) (q : Nat) (ad : Nat → Nat) (S : zS) (x : Int32) : (wC cI q ad S).set 0 (q, .inr (4, (xF ad S).set 7 (.int x))) = wC cI q ad (upd S.1 7 x, S.2) := rfl
theorem wC_f8 (cI : ClassId) (q : Nat) (ad : Nat → Nat) (S : zS) (x : Int32) : (wC cI q ad S).set 0 (q, .inr (4, (xF ad S).set 8 (.int x))) = wC cI q ad (upd S.1 8 x, S.2) := rfl
theorem wC_f9 (cI : ClassId) (q : Nat) (ad : Nat → Nat) (S : zS) (x : Int32) : (wC cI q ad S).set 1 (ad 0, .inr (3, (xT ad S).set 1 (.int x))) = wC cI q ad (upd S.1 9 x, S.2) := rfl
theorem wC_f10 (cI : ClassId) (q : Nat) (ad : Nat → Nat) (S : zS) (x : Int32) : (wC cI q ad S).set 2 (ad 1, .inr (1, (xP S).set 0 (.int x))) = wC cI q ad (upd S.1 10 x, S.2) := rfl
theorem wC_f11 (cI : ClassId) (q : Nat) (ad : Nat → Nat) (S : zS) (x : Int32) : (wC cI q ad S).set 2 (ad 1, .inr (1, (xP S).set 1 (.int x))) = wC cI q ad (upd S.1 11 x, S.2) := rfl
theorem wC_f12 (cI : ClassId) (q : Nat) (ad : Nat → Nat) (S : zS) (x : Int32) : (wC cI q ad S).set 2 (ad 1, .inr (1, (xP S).set 2 (.int x))) = wC cI q ad (upd S.1 12 x, S.2) := rfl
theorem wC_f13 (cI : ClassId) (q : Nat) (ad : Nat → Nat) (S : zS) (x : Int32) : (wC cI q ad S).set 2 (ad 1, .inr (1, (xP S).set 3 (.int x))) = wC cI q ad (upd S.1 13 x, S.2) := rfl
theorem wC_f14 (cI : ClassId) (q : Nat) (ad : Nat → Nat) (S : zS) (x : Int32) : (wC cI q ad S).set 2 (ad 1, .inr (1, (xP S).set 4 (.int x))) = wC cI q ad (upd S.1 14 x, S.2) := rfl
theorem wC_f15 (cI : ClassId) (q : Nat) (ad : Nat → Nat) (S : zS) (x : Int32) : (wC cI q ad S).set 3 (ad 2, .inr (2, (xS S).set 0 (.int x))) = wC cI q ad (upd S.1 15 x, S.2) := rfl
theorem wC_f16 (cI : ClassId) (q : Nat) (ad : Nat → Nat) (S : zS) (x : Int32) : (wC cI q ad S).set 3 (ad 2, .inr (2, (xS S).set 1 (.int x))) = wC cI q ad (upd S.1 16 x, S.2) := rfl
theorem wC_f17 (cI : ClassId) (q : Nat) (ad : Nat → Nat) (S : zS) (x : Int32) : (wC cI q ad S).set 3 (ad 2, .inr (2, (xS S).set 2 (.int x))) = wC cI q ad (upd S.1 17 x, S.2) := rfl
theorem wC_f18 (cI : ClassId) (q : Nat) (ad : Nat → Nat) (S : zS) (x : Int32) : (wC cI q ad S).set 3 (ad 2, .inr (2, (xS S).set 3 (.int x))) = wC cI q ad (upd S.1 18 x, S.2) := rfl
theorem wC_f19 (cI : ClassId) (q : Nat) (ad : Nat → Nat) (S : zS) (x : Int32) : (wC cI q ad S).set 4 (ad 3, .inr (0, (xA ad S).set 1 (.int x))) = wC cI q ad (upd S.1 19 x, S.2) := rfl
theorem wC_f20 (cI : ClassId) (q : Nat) (ad : Nat → Nat) (S : zS) (x : Int32) : (wC cI q ad S).set 4 (ad 3, .inr (0, (xA ad S).set 2 (.int x))) = wC cI q ad (upd S.1 20 x, S.2) := rfl
theorem wC_f100 (cI : ClassId) (q : Nat) (ad : Nat → Nat) (S : zS) (x : Int64) : (wC cI q ad S).set 0 (q, .inr (4, (xF ad S).set 9 (.long x))) = wC cI q ad (S.1, x, S.2.2) := rfl
theorem wC_a4 (cI : ClassId) (q : Nat) (ad : Nat → Nat) (S : zS) (r : Nat → Int32) : (wC cI q ad S).set 5 (ad 4, .inl (cI, 8, .inl r)) = wC cI q ad (S.1, S.2.1, zur S.2.2 4 r) := rfl
theorem wC_a5 (cI : ClassId) (q : Nat) (ad : Nat → Nat) (S : zS) (r : Nat → Int32) : (wC cI q ad S).set 6 (ad 5, .inl (cI, 4, .inl r)) = wC cI q ad (S.1, S.2.1, zur S.2.2 5 r) := rfl
theorem wC_a6 (cI : ClassId) (q : Nat) (ad : Nat → Nat) (S : zS) (r : Nat → Int32) : (wC cI q ad S).set 7 (ad 6, .inl (cI, 40, .inl r)) = wC cI q ad (S.1, S.2.1, zur S.2.2 6 r) := rfl
theorem wC_a7 (cI : ClassId) (q : Nat) (ad : Nat → Nat) (S : zS) (r : Nat → Int32) : (wC cI q ad S).set 8 (ad 7, .inl (cI, 56, .inl r)) = wC cI q ad (S.1, S.2.1, zur S.2.2 7 r) := rfl
abbrev xok (k : Nat) : Prop := k = 4 ∨ k = 5 ∨ k = 7
def xlen (k : Nat) : Nat := if k = 4 then 8 else if k = 5 then 4 else 56
theorem wC_at (cI : ClassId) (q : Nat) (ad : Nat → Nat) (S : zS) {k : Nat} (hk : xok k) : (wC cI q ad S)[k + 1]? = some (ad k, .inl (cI, xlen k, .inl (S.2.2 k))) := by rcases hk with rfl | rfl | rfl <;> rfl
theorem wC_as (cI : ClassId) (q : Nat) (ad : Nat → Nat) (S : zS) {k : Nat} (hk : xok k) (r : Nat → Int32) : (wC cI q ad S).set (k + 1) (ad k, .inl (cI, xlen k, .inl r)) = wC cI q ad (S.1, S.2.1, zur S.2.2 k r) := by rcases hk with rfl | rfl | rfl <;> rfl
theorem zV_topi {E : zE} {σ : Type} {wd : σ → va_W} {nL : Nat} {S : σ} {pc : Nat} {lv : List (Nat × Value)} {st : List Value} {x : Int32} (k : ∀ y : Int32, y = x → zV E wd nL S pc lv (.int y :: st)) : zV E wd nL S pc lv (.int x :: st) := k x rfl
theorem zV_topl {E : zE} {σ : Type} {wd : σ → va_W} {nL : Nat} {S : σ} {pc : Nat} {lv : List (Nat × Value)} {st : List Value} {x : Int64} (k : ∀ y : Int64, y = x → zV E wd nL S pc lv (.long y :: st)) : zV E wd nL S pc lv (.long x :: st) := k x rfl
