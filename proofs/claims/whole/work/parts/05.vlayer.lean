/-! ===== zV: from the abstract state S, at pc, with the locals lv and the stack st, the machine comes to Q; a row an instruction over it ===== -/
abbrev zE : Type := Program × Launch × Env × Room × State × MethodId × Array Value × List Frame × Method × Code × (State → Prop) × va_G × (Nat → Prop)
def ep (E : zE) : Program := E.1
def el (E : zE) : Launch := E.2.1
def ee (E : zE) : Env := E.2.2.1
def eR (E : zE) : Room := E.2.2.2.1
def es (E : zE) : State := E.2.2.2.2.1
def em (E : zE) : MethodId := E.2.2.2.2.2.1
def ea (E : zE) : Array Value := E.2.2.2.2.2.2.1
def eb (E : zE) : List Frame := E.2.2.2.2.2.2.2.1
def et (E : zE) : Method := E.2.2.2.2.2.2.2.2.1
def ec (E : zE) : Code := E.2.2.2.2.2.2.2.2.2.1
def eQ (E : zE) : State → Prop := E.2.2.2.2.2.2.2.2.2.2.1
def eD (E : zE) : va_G := E.2.2.2.2.2.2.2.2.2.2.2.1
def eA (E : zE) : Nat → Prop := E.2.2.2.2.2.2.2.2.2.2.2.2
def zV (E : zE) {σ : Type} (wd : σ → va_W) (nL : Nat) (S : σ) (pc : Nat) (lv : List (Nat × Value)) (st : List Value) : Prop :=
  ∀ (H : Heap) (locs : List Loc) (ls : Array Slot), va_P (eD E) vwCl (wd S) H → va_D (eA E) (wd S) → va_S (eA E) (es E).heap H locs → lv_has ls nL lv → W (ep E) (el E) (ee E) (eR E) (es E) (em E) (ea E) (eb E) (et E) (ec E) H locs 0 0 (eQ E) (F0 (em E) pc ls st)
def zNwOk (Nw : State → Prop) : Prop := (∀ u U : State, U.vm = u.vm → Nw u → Nw U) ∧ (∀ u U : State, u.WarmedH U.vm → Nw u → Nw U)
def zCx (E : zE) (rm : Room) (cc : ByteArray) (nL : Nat) (own : String) (Ts : List Cond) (tys : List (ClassId × FieldType)) (Nw : State → Prop) : Prop :=
  (ep E).tables.exec = Jvm.exec ∧ (ec E).code = cc ∧ (ec E).maxLocals = nL ∧ (es E).vm.findClass own = some (em E).cls ∧ (∀ w ∈ Ts, w.before (ea E) (es E) = true) ∧ va_K (eD E) vwCl tys (es E) ∧ (∀ q : Nat, (es E).heap.size ≤ q → eA E q) ∧ Nw (es E) ∧ zNwOk Nw ∧ eR E = rm
def zrem (x y : Int32) : Int32 := x - x / y * y
def zremL (x y : Int64) : Int64 := x - x / y * y
def zshl (x y : Int32) : Int32 := x <<< (y &&& 31)
def zshr (x y : Int32) : Int32 := x >>> (y &&& 31)
def zushr (x y : Int32) : Int32 := (x.toUInt32 >>> (y.toUInt32 &&& Int32.toUInt32 31)).toInt32
def zshlL (x : Int64) (y : Int32) : Int64 := x <<< (y.toInt64 &&& 63)
def zushrL (x : Int64) (y : Int32) : Int64 := (x.toUInt64 >>> (y.toInt64.toUInt64 &&& Int64.toUInt64 63)).toInt64
/-- behind a guard, a branch, a call of the pure program -/
def gd {α : Type} (c : Prop) [Decidable c] (k : Option α) : Option α := if c then k else none
theorem gd_of {α : Type} {c : Prop} [Decidable c] {k : Option α} {z : α} (h : gd c k = some z) : c ∧ k = some z := by
  unfold gd at h
  by_cases hc : c
  · rw [if_pos hc] at h; exact ⟨hc, h⟩
  · rw [if_neg hc] at h; cases h
theorem gd_pos {α : Type} {c : Prop} [Decidable c] {k : Option α} (hc : c) : gd c k = k := if_pos hc
theorem ob_of {α β : Type} {x : Option α} {f : α → Option β} {z : β} (h : x.bind f = some z) : ∃ a, x = some a ∧ f a = some z := by
  cases x with
  | none => cases h
  | some a => exact ⟨a, rfl, h⟩
theorem if_t {α : Type} {c : Prop} [Decidable c] {a b : Option α} {z : α} (hc : c) (h : (if c then a else b) = some z) : a = some z := by rw [if_pos hc] at h; exact h
theorem if_f {α : Type} {c : Prop} [Decidable c] {a b : Option α} {z : α} (hc : ¬ c) (h : (if c then a else b) = some z) : b = some z := by rw [if_neg hc] at h; exact h
section ZV
variable {E : zE} {rm : Room} {σ : Type} {wd : σ → va_W} {nL : Nat} {S : σ} {pc n tgt : Nat} {lv : List (Nat × Value)} {st : List Value} {cc : ByteArray} {own : String} {Ts : List Cond} {tys : List (ClassId × FieldType)} {Nw : State → Prop}
theorem zV_iconst (C0 : zCx E rm cc nL own Ts tys Nw) {i : Int} {v : Int32} (hdg : decode cc pc = .ok (.iconst i, 1)) (hv : Int32.ofInt i = v) (hn : pc + 1 = n) (k : zV E wd nL S n lv (.int v :: st)) : zV E wd nL S pc lv (st) := by
  subst hn; exact fun H locs ls hP hD hS hl => lv_iconst C0.1 C0.2.1 hdg hv (k H locs ls hP hD hS hl)
theorem zV_bipush (C0 : zCx E rm cc nL own Ts tys Nw) {i : Int} {v : Int32} (hdg : decode cc pc = .ok (.bipush i, 2)) (hv : (Int8.ofInt i).toInt32 = v) (hn : pc + 2 = n) (k : zV E wd nL S n lv (.int v :: st)) : zV E wd nL S pc lv (st) := by
  subst hn; exact fun H locs ls hP hD hS hl => lv_bipush C0.1 C0.2.1 hdg hv (k H locs ls hP hD hS hl)
theorem zV_sipush (C0 : zCx E rm cc nL own Ts tys Nw) {i : Int} {v : Int32} (hdg : decode cc pc = .ok (.sipush i, 3)) (hv : (Int16.ofInt i).toInt32 = v) (hn : pc + 3 = n) (k : zV E wd nL S n lv (.int v :: st)) : zV E wd nL S pc lv (st) := by
  subst hn; exact fun H locs ls hP hD hS hl => lv_sipush C0.1 C0.2.1 hdg hv (k H locs ls hP hD hS hl)
theorem zV_lconst (C0 : zCx E rm cc nL own Ts tys Nw) {i : Fin 2} {v : Int64} (hdg : decode cc pc = .ok (.lconst i, 1)) (hv : Int64.ofNat (i : Nat) = v) (hn : pc + 1 = n) (k : zV E wd nL S n lv (.long v :: st)) : zV E wd nL S pc lv (st) := by
  subst hn; exact fun H locs ls hP hD hS hl => lv_lconst C0.1 C0.2.1 hdg hv (k H locs ls hP hD hS hl)
theorem zV_ldcw (C0 : zCx E rm cc nL own Ts tys Nw) {idx : Nat} {v : Int32} (hdg : decode cc pc = .ok (.ldc_w idx, 3)) (hw : Cond.constant own idx v ∈ Ts) (hn : pc + 3 = n) (k : zV E wd nL S n lv (.int v :: st)) : zV E wd nL S pc lv (st) := by
  subst hn; exact fun H locs ls hP hD hS hl => lv_ldcw C0.1 C0.2.1 C0.2.2.2.1 (C0.2.2.2.2.1 _ hw) hdg (k H locs ls hP hD hS hl)
theorem zV_ldc2 (C0 : zCx E rm cc nL own Ts tys Nw) {idx : Nat} {v : Int64} (hdg : decode cc pc = .ok (.ldc2_w idx, 3)) (hw : Cond.constantLong own idx v ∈ Ts) (hn : pc + 3 = n) (k : zV E wd nL S n lv (.long v :: st)) : zV E wd nL S pc lv (st) := by
  subst hn; exact fun H locs ls hP hD hS hl => lv_ldc2 C0.1 C0.2.1 C0.2.2.2.1 (C0.2.2.2.2.1 _ hw) hdg (k H locs ls hP hD hS hl)
theorem zV_iload_n (C0 : zCx E rm cc nL own Ts tys Nw) (j : Nat) {i : Fin 4} {x : Int32} (hdg : decode cc pc = .ok (.iload_n i, 1)) (hj : lv[j]? = some ((i : Nat), .int x)) (hn : pc + 1 = n) (k : zV E wd nL S n lv (.int x :: st)) : zV E wd nL S pc lv (st) := by
  subst hn; exact fun H locs ls hP hD hS hl => lv_iload_n C0.1 C0.2.1 hdg rfl (lv_at hl j hj) (k H locs ls hP hD hS hl)
theorem zV_iload (C0 : zCx E rm cc nL own Ts tys Nw) (j : Nat) {i : Nat} {x : Int32} (hdg : decode cc pc = .ok (.iload i, 2)) (hj : lv[j]? = some (i, .int x)) (hn : pc + 2 = n) (k : zV E wd nL S n lv (.int x :: st)) : zV E wd nL S pc lv (st) := by
  subst hn; exact fun H locs ls hP hD hS hl => lv_iload C0.1 C0.2.1 hdg (lv_at hl j hj) (k H locs ls hP hD hS hl)
theorem zV_lload_n (C0 : zCx E rm cc nL own Ts tys Nw) (j : Nat) {i : Fin 4} {x : Int64} (hdg : decode cc pc = .ok (.lload_n i, 1)) (hj : lv[j]? = some ((i : Nat), .long x)) (hn : pc + 1 = n) (k : zV E wd nL S n lv (.long x :: st)) : zV E wd nL S pc lv (st) := by
  subst hn; exact fun H locs ls hP hD hS hl => lv_lload_n C0.1 C0.2.1 hdg rfl (lv_at hl j hj) (k H locs ls hP hD hS hl)
theorem zV_lload (C0 : zCx E rm cc nL own Ts tys Nw) (j : Nat) {i : Nat} {x : Int64} (hdg : decode cc pc = .ok (.lload i, 2)) (hj : lv[j]? = some (i, .long x)) (hn : pc + 2 = n) (k : zV E wd nL S n lv (.long x :: st)) : zV E wd nL S pc lv (st) := by
  subst hn; exact fun H locs ls hP hD hS hl => lv_lload C0.1 C0.2.1 hdg (lv_at hl j hj) (k H locs ls hP hD hS hl)
theorem zV_aload_n (C0 : zCx E rm cc nL own Ts tys Nw) (j : Nat) {i : Fin 4} {x : Nat} (hdg : decode cc pc = .ok (.aload_n i, 1)) (hj : lv[j]? = some ((i : Nat), .ref x)) (hn : pc + 1 = n) (k : zV E wd nL S n lv (.ref x :: st)) : zV E wd nL S pc lv (st) := by
  subst hn; exact fun H locs ls hP hD hS hl => lv_aload_n C0.1 C0.2.1 hdg rfl (lv_at hl j hj) (k H locs ls hP hD hS hl)
theorem zV_aload (C0 : zCx E rm cc nL own Ts tys Nw) (j : Nat) {i : Nat} {x : Nat} (hdg : decode cc pc = .ok (.aload i, 2)) (hj : lv[j]? = some (i, .ref x)) (hn : pc + 2 = n) (k : zV E wd nL S n lv (.ref x :: st)) : zV E wd nL S pc lv (st) := by
  subst hn; exact fun H locs ls hP hD hS hl => lv_aload C0.1 C0.2.1 hdg (lv_at hl j hj) (k H locs ls hP hD hS hl)
theorem zV_istore_n (C0 : zCx E rm cc nL own Ts tys Nw) {i0 : Fin 4} {i : Nat} {x : Int32} (lv2 : List (Nat × Value)) (hdg : decode cc pc = .ok (.istore_n i0, 1)) (hi : (i0 : Nat) = i) (hw : (i, Value.int x) :: lv.filter (fun q : Nat × Value => !(q.1 == i) && !(q.1 + 1 == i && q.2.category == 2)) = lv2) (hb : i < nL) (hn : pc + 1 = n) (k : zV E wd nL S n lv2 (st)) : zV E wd nL S pc lv (.int x :: st) := by
  subst hn; exact fun H locs ls hP hD hS hl => lv_istore_n C0.1 C0.2.1 hdg hi hl hb hw (fun ls2 hl2 => k H locs ls2 hP hD hS hl2)
theorem zV_istore (C0 : zCx E rm cc nL own Ts tys Nw)  {i : Nat} {x : Int32} (lv2 : List (Nat × Value)) (hdg : decode cc pc = .ok (.istore i, 2)) (hw : (i, Value.int x) :: lv.filter (fun q : Nat × Value => !(q.1 == i) && !(q.1 + 1 == i && q.2.category == 2)) = lv2) (hb : i < nL) (hn : pc + 2 = n) (k : zV E wd nL S n lv2 (st)) : zV E wd nL S pc lv (.int x :: st) := by
  subst hn; exact fun H locs ls hP hD hS hl => lv_istore C0.1 C0.2.1 hdg hl hb hw (fun ls2 hl2 => k H locs ls2 hP hD hS hl2)
theorem zV_lstore_n (C0 : zCx E rm cc nL own Ts tys Nw) {i0 : Fin 4} {i : Nat} {x : Int64} (lv2 : List (Nat × Value)) (hdg : decode cc pc = .ok (.lstore_n i0, 1)) (hi : (i0 : Nat) = i) (hw : (i, Value.long x) :: lv.filter (fun q : Nat × Value => !(q.1 == i) && (!(q.1 == i + 1) && !(q.1 + 1 == i && q.2.category == 2))) = lv2) (hb : i + 1 < nL) (hn : pc + 1 = n) (k : zV E wd nL S n lv2 (st)) : zV E wd nL S pc lv (.long x :: st) := by
  subst hn; exact fun H locs ls hP hD hS hl => lv_lstore_n C0.1 C0.2.1 hdg hi hl hb hw (fun ls2 hl2 => k H locs ls2 hP hD hS hl2)
theorem zV_lstore (C0 : zCx E rm cc nL own Ts tys Nw)  {i : Nat} {x : Int64} (lv2 : List (Nat × Value)) (hdg : decode cc pc = .ok (.lstore i, 2)) (hw : (i, Value.long x) :: lv.filter (fun q : Nat × Value => !(q.1 == i) && (!(q.1 == i + 1) && !(q.1 + 1 == i && q.2.category == 2))) = lv2) (hb : i + 1 < nL) (hn : pc + 2 = n) (k : zV E wd nL S n lv2 (st)) : zV E wd nL S pc lv (.long x :: st) := by
  subst hn; exact fun H locs ls hP hD hS hl => lv_lstore C0.1 C0.2.1 hdg hl hb hw (fun ls2 hl2 => k H locs ls2 hP hD hS hl2)
theorem zV_astore_n (C0 : zCx E rm cc nL own Ts tys Nw) {i0 : Fin 4} {i : Nat} {x : Nat} (lv2 : List (Nat × Value)) (hdg : decode cc pc = .ok (.astore_n i0, 1)) (hi : (i0 : Nat) = i) (hw : (i, Value.ref x) :: lv.filter (fun q : Nat × Value => !(q.1 == i) && !(q.1 + 1 == i && q.2.category == 2)) = lv2) (hb : i < nL) (hn : pc + 1 = n) (k : zV E wd nL S n lv2 (st)) : zV E wd nL S pc lv (.ref x :: st) := by
  subst hn; exact fun H locs ls hP hD hS hl => lv_astore_n C0.1 C0.2.1 hdg hi hl hb hw (fun ls2 hl2 => k H locs ls2 hP hD hS hl2)
theorem zV_astore (C0 : zCx E rm cc nL own Ts tys Nw)  {i : Nat} {x : Nat} (lv2 : List (Nat × Value)) (hdg : decode cc pc = .ok (.astore i, 2)) (hw : (i, Value.ref x) :: lv.filter (fun q : Nat × Value => !(q.1 == i) && !(q.1 + 1 == i && q.2.category == 2)) = lv2) (hb : i < nL) (hn : pc + 2 = n) (k : zV E wd nL S n lv2 (st)) : zV E wd nL S pc lv (.ref x :: st) := by
  subst hn; exact fun H locs ls hP hD hS hl => lv_astore C0.1 C0.2.1 hdg hl hb hw (fun ls2 hl2 => k H locs ls2 hP hD hS hl2)
theorem zV_iinc (C0 : zCx E rm cc nL own Ts tys Nw) {i : Nat} (j : Nat) {b : Int} {x v : Int32} (lv2 : List (Nat × Value)) (hdg : decode cc pc = .ok (.iinc i b, 3)) (hj : lv[j]? = some (i, .int x)) (hv : x + Int32.ofInt b = v) (hw : (i, Value.int v) :: lv.filter (fun q : Nat × Value => !(q.1 == i) && !(q.1 + 1 == i && q.2.category == 2)) = lv2) (hb : i < nL) (hn : pc + 3 = n) (k : zV E wd nL S n lv2 (st)) : zV E wd nL S pc lv (st) := by
  subst hn; exact fun H locs ls hP hD hS hl => lv_iinc C0.1 C0.2.1 hdg hl hj hv hb hw (fun ls2 hl2 => k H locs ls2 hP hD hS hl2)
theorem zV_iadd (C0 : zCx E rm cc nL own Ts tys Nw) {x y : Int32} (hdg : decode cc pc = .ok (.iadd, 1)) (hn : pc + 1 = n) (k : zV E wd nL S n lv (.int (x + y) :: st)) : zV E wd nL S pc lv (.int y :: .int x :: st) := by
  subst hn; exact fun H locs ls hP hD hS hl => lv_iadd C0.1 C0.2.1 hdg (k H locs ls hP hD hS hl)
theorem zV_isub (C0 : zCx E rm cc nL own Ts tys Nw) {x y : Int32} (hdg : decode cc pc = .ok (.isub, 1)) (hn : pc + 1 = n) (k : zV E wd nL S n lv (.int (x - y) :: st)) : zV E wd nL S pc lv (.int y :: .int x :: st) := by
  subst hn; exact fun H locs ls hP hD hS hl => lv_isub C0.1 C0.2.1 hdg (k H locs ls hP hD hS hl)
theorem zV_imul (C0 : zCx E rm cc nL own Ts tys Nw) {x y : Int32} (hdg : decode cc pc = .ok (.imul, 1)) (hn : pc + 1 = n) (k : zV E wd nL S n lv (.int (x * y) :: st)) : zV E wd nL S pc lv (.int y :: .int x :: st) := by
  subst hn; exact fun H locs ls hP hD hS hl => lv_imul C0.1 C0.2.1 hdg (k H locs ls hP hD hS hl)
theorem zV_iand (C0 : zCx E rm cc nL own Ts tys Nw) {x y : Int32} (hdg : decode cc pc = .ok (.iand, 1)) (hn : pc + 1 = n) (k : zV E wd nL S n lv (.int (x &&& y) :: st)) : zV E wd nL S pc lv (.int y :: .int x :: st) := by
  subst hn; exact fun H locs ls hP hD hS hl => lv_iand C0.1 C0.2.1 hdg (k H locs ls hP hD hS hl)
theorem zV_ior (C0 : zCx E rm cc nL own Ts tys Nw) {x y : Int32} (hdg : decode cc pc = .ok (.ior, 1)) (hn : pc + 1 = n) (k : zV E wd nL S n lv (.int (x ||| y) :: st)) : zV E wd nL S pc lv (.int y :: .int x :: st) := by
  subst hn; exact fun H locs ls hP hD hS hl => lv_ior C0.1 C0.2.1 hdg (k H locs ls hP hD hS hl)
theorem zV_ixor (C0 : zCx E rm cc nL own Ts tys Nw) {x y : Int32} (hdg : decode cc pc = .ok (.ixor, 1)) (hn : pc + 1 = n) (k : zV E wd nL S n lv (.int (x ^^^ y) :: st)) : zV E wd nL S pc lv (.int y :: .int x :: st) := by
  subst hn; exact fun H locs ls hP hD hS hl => lv_ixor C0.1 C0.2.1 hdg (k H locs ls hP hD hS hl)
theorem zV_ishl (C0 : zCx E rm cc nL own Ts tys Nw) {x y : Int32} (hdg : decode cc pc = .ok (.ishl, 1)) (hn : pc + 1 = n) (k : zV E wd nL S n lv (.int (zshl x y) :: st)) : zV E wd nL S pc lv (.int y :: .int x :: st) := by
  subst hn; exact fun H locs ls hP hD hS hl => lv_ishl C0.1 C0.2.1 hdg (k H locs ls hP hD hS hl)
theorem zV_ishr (C0 : zCx E rm cc nL own Ts tys Nw) {x y : Int32} (hdg : decode cc pc = .ok (.ishr, 1)) (hn : pc + 1 = n) (k : zV E wd nL S n lv (.int (zshr x y) :: st)) : zV E wd nL S pc lv (.int y :: .int x :: st) := by
  subst hn; exact fun H locs ls hP hD hS hl => lv_ishr C0.1 C0.2.1 hdg (k H locs ls hP hD hS hl)
theorem zV_idiv (C0 : zCx E rm cc nL own Ts tys Nw) {x y : Int32} (hdg : decode cc pc = .ok (.idiv, 1)) (hne : ¬ y = 0) (hn : pc + 1 = n) (k : zV E wd nL S n lv (.int (x / y) :: st)) : zV E wd nL S pc lv (.int y :: .int x :: st) := by
  subst hn; exact fun H locs ls hP hD hS hl => lv_idiv C0.1 C0.2.1 hdg hne (k H locs ls hP hD hS hl)
theorem zV_irem (C0 : zCx E rm cc nL own Ts tys Nw) {x y : Int32} (hdg : decode cc pc = .ok (.irem, 1)) (hne : ¬ y = 0) (hn : pc + 1 = n) (k : zV E wd nL S n lv (.int (zrem x y) :: st)) : zV E wd nL S pc lv (.int y :: .int x :: st) := by
  subst hn; exact fun H locs ls hP hD hS hl => lv_irem C0.1 C0.2.1 hdg hne (k H locs ls hP hD hS hl)
theorem zV_iushr (C0 : zCx E rm cc nL own Ts tys Nw) {x y : Int32} (hdg : decode cc pc = .ok (.iushr, 1)) (hn : pc + 1 = n) (k : zV E wd nL S n lv (.int (zushr x y) :: st)) : zV E wd nL S pc lv (.int y :: .int x :: st) := by
  subst hn; exact fun H locs ls hP hD hS hl => lv_iushr C0.1 C0.2.1 hdg rfl (k H locs ls hP hD hS hl)
theorem zV_ineg (C0 : zCx E rm cc nL own Ts tys Nw) {x : Int32} (hdg : decode cc pc = .ok (.ineg, 1)) (hn : pc + 1 = n) (k : zV E wd nL S n lv (.int (-x) :: st)) : zV E wd nL S pc lv (.int x :: st) := by
  subst hn; exact fun H locs ls hP hD hS hl => lv_ineg C0.1 C0.2.1 hdg (k H locs ls hP hD hS hl)
theorem zV_i2l (C0 : zCx E rm cc nL own Ts tys Nw) {x : Int32} (hdg : decode cc pc = .ok (.i2l, 1)) (hn : pc + 1 = n) (k : zV E wd nL S n lv (.long x.toInt64 :: st)) : zV E wd nL S pc lv (.int x :: st) := by
  subst hn; exact fun H locs ls hP hD hS hl => lv_i2l C0.1 C0.2.1 hdg rfl (k H locs ls hP hD hS hl)
theorem zV_l2i (C0 : zCx E rm cc nL own Ts tys Nw) {x : Int64} (hdg : decode cc pc = .ok (.l2i, 1)) (hn : pc + 1 = n) (k : zV E wd nL S n lv (.int x.toInt32 :: st)) : zV E wd nL S pc lv (.long x :: st) := by
  subst hn; exact fun H locs ls hP hD hS hl => lv_l2i C0.1 C0.2.1 hdg rfl (k H locs ls hP hD hS hl)
theorem zV_ladd (C0 : zCx E rm cc nL own Ts tys Nw) {x y : Int64} (hdg : decode cc pc = .ok (.ladd, 1)) (hn : pc + 1 = n) (k : zV E wd nL S n lv (.long (x + y) :: st)) : zV E wd nL S pc lv (.long y :: .long x :: st) := by
  subst hn; exact fun H locs ls hP hD hS hl => lv_ladd C0.1 C0.2.1 hdg (k H locs ls hP hD hS hl)
theorem zV_lsub (C0 : zCx E rm cc nL own Ts tys Nw) {x y : Int64} (hdg : decode cc pc = .ok (.lsub, 1)) (hn : pc + 1 = n) (k : zV E wd nL S n lv (.long (x - y) :: st)) : zV E wd nL S pc lv (.long y :: .long x :: st) := by
  subst hn; exact fun H locs ls hP hD hS hl => lv_lsub C0.1 C0.2.1 hdg (k H locs ls hP hD hS hl)
theorem zV_lmul (C0 : zCx E rm cc nL own Ts tys Nw) {x y : Int64} (hdg : decode cc pc = .ok (.lmul, 1)) (hn : pc + 1 = n) (k : zV E wd nL S n lv (.long (x * y) :: st)) : zV E wd nL S pc lv (.long y :: .long x :: st) := by
  subst hn; exact fun H locs ls hP hD hS hl => lv_lmul C0.1 C0.2.1 hdg (k H locs ls hP hD hS hl)
theorem zV_land (C0 : zCx E rm cc nL own Ts tys Nw) {x y : Int64} (hdg : decode cc pc = .ok (.land, 1)) (hn : pc + 1 = n) (k : zV E wd nL S n lv (.long (x &&& y) :: st)) : zV E wd nL S pc lv (.long y :: .long x :: st) := by
  subst hn; exact fun H locs ls hP hD hS hl => lv_land C0.1 C0.2.1 hdg (k H locs ls hP hD hS hl)
theorem zV_lor (C0 : zCx E rm cc nL own Ts tys Nw) {x y : Int64} (hdg : decode cc pc = .ok (.lor, 1)) (hn : pc + 1 = n) (k : zV E wd nL S n lv (.long (x ||| y) :: st)) : zV E wd nL S pc lv (.long y :: .long x :: st) := by
  subst hn; exact fun H locs ls hP hD hS hl => lv_lor C0.1 C0.2.1 hdg (k H locs ls hP hD hS hl)
theorem zV_ldiv (C0 : zCx E rm cc nL own Ts tys Nw) {x y : Int64} (hdg : decode cc pc = .ok (.ldiv, 1)) (hne : ¬ y = 0) (hn : pc + 1 = n) (k : zV E wd nL S n lv (.long (x / y) :: st)) : zV E wd nL S pc lv (.long y :: .long x :: st) := by
  subst hn; exact fun H locs ls hP hD hS hl => lv_ldiv C0.1 C0.2.1 hdg hne (k H locs ls hP hD hS hl)
theorem zV_lrem (C0 : zCx E rm cc nL own Ts tys Nw) {x y : Int64} (hdg : decode cc pc = .ok (.lrem, 1)) (hne : ¬ y = 0) (hn : pc + 1 = n) (k : zV E wd nL S n lv (.long (zremL x y) :: st)) : zV E wd nL S pc lv (.long y :: .long x :: st) := by
  subst hn; exact fun H locs ls hP hD hS hl => lv_lrem C0.1 C0.2.1 hdg hne (k H locs ls hP hD hS hl)
theorem zV_lshl (C0 : zCx E rm cc nL own Ts tys Nw) {x : Int64} {y : Int32} (hdg : decode cc pc = .ok (.lshl, 1)) (hn : pc + 1 = n) (k : zV E wd nL S n lv (.long (zshlL x y) :: st)) : zV E wd nL S pc lv (.int y :: .long x :: st) := by
  subst hn; exact fun H locs ls hP hD hS hl => lv_lshl C0.1 C0.2.1 hdg rfl (k H locs ls hP hD hS hl)
theorem zV_lushr (C0 : zCx E rm cc nL own Ts tys Nw) {x : Int64} {y : Int32} (hdg : decode cc pc = .ok (.lushr, 1)) (hn : pc + 1 = n) (k : zV E wd nL S n lv (.long (zushrL x y) :: st)) : zV E wd nL S pc lv (.int y :: .long x :: st) := by
  subst hn; exact fun H locs ls hP hD hS hl => lv_lushr C0.1 C0.2.1 hdg rfl (k H locs ls hP hD hS hl)
theorem zV_lcmp (C0 : zCx E rm cc nL own Ts tys Nw) {x y : Int64} (hdg : decode cc pc = .ok (.lcmp, 1)) (hn : pc + 1 = n) (k : zV E wd nL S n lv (.int (lg_cmp x y) :: st)) : zV E wd nL S pc lv (.long y :: .long x :: st) := by
  subst hn; exact fun H locs ls hP hD hS hl => W.lcmp C0.1 C0.2.1 hdg (k H locs ls hP hD hS hl)
theorem zV_dup (C0 : zCx E rm cc nL own Ts tys Nw) {v : Value} (hdg : decode cc pc = .ok (.dup, 1)) (hc : v.category = 1) (hn : pc + 1 = n) (k : zV E wd nL S n lv (v :: v :: st)) : zV E wd nL S pc lv (v :: st) := by
  subst hn; exact fun H locs ls hP hD hS hl => lv_dup C0.1 C0.2.1 hdg hc (k H locs ls hP hD hS hl)
theorem zV_dup2 (C0 : zCx E rm cc nL own Ts tys Nw) {v w : Value} (hdg : decode cc pc = .ok (.dup2, 1)) (hc : v.category = 1) (hc2 : w.category = 1) (hn : pc + 1 = n) (k : zV E wd nL S n lv (v :: w :: v :: w :: st)) : zV E wd nL S pc lv (v :: w :: st) := by
  subst hn; exact fun H locs ls hP hD hS hl => lv_dup2_11 C0.1 C0.2.1 hdg hc hc2 (k H locs ls hP hD hS hl)
theorem zV_if_eq (C0 : zCx E rm cc nL own Ts tys Nw) {x : Int32} {off : Int} (hdg : decode cc pc = .ok (.ifCond .eq off, 3)) (ht : (pc : Int) + off = (tgt : Int)) (hn : pc + 3 = n) (kt : x = 0 → zV E wd nL S tgt lv (st)) (kf : ¬ x = 0 → zV E wd nL S n lv (st)) : zV E wd nL S pc lv (.int x :: st) := by
  subst hn; exact fun H locs ls hP hD hS hl => lv_if_eq C0.1 C0.2.1 hdg ht (fun h => kt h H locs ls hP hD hS hl) (fun h => kf h H locs ls hP hD hS hl)
theorem zV_if_ne (C0 : zCx E rm cc nL own Ts tys Nw) {x : Int32} {off : Int} (hdg : decode cc pc = .ok (.ifCond .ne off, 3)) (ht : (pc : Int) + off = (tgt : Int)) (hn : pc + 3 = n) (kt : ¬ x = 0 → zV E wd nL S tgt lv (st)) (kf : x = 0 → zV E wd nL S n lv (st)) : zV E wd nL S pc lv (.int x :: st) := by
  subst hn; exact fun H locs ls hP hD hS hl => lv_if_ne C0.1 C0.2.1 hdg ht (fun h => kt h H locs ls hP hD hS hl) (fun h => kf h H locs ls hP hD hS hl)
theorem zV_if_lt (C0 : zCx E rm cc nL own Ts tys Nw) {x : Int32} {off : Int} (hdg : decode cc pc = .ok (.ifCond .lt off, 3)) (ht : (pc : Int) + off = (tgt : Int)) (hn : pc + 3 = n) (kt : x < 0 → zV E wd nL S tgt lv (st)) (kf : ¬ x < 0 → zV E wd nL S n lv (st)) : zV E wd nL S pc lv (.int x :: st) := by
  subst hn; exact fun H locs ls hP hD hS hl => lv_if_lt C0.1 C0.2.1 hdg ht (fun h => kt h H locs ls hP hD hS hl) (fun h => kf h H locs ls hP hD hS hl)
theorem zV_if_ge (C0 : zCx E rm cc nL own Ts tys Nw) {x : Int32} {off : Int} (hdg : decode cc pc = .ok (.ifCond .ge off, 3)) (ht : (pc : Int) + off = (tgt : Int)) (hn : pc + 3 = n) (kt : 0 ≤ x → zV E wd nL S tgt lv (st)) (kf : ¬ 0 ≤ x → zV E wd nL S n lv (st)) : zV E wd nL S pc lv (.int x :: st) := by
  subst hn; exact fun H locs ls hP hD hS hl => lv_if_ge C0.1 C0.2.1 hdg ht (fun h => kt h H locs ls hP hD hS hl) (fun h => kf h H locs ls hP hD hS hl)
theorem zV_if_gt (C0 : zCx E rm cc nL own Ts tys Nw) {x : Int32} {off : Int} (hdg : decode cc pc = .ok (.ifCond .gt off, 3)) (ht : (pc : Int) + off = (tgt : Int)) (hn : pc + 3 = n) (kt : 0 < x → zV E wd nL S tgt lv (st)) (kf : ¬ 0 < x → zV E wd nL S n lv (st)) : zV E wd nL S pc lv (.int x :: st) := by
  subst hn; exact fun H locs ls hP hD hS hl => lv_if_gt C0.1 C0.2.1 hdg ht (fun h => kt h H locs ls hP hD hS hl) (fun h => kf h H locs ls hP hD hS hl)
theorem zV_if_le (C0 : zCx E rm cc nL own Ts tys Nw) {x : Int32} {off : Int} (hdg : decode cc pc = .ok (.ifCond .le off, 3)) (ht : (pc : Int) + off = (tgt : Int)) (hn : pc + 3 = n) (kt : x ≤ 0 → zV E wd nL S tgt lv (st)) (kf : ¬ x ≤ 0 → zV E wd nL S n lv (st)) : zV E wd nL S pc lv (.int x :: st) := by
  subst hn; exact fun H locs ls hP hD hS hl => lv_if_le C0.1 C0.2.1 hdg ht (fun h => kt h H locs ls hP hD hS hl) (fun h => kf h H locs ls hP hD hS hl)
theorem zV_icmp_eq (C0 : zCx E rm cc nL own Ts tys Nw) {x y : Int32} {off : Int} (hdg : decode cc pc = .ok (.if_icmp .eq off, 3)) (ht : (pc : Int) + off = (tgt : Int)) (hn : pc + 3 = n) (kt : x = y → zV E wd nL S tgt lv (st)) (kf : ¬ x = y → zV E wd nL S n lv (st)) : zV E wd nL S pc lv (.int y :: .int x :: st) := by
  subst hn; exact fun H locs ls hP hD hS hl => lv_icmp_eq C0.1 C0.2.1 hdg ht (fun h => kt h H locs ls hP hD hS hl) (fun h => kf h H locs ls hP hD hS hl)
theorem zV_icmp_ne (C0 : zCx E rm cc nL own Ts tys Nw) {x y : Int32} {off : Int} (hdg : decode cc pc = .ok (.if_icmp .ne off, 3)) (ht : (pc : Int) + off = (tgt : Int)) (hn : pc + 3 = n) (kt : ¬ x = y → zV E wd nL S tgt lv (st)) (kf : x = y → zV E wd nL S n lv (st)) : zV E wd nL S pc lv (.int y :: .int x :: st) := by
  subst hn; exact fun H locs ls hP hD hS hl => lv_icmp_ne C0.1 C0.2.1 hdg ht (fun h => kt h H locs ls hP hD hS hl) (fun h => kf h H locs ls hP hD hS hl)
theorem zV_icmp_lt (C0 : zCx E rm cc nL own Ts tys Nw) {x y : Int32} {off : Int} (hdg : decode cc pc = .ok (.if_icmp .lt off, 3)) (ht : (pc : Int) + off = (tgt : Int)) (hn : pc + 3 = n) (kt : x < y → zV E wd nL S tgt lv (st)) (kf : ¬ x < y → zV E wd nL S n lv (st)) : zV E wd nL S pc lv (.int y :: .int x :: st) := by
  subst hn; exact fun H locs ls hP hD hS hl => lv_icmp_lt C0.1 C0.2.1 hdg ht (fun h => kt h H locs ls hP hD hS hl) (fun h => kf h H locs ls hP hD hS hl)
theorem zV_icmp_ge (C0 : zCx E rm cc nL own Ts tys Nw) {x y : Int32} {off : Int} (hdg : decode cc pc = .ok (.if_icmp .ge off, 3)) (ht : (pc : Int) + off = (tgt : Int)) (hn : pc + 3 = n) (kt : y ≤ x → zV E wd nL S tgt lv (st)) (kf : ¬ y ≤ x → zV E wd nL S n lv (st)) : zV E wd nL S pc lv (.int y :: .int x :: st) := by
  subst hn; exact fun H locs ls hP hD hS hl => lv_icmp_ge C0.1 C0.2.1 hdg ht (fun h => kt h H locs ls hP hD hS hl) (fun h => kf h H locs ls hP hD hS hl)
theorem zV_icmp_gt (C0 : zCx E rm cc nL own Ts tys Nw) {x y : Int32} {off : Int} (hdg : decode cc pc = .ok (.if_icmp .gt off, 3)) (ht : (pc : Int) + off = (tgt : Int)) (hn : pc + 3 = n) (kt : y < x → zV E wd nL S tgt lv (st)) (kf : ¬ y < x → zV E wd nL S n lv (st)) : zV E wd nL S pc lv (.int y :: .int x :: st) := by
  subst hn; exact fun H locs ls hP hD hS hl => lv_icmp_gt C0.1 C0.2.1 hdg ht (fun h => kt h H locs ls hP hD hS hl) (fun h => kf h H locs ls hP hD hS hl)
theorem zV_icmp_le (C0 : zCx E rm cc nL own Ts tys Nw) {x y : Int32} {off : Int} (hdg : decode cc pc = .ok (.if_icmp .le off, 3)) (ht : (pc : Int) + off = (tgt : Int)) (hn : pc + 3 = n) (kt : x ≤ y → zV E wd nL S tgt lv (st)) (kf : ¬ x ≤ y → zV E wd nL S n lv (st)) : zV E wd nL S pc lv (.int y :: .int x :: st) := by
  subst hn; exact fun H locs ls hP hD hS hl => lv_icmp_le C0.1 C0.2.1 hdg ht (fun h => kt h H locs ls hP hD hS hl) (fun h => kf h H locs ls hP hD hS hl)
theorem zV_goto (C0 : zCx E rm cc nL own Ts tys Nw) {off : Int} (hdg : decode cc pc = .ok (.goto off, 3)) (ht : (pc : Int) + off = (tgt : Int)) (k : zV E wd nL S tgt lv (st)) : zV E wd nL S pc lv (st) := fun H locs ls hP hD hS hl => lv_goto C0.1 C0.2.1 hdg ht (k H locs ls hP hD hS hl)
theorem zV_lookup (C0 : zCx E rm cc nL own Ts tys Nw) {dflt : Int} {ps : Array (Int × Int)} {len : Nat} {x : Int32} {off : Int} (hdg : decode cc pc = .ok (.lookupswitch dflt ps, len)) (hp : (ps.toList.zip (ps.toList.drop 1)).all (fun (a, next) => a.1 < next.1) = true) (ho : Op.lookupswitch.offset ps.toList dflt x.toInt = off) (ht : (pc : Int) + off = (tgt : Int)) (k : zV E wd nL S tgt lv (st)) : zV E wd nL S pc lv (.int x :: st) := fun H locs ls hP hD hS hl => lv_lookup C0.1 C0.2.1 hdg hp ho ht (k H locs ls hP hD hS hl)
theorem zV_tableOut (C0 : zCx E rm cc nL own Ts tys Nw) {dflt lo hi : Int} {offs : Array Int} {len : Nat} {x : Int32} (hdg : decode cc pc = .ok (.tableswitch dflt lo hi offs, len)) (h : x.toInt < lo ∨ hi < x.toInt) (ht : (pc : Int) + dflt = (tgt : Int)) (k : zV E wd nL S tgt lv (st)) : zV E wd nL S pc lv (.int x :: st) := fun H locs ls hP hD hS hl => lv_tableOut C0.1 C0.2.1 hdg h ht (k H locs ls hP hD hS hl)
theorem zV_tableIn (C0 : zCx E rm cc nL own Ts tys Nw) {dflt lo hi : Int} {offs : Array Int} {len : Nat} {x : Int32} {off : Int} (hdg : decode cc pc = .ok (.tableswitch dflt lo hi offs, len)) (h1 : ¬ x.toInt < lo) (h2 : ¬ hi < x.toInt) (ho : offs[(x.toInt - lo).toNat]? = some off) (ht : (pc : Int) + off = (tgt : Int)) (k : zV E wd nL S tgt lv (st)) : zV E wd nL S pc lv (.int x :: st) := fun H locs ls hP hD hS hl => lv_tableIn C0.1 C0.2.1 hdg h1 h2 ho ht (k H locs ls hP hD hS hl)
theorem zV_sub (ks : List Nat) {lv2 : List (Nat × Value)} (hl2 : lv_pick lv ks = lv2) (k : zV E wd nL S pc lv2 st) : zV E wd nL S pc lv st := fun H locs ls hP hD hS hl => k H locs ls hP hD hS (lv_sub hl ks hl2)
theorem zV_S {S2 : σ} (h : wd S2 = wd S) (k : zV E wd nL S2 pc lv st) : zV E wd nL S pc lv st := fun H locs ls hP hD hS hl => k H locs ls (by rw [h]; exact hP) (by rw [h]; exact hD) hS hl
theorem zV_mmax (C0 : zCx E rm cc nL own Ts tys Nw) {x y : Int32} {idx : Nat} (hdg : decode cc pc = .ok (.invokestatic idx, 3)) (h1 : Cond.methodLink own idx Lib.Math.max.name ∈ Ts) (h2 : Cond.static Lib.Math.max.name ∈ Ts) (h3 : Cond.initialized "java/lang/Math" ∈ Ts) (h4 : Cond.code Lib.Math.max.name Lib.Math.max.code 2 (some .int) ∈ Ts) (hf : 1 ≤ rm.frames) (hr : (st.map fun v => v.category).sum + 13 ≤ rm.locals) (hn : pc + 3 = n) (k : zV E wd nL S n lv (.int (if x < y then y else x) :: st)) : zV E wd nL S pc lv (.int y :: .int x :: st) := by
  subst hn; exact fun H locs ls hP hD hS hl => va_mmax C0.1 C0.2.1 (C0.2.2.1.trans hl.1.symm) C0.2.2.2.1 (C0.2.2.2.2.1 _ h1) (C0.2.2.2.2.1 _ h2) (C0.2.2.2.2.1 _ h3) (C0.2.2.2.2.1 _ h4) (C0.2.2.2.2.2.2.2.2.2 ▸ hf) (C0.2.2.2.2.2.2.2.2.2 ▸ hr) (Nat.zero_le _) (Nat.zero_le _) hdg (k H locs ls hP hD hS hl)
theorem zV_mmin (C0 : zCx E rm cc nL own Ts tys Nw) {x y : Int32} {idx : Nat} (hdg : decode cc pc = .ok (.invokestatic idx, 3)) (h1 : Cond.methodLink own idx Lib.Math.min.name ∈ Ts) (h2 : Cond.static Lib.Math.min.name ∈ Ts) (h3 : Cond.initialized "java/lang/Math" ∈ Ts) (h4 : Cond.code Lib.Math.min.name Lib.Math.min.code 2 (some .int) ∈ Ts) (hf : 1 ≤ rm.frames) (hr : (st.map fun v => v.category).sum + 13 ≤ rm.locals) (hn : pc + 3 = n) (k : zV E wd nL S n lv (.int (if y < x then y else x) :: st)) : zV E wd nL S pc lv (.int y :: .int x :: st) := by
  subst hn; exact fun H locs ls hP hD hS hl => va_mmin C0.1 C0.2.1 (C0.2.2.1.trans hl.1.symm) C0.2.2.2.1 (C0.2.2.2.2.1 _ h1) (C0.2.2.2.2.1 _ h2) (C0.2.2.2.2.1 _ h3) (C0.2.2.2.2.1 _ h4) (C0.2.2.2.2.2.2.2.2.2 ▸ hf) (C0.2.2.2.2.2.2.2.2.2 ▸ hr) (Nat.zero_le _) (Nat.zero_le _) hdg (k H locs ls hP hD hS hl)
theorem zV_mmin_long (C0 : zCx E rm cc nL own Ts tys Nw) {x y : Int64} {idx : Nat} (hdg : decode cc pc = .ok (.invokestatic idx, 3)) (h1 : Cond.methodLink own idx Lib.MathLoose.min_long.x ∈ Ts) (h2 : Cond.static Lib.MathLoose.min_long.x ∈ Ts) (h3 : Cond.initialized "java/lang/Math" ∈ Ts) (h4 : Cond.code Lib.MathLoose.min_long.x Lib.MathLoose.min_long.code 4 (some .long) ∈ Ts) (hf : 1 ≤ rm.frames) (hr : (st.map fun v => v.category).sum + 15 ≤ rm.locals) (hn : pc + 3 = n) (k : zV E wd nL S n lv (.long (if y < x then y else x) :: st)) : zV E wd nL S pc lv (.long y :: .long x :: st) := by
  subst hn; exact fun H locs ls hP hD hS hl => va_mmin_long C0.1 C0.2.1 (C0.2.2.1.trans hl.1.symm) C0.2.2.2.1 (C0.2.2.2.2.1 _ h1) (C0.2.2.2.2.1 _ h2) (C0.2.2.2.2.1 _ h3) (C0.2.2.2.2.1 _ h4) (C0.2.2.2.2.2.2.2.2.2 ▸ hf) (C0.2.2.2.2.2.2.2.2.2 ▸ hr) (Nat.zero_le _) (Nat.zero_le _) hdg (k H locs ls hP hD hS hl)
theorem zV_get (C0 : zCx E rm cc nL own Ts tys Nw) {C ref : String} {T : u_T} {N ci idx : Nat} (hin : ∀ w ∈ u_ws C T N, w ∈ Ts) (q0 : Nat) {a : Nat} {fs : List Value} (he : (wd S)[q0]? = some (a, .inr (ci, fs))) (hc : vwCl[ci]? = some (C, T, N)) (f : Nat) (hk : f < N) (hw : Cond.fieldLink own idx ref (T f).2.1 (T f).2.2.1 ∈ Ts) (hs : ref = (T f).1) {v : Value} (hv : fs[f]? = some v) (hdg : decode cc pc = .ok (.getfield idx, 3)) (hn : pc + 3 = n) (k : zV E wd nL S n lv (v :: st)) : zV E wd nL S pc lv (.ref a :: st) := by
  subst hn; exact fun H locs ls hP hD hS hl => va_get C0.1 C0.2.1 C0.2.2.2.2.1 hin C0.2.2.2.1 C0.2.2.2.2.2.1 hP q0 he hc f hk (C0.2.2.2.2.1 _ hw) (fun _ h9 => by rw [hs]; exact h9) hv hdg (k H locs ls hP hD hS hl)
theorem zV_put (C0 : zCx E rm cc nL own Ts tys Nw) {C ref : String} {T : u_T} {N ci idx : Nat} (hin : ∀ w ∈ u_ws C T N, w ∈ Ts) (q0 : Nat) {a : Nat} {fs : List Value} (he : (wd S)[q0]? = some (a, .inr (ci, fs))) (hc : vwCl[ci]? = some (C, T, N)) (f : Nat) (hk : f < N) (hw : Cond.fieldLink own idx ref (T f).2.1 (T f).2.2.1 ∈ Ts) (hs : ref = (T f).1) (ty0 : Nat → FieldType) (hty : ∀ k, k < N → parseFieldDescriptor (T k).2.2.1 = some (ty0 k)) (hnm : ∀ a, a < N → ∀ b, b < N → a ≠ b → (T a).2.1 ≠ (T b).2.1) (hfin : (T f).2.2.2 = false) {ty : FieldType} {v : Value} (hd : parseFieldDescriptor (T f).2.2.1 = some ty) (hnw : narrow ty v = v) (hfit : fits ty v = true) (hlen : f < fs.length) (S2 : σ) (hS2 : (wd S).set q0 (a, .inr (ci, fs.set f v)) = wd S2) (hdg : decode cc pc = .ok (.putfield idx, 3)) (hn : pc + 3 = n) (k : zV E wd nL S2 n lv (st)) : zV E wd nL S pc lv (v :: .ref a :: st) := by
  subst hn; exact fun H locs ls hP hD hS hl => va_put C0.1 C0.2.1 C0.2.2.2.2.1 hin ty0 hty hnm C0.2.2.2.1 C0.2.2.2.2.2.1 hP hD hS q0 he hc f hk (C0.2.2.2.2.1 _ hw) (fun _ h9 => by rw [hs]; exact h9) hfin hd hnw hfit hlen hdg (fun H1 locs1 hP1 hD1 hS1 => k H1 locs1 ls (hS2 ▸ hP1) (hS2 ▸ hD1) hS1 hl)
theorem zV_getN (C0 : zCx E rm cc nL own Ts tys Nw) {C ref : String} {T : u_T} {N ci idx : Nat} (hin : ∀ w ∈ u_ws C T N, w ∈ Ts) (q0 : Nat) {a : Nat} {fs : List Value} (he : (wd S)[q0]? = some (a, .inr (ci, fs))) (hc : vwCl[ci]? = some (C, T, N)) (f : Nat) (hk : f < N) {host : String} (hw : Nw (es E) → (Cond.fieldLinkNest own idx ref (T f).2.1 (T f).2.2.1 host).before (ea E) (es E) = true) (hs : ref = (T f).1) {v : Value} (hv : fs[f]? = some v) (hdg : decode cc pc = .ok (.getfield idx, 3)) (hn : pc + 3 = n) (k : zV E wd nL S n lv (v :: st)) : zV E wd nL S pc lv (.ref a :: st) := by
  subst hn; exact fun H locs ls hP hD hS hl => va_getN C0.1 C0.2.1 C0.2.2.2.2.1 hin C0.2.2.2.1 C0.2.2.2.2.2.1 hP q0 he hc f hk (hw C0.2.2.2.2.2.2.2.1) (fun _ h9 => by rw [hs]; exact h9) hv hdg (k H locs ls hP hD hS hl)
theorem zV_putN (C0 : zCx E rm cc nL own Ts tys Nw) {C ref : String} {T : u_T} {N ci idx : Nat} (hin : ∀ w ∈ u_ws C T N, w ∈ Ts) (q0 : Nat) {a : Nat} {fs : List Value} (he : (wd S)[q0]? = some (a, .inr (ci, fs))) (hc : vwCl[ci]? = some (C, T, N)) (f : Nat) (hk : f < N) {host : String} (hw : Nw (es E) → (Cond.fieldLinkNest own idx ref (T f).2.1 (T f).2.2.1 host).before (ea E) (es E) = true) (hs : ref = (T f).1) (ty0 : Nat → FieldType) (hty : ∀ k, k < N → parseFieldDescriptor (T k).2.2.1 = some (ty0 k)) (hnm : ∀ a, a < N → ∀ b, b < N → a ≠ b → (T a).2.1 ≠ (T b).2.1) (hfin : (T f).2.2.2 = false) {ty : FieldType} {v : Value} (hd : parseFieldDescriptor (T f).2.2.1 = some ty) (hnw : narrow ty v = v) (hfit : fits ty v = true) (hlen : f < fs.length) (S2 : σ) (hS2 : (wd S).set q0 (a, .inr (ci, fs.set f v)) = wd S2) (hdg : decode cc pc = .ok (.putfield idx, 3)) (hn : pc + 3 = n) (k : zV E wd nL S2 n lv (st)) : zV E wd nL S pc lv (v :: .ref a :: st) := by
  subst hn; exact fun H locs ls hP hD hS hl => va_putN C0.1 C0.2.1 C0.2.2.2.2.1 hin ty0 hty hnm C0.2.2.2.1 C0.2.2.2.2.2.1 hP hD hS q0 he hc f hk (hw C0.2.2.2.2.2.2.2.1) (fun _ h9 => by rw [hs]; exact h9) hfin hd hnw hfit hlen hdg (fun H1 locs1 hP1 hD1 hS1 => k H1 locs1 ls (hS2 ▸ hP1) (hS2 ▸ hD1) hS1 hl)
theorem zV_iald (C0 : zCx E rm cc nL own Ts tys Nw) (q0 t0 : Nat) {a : Nat} {cA : ClassId} {sz : Nat} {f : Nat → Int32} (ha : (wd S)[q0]? = some (a, .inl (cA, sz, .inl f))) (ht : tys[t0]? = some (cA, .int)) {i : Int32} (hin : vp_in i sz) (hdg : decode cc pc = .ok (.iaload, 1)) (hn : pc + 1 = n) (k : zV E wd nL S n lv (.int (f i.toNatClampNeg) :: st)) : zV E wd nL S pc lv (.int i :: .ref a :: st) := by
  subst hn; exact fun H locs ls hP hD hS hl => va_iald C0.1 C0.2.1 C0.2.2.2.2.2.1 hP q0 t0 ha ht hin hdg (k H locs ls hP hD hS hl)
theorem zV_zald (C0 : zCx E rm cc nL own Ts tys Nw) (q0 t0 : Nat) {a : Nat} {cA : ClassId} {sz : Nat} {f : Nat → Int32} (ha : (wd S)[q0]? = some (a, .inl (cA, sz, .inl f))) (ht : tys[t0]? = some (cA, .boolean)) {i : Int32} (hin : vp_in i sz) (hdg : decode cc pc = .ok (.baload, 1)) (hn : pc + 1 = n) (k : zV E wd nL S n lv (.int (f i.toNatClampNeg) :: st)) : zV E wd nL S pc lv (.int i :: .ref a :: st) := by
  subst hn; exact fun H locs ls hP hD hS hl => va_zald C0.1 C0.2.1 C0.2.2.2.2.2.1 hP q0 t0 ha ht hin hdg (k H locs ls hP hD hS hl)
theorem zV_iast (C0 : zCx E rm cc nL own Ts tys Nw) (q0 t0 : Nat) {a : Nat} {cA : ClassId} {sz : Nat} {f : Nat → Int32} (ha : (wd S)[q0]? = some (a, .inl (cA, sz, .inl f))) (ht : tys[t0]? = some (cA, .int)) {i x : Int32} (hin : vp_in i sz) (S2 : σ) (hS2 : (wd S).set q0 (a, .inl (cA, sz, .inl (upd f i.toNatClampNeg x))) = wd S2) (hdg : decode cc pc = .ok (.iastore, 1)) (hn : pc + 1 = n) (k : zV E wd nL S2 n lv (st)) : zV E wd nL S pc lv (.int x :: .int i :: .ref a :: st) := by
  subst hn; exact fun H locs ls hP hD hS hl => va_iast C0.1 C0.2.1 C0.2.2.2.2.2.1 hP hD hS q0 t0 ha ht hin hdg (fun H1 locs1 hP1 hD1 hS1 => k H1 locs1 ls (hS2 ▸ hP1) (hS2 ▸ hD1) hS1 hl)
theorem zV_zast (C0 : zCx E rm cc nL own Ts tys Nw) (q0 t0 : Nat) {a : Nat} {cA : ClassId} {sz : Nat} {f : Nat → Int32} (ha : (wd S)[q0]? = some (a, .inl (cA, sz, .inl f))) (ht : tys[t0]? = some (cA, .boolean)) {i x : Int32} (hin : vp_in i sz) (S2 : σ) (hS2 : (wd S).set q0 (a, .inl (cA, sz, .inl (upd f i.toNatClampNeg (vp_nar .boolean x)))) = wd S2) (hdg : decode cc pc = .ok (.bastore, 1)) (hn : pc + 1 = n) (k : zV E wd nL S2 n lv (st)) : zV E wd nL S pc lv (.int x :: .int i :: .ref a :: st) := by
  subst hn; exact fun H locs ls hP hD hS hl => va_zast C0.1 C0.2.1 C0.2.2.2.2.2.1 hP hD hS q0 t0 ha ht hin hdg (fun H1 locs1 hP1 hD1 hS1 => k H1 locs1 ls (hS2 ▸ hP1) (hS2 ▸ hD1) hS1 hl)
theorem zV_alen (C0 : zCx E rm cc nL own Ts tys Nw) (q0 t0 : Nat) {a : Nat} {cA : ClassId} {x : vp_A} (ha : (wd S)[q0]? = some (a, .inl (cA, x))) {ty : FieldType} (ht : tys[t0]? = some (cA, ty)) {v : Int32} (hv : Int32.ofNat x.1 = v) (hdg : decode cc pc = .ok (.arraylength, 1)) (hn : pc + 1 = n) (k : zV E wd nL S n lv (.int v :: st)) : zV E wd nL S pc lv (.ref a :: st) := by
  subst hn; exact fun H locs ls hP hD hS hl => va_alen C0.1 C0.2.1 C0.2.2.2.2.2.1 hP q0 t0 ha ht hv hdg (k H locs ls hP hD hS hl)
end ZV
