/-! ===== contracts over an abstract state, their entry, and calls of them ===== -/
def zB (D : va_G) (tys : List (ClassId × FieldType)) {σ : Type} (wd : σ → va_W) (A : Nat → Prop) (S : σ) (t : State) : Prop := va_P D vwCl (wd S) t.heap ∧ va_K D vwCl tys t ∧ va_D A (wd S)
def zPre (D : va_G) (tys : List (ClassId × FieldType)) (Nw : State → Prop) {σ : Type} (wd : σ → va_W) (S : σ) (sz : Nat) (U : State) : Prop := U.heap.size = sz ∧ va_P D vwCl (wd S) U.heap ∧ va_K D vwCl tys U ∧ va_D (fun _ => True) (wd S) ∧ Nw U
def zRm (f k : Nat) : Room := { frames := f, cells := 0, slots := 0, locals := k }
theorem zfree {A : Nat → Prop} {ws : va_W} {H0 H : Heap} {locs : List Loc} (hD : va_D A ws) (hS : va_S A H0 H locs) (hA : ∀ q : Nat, H0.size ≤ q → A q) : ∀ q : Nat, va_A ws H.size q → A q := by
  intro q h
  rcases h with ⟨k, e, h⟩ | h
  · exact hD.2 k (q, e) h
  · exact hA q (Nat.le_trans hS.1 h)
theorem zblind {D : va_G} {tys : List (ClassId × FieldType)} {Nw : State → Prop} {σ : Type} {wd : σ → va_W} {S : σ} {sz : Nat} {av : List Value} (hN : zNwOk Nw) : FrameBlind (va_Pc av (zPre D tys Nw wd S sz)) := by
  intro a U g mk q
  obtain ⟨h0, h1, h2, h3, h4, h5⟩ := q
  exact ⟨h0, h1, h2, va_K.moved (u := U) (U := U.calling g mk a) (Vm.Alike.refl U.vm) h3, h4, hN.1 U (U.calling g mk a) rfl h5⟩
theorem zlt {D : va_G} {ws : va_W} {H : Heap} (hP : va_P D vwCl ws H) {k : Nat} {q : Nat × va_E} (hk : ws[k]? = some q) : q.1 < H.size := by
  have h := hP k q hk
  obtain ⟨a, e⟩ := q
  cases e with
  | inl x => exact (Array.getElem?_eq_some_iff.mp (show H[a]? = some _ from h)).1
  | inr o =>
    obtain ⟨r, h1, cell, h2, h3⟩ := h
    exact (Array.getElem?_eq_some_iff.mp h2).1
theorem zkeep {D : va_G} {ws : va_W} {H H1 : Heap} (hP : va_P D vwCl ws H) (hk : ∀ q : Nat, q < H.size → ¬ va_A [] H.size q → H1[q]? = H[q]?) : va_P D vwCl ws H1 := by
  refine hP.kept (fun k q h => ?_)
  have hlt := zlt hP h
  refine hk q.1 hlt (fun hq => ?_)
  rcases hq with ⟨k, e, h⟩ | h
  · simp at h
  · exact absurd h (Nat.not_le.mpr hlt)
def zI (l : Launch) (y : MethodName) (ws : List Cond) (rm : Room) (D : va_G) (tys : List (ClassId × FieldType)) (Nw : State → Prop) {σ : Type} (wd : σ → va_W) (av : List Value) (S : σ) (z : Int32 × σ) : Prop := ∀ sz : Nat, Met l y ws rm (va_Pc av (zPre D tys Nw wd S sz)) (va_Qi (fun (r : Int32) (u : σ) => r = z.1 ∧ u = z.2) (zB D tys wd (va_A (wd S) sz)) (va_A (wd S) sz)) 0 0 (va_A (wd S) sz)
def zJ (l : Launch) (y : MethodName) (ws : List Cond) (rm : Room) (D : va_G) (tys : List (ClassId × FieldType)) (Nw : State → Prop) {σ : Type} (wd : σ → va_W) (av : List Value) (S : σ) (z : Int64 × σ) : Prop := ∀ sz : Nat, Met l y ws rm (va_Pc av (zPre D tys Nw wd S sz)) (va_Ql (fun (r : Int64) (u : σ) => r = z.1 ∧ u = z.2) (zB D tys wd (va_A (wd S) sz)) (va_A (wd S) sz)) 0 0 (va_A (wd S) sz)
def zU (l : Launch) (y : MethodName) (ws : List Cond) (rm : Room) (D : va_G) (tys : List (ClassId × FieldType)) (Nw : State → Prop) {σ : Type} (wd : σ → va_W) (av : List Value) (S : σ) (z : σ) : Prop := ∀ sz : Nat, Met l y ws rm (va_Pc av (zPre D tys Nw wd S sz)) (va_Qv (fun (u : σ) => u = z) (zB D tys wd (va_A (wd S) sz)) (va_A (wd S) sz)) 0 0 (va_A (wd S) sz)
def zRI (E : zE) {σ : Type} (wd : σ → va_W) (cc : ByteArray) (ty : FieldType) (z : Int32 × σ) : Prop := ∀ (nL pc : Nat) (lv : List (Nat × Value)), narrow ty (.int z.1) = .int z.1 → decode cc pc = .ok (.ireturn, 1) → zV E wd nL z.2 pc lv [.int z.1]
def zRJ (E : zE) {σ : Type} (wd : σ → va_W) (cc : ByteArray) (z : Int64 × σ) : Prop := ∀ (nL pc : Nat) (lv : List (Nat × Value)), decode cc pc = .ok (.lreturn, 1) → zV E wd nL z.2 pc lv [.long z.1]
def zRU (E : zE) {σ : Type} (wd : σ → va_W) (cc : ByteArray) (z : σ) : Prop := ∀ (nL pc : Nat) (lv : List (Nat × Value)), decode cc pc = .ok (.return_, 1) → zV E wd nL z pc lv []
theorem zretI {E : zE} {σ : Type} {wd : σ → va_W} {cc : ByteArray} {ty : FieldType} {z : Int32 × σ} (hR : zRI E wd cc ty z) {v : Int32} {S : σ} (h : some (v, S) = some z) (hn : narrow ty (.int v) = .int v) {nL pc : Nat} {lv : List (Nat × Value)} (hd : decode cc pc = .ok (.ireturn, 1)) : zV E wd nL S pc lv [.int v] := by
  cases h; exact hR nL pc lv hn hd
theorem zretI1 {E : zE} {σ : Type} {wd : σ → va_W} {cc : ByteArray} {ty : FieldType} {r : Int32} {S : σ} (hR : zRI E wd cc ty (r, S)) {v : Int32} (h : some v = some r) (hn : narrow ty (.int v) = .int v) {nL pc : Nat} {lv : List (Nat × Value)} (hd : decode cc pc = .ok (.ireturn, 1)) : zV E wd nL S pc lv [.int v] := by
  cases h; exact hR nL pc lv hn hd
theorem zretJ {E : zE} {σ : Type} {wd : σ → va_W} {cc : ByteArray} {z : Int64 × σ} (hR : zRJ E wd cc z) {v : Int64} {S : σ} (h : some (v, S) = some z) {nL pc : Nat} {lv : List (Nat × Value)} (hd : decode cc pc = .ok (.lreturn, 1)) : zV E wd nL S pc lv [.long v] := by
  cases h; exact hR nL pc lv hd
theorem zretJ1 {E : zE} {σ : Type} {wd : σ → va_W} {cc : ByteArray} {r : Int64} {S : σ} (hR : zRJ E wd cc (r, S)) {v : Int64} (h : some v = some r) {nL pc : Nat} {lv : List (Nat × Value)} (hd : decode cc pc = .ok (.lreturn, 1)) : zV E wd nL S pc lv [.long v] := by
  cases h; exact hR nL pc lv hd
theorem zretU {E : zE} {σ : Type} {wd : σ → va_W} {cc : ByteArray} {z : σ} (hR : zRU E wd cc z) {S : σ} (h : some S = some z) {nL pc : Nat} {lv : List (Nat × Value)} (hd : decode cc pc = .ok (.return_, 1)) : zV E wd nL S pc lv [] := by
  cases h; exact hR nL pc lv hd
theorem zI_of {l : Launch} {y : MethodName} {ws ws' : List Cond} {rm : Room} {D : va_G} {tys : List (ClassId × FieldType)} {Nw : State → Prop} {σ : Type} {wd : σ → va_W} {av : List Value} {S : σ} {z : Int32 × σ} {cc : ByteArray} {maxL : Nat} {ty : FieldType} (hy : plainName y.cls = true) (hw : ws = Cond.code y cc maxL (some ty) :: ws') (hsl : (lg_sl av).length ≤ maxL) (hN : zNwOk Nw)
    (body : ∀ E : zE, el E = l → eD E = D → zCx E rm cc maxL y.cls ws tys Nw → zRI E wd cc ty z → zV E wd maxL S 0 (lv_args 0 av) []) : zI l y ws rm D tys Nw wd av S z := by
  intro sz
  refine Met.ofW hy hw ?_
  intro p e s m args below meth c s₁ B hml hv
  obtain ⟨rfl, rfl, hP, hK, hD0, hNs⟩ := hv
  have hlk := B.notSynchronized
  have hx := B.exec
  have hb := B.bytes
  have hr := B.returns
  rw [lg_entry_eq]
  refine body (p, l, e, (headSpec ws rm).room, s, m, av.toArray, below, meth, c, _, D, va_A (wd S) s.heap.size) rfl rfl ⟨hx, hb, hml, findClass_of_methodNamed B.named, atoms_spec (ws := ws) B.pre, hK, fun q h => Or.inr h, hNs, hN, rfl⟩ ?_ s.heap [] _ hP hD0.self va_S.rf (lv_entry av hsl)
  intro nL pc lv hn hd H locs ls hP1 hD1 hS1 hl1
  exact W.zret hx hb hr hn (fun t ht hW => ⟨⟨z.1, z.2, rfl, ⟨rfl, rfl⟩, by rw [ht]; exact hP1, va_K.moved hW.alike hK, hD1⟩, hS1.F ht⟩) hS1.2.2 hd hlk
theorem zJ_of {l : Launch} {y : MethodName} {ws ws' : List Cond} {rm : Room} {D : va_G} {tys : List (ClassId × FieldType)} {Nw : State → Prop} {σ : Type} {wd : σ → va_W} {av : List Value} {S : σ} {z : Int64 × σ} {cc : ByteArray} {maxL : Nat} (hy : plainName y.cls = true) (hw : ws = Cond.code y cc maxL (some .long) :: ws') (hsl : (lg_sl av).length ≤ maxL) (hN : zNwOk Nw)
    (body : ∀ E : zE, el E = l → eD E = D → zCx E rm cc maxL y.cls ws tys Nw → zRJ E wd cc z → zV E wd maxL S 0 (lv_args 0 av) []) : zJ l y ws rm D tys Nw wd av S z := by
  intro sz
  refine Met.ofW hy hw ?_
  intro p e s m args below meth c s₁ B hml hv
  obtain ⟨rfl, rfl, hP, hK, hD0, hNs⟩ := hv
  have hlk := B.notSynchronized
  have hx := B.exec
  have hb := B.bytes
  have hr := B.returns
  rw [lg_entry_eq]
  refine body (p, l, e, (headSpec ws rm).room, s, m, av.toArray, below, meth, c, _, D, va_A (wd S) s.heap.size) rfl rfl ⟨hx, hb, hml, findClass_of_methodNamed B.named, atoms_spec (ws := ws) B.pre, hK, fun q h => Or.inr h, hNs, hN, rfl⟩ ?_ s.heap [] _ hP hD0.self va_S.rf (lv_entry av hsl)
  intro nL pc lv hd H locs ls hP1 hD1 hS1 hl1
  exact W.lret hx hb hr (fun t ht hW => ⟨⟨z.1, z.2, rfl, ⟨rfl, rfl⟩, by rw [ht]; exact hP1, va_K.moved hW.alike hK, hD1⟩, hS1.F ht⟩) hS1.2.2 hd hlk
theorem zU_of {l : Launch} {y : MethodName} {ws ws' : List Cond} {rm : Room} {D : va_G} {tys : List (ClassId × FieldType)} {Nw : State → Prop} {σ : Type} {wd : σ → va_W} {av : List Value} {S : σ} {z : σ} {cc : ByteArray} {maxL : Nat} (hy : plainName y.cls = true) (hw : ws = Cond.code y cc maxL none :: ws') (hsl : (lg_sl av).length ≤ maxL) (hN : zNwOk Nw)
    (body : ∀ E : zE, el E = l → eD E = D → zCx E rm cc maxL y.cls ws tys Nw → zRU E wd cc z → zV E wd maxL S 0 (lv_args 0 av) []) : zU l y ws rm D tys Nw wd av S z := by
  intro sz
  refine Met.ofW hy hw ?_
  intro p e s m args below meth c s₁ B hml hv
  obtain ⟨rfl, rfl, hP, hK, hD0, hNs⟩ := hv
  have hlk := B.notSynchronized
  have hx := B.exec
  have hb := B.bytes
  have hr := B.returns
  rw [lg_entry_eq]
  refine body (p, l, e, (headSpec ws rm).room, s, m, av.toArray, below, meth, c, _, D, va_A (wd S) s.heap.size) rfl rfl ⟨hx, hb, hml, findClass_of_methodNamed B.named, atoms_spec (ws := ws) B.pre, hK, fun q h => Or.inr h, hNs, hN, rfl⟩ ?_ s.heap [] _ hP hD0.self va_S.rf (lv_entry av hsl)
  intro nL pc lv hd H locs ls hP1 hD1 hS1 hl1
  exact W.vret hx hb hr (fun t ht hW => ⟨⟨z, rfl, rfl, by rw [ht]; exact hP1, va_K.moved hW.alike hK, hD1⟩, hS1.F ht⟩) hS1.2.2 hd hlk
section ZC
variable {E : zE} {rm rm2 : Room} {σ : Type} {wd : σ → va_W} {nL : Nat} {S : σ} {pc n nA : Nat} {lv : List (Nat × Value)} {st st0 : List Value} {cc : ByteArray} {own : String} {Ts : List Cond} {tys : List (ClassId × FieldType)} {Nw : State → Prop} {y : MethodName} {ws ws2 : List Cond} {bytes : ByteArray} {maxL idx : Nat} {ret : Option FieldType}
theorem zV_callVI (C0 : zCx E rm cc nL own Ts tys Nw) {b : Nat} {As : List Value} {r : Int32} {S2 : σ} (hc : zI (el E) y ws rm2 (eD E) tys Nw wd (.ref b :: As) S (r, S2)) (hG : GoodIn Ts (wsV own idx y.cls y ws)) (hw : ws = Cond.code y bytes maxL ret :: ws2) (hd : y.cls ≠ "java/lang/invoke/MethodHandle" ∧ y.cls ≠ "java/lang/invoke/VarHandle" ∧ (parseMethodDescriptor y.desc).map (fun d => d.parameters.length) = some nA) (hn : As.length = nA) (h0 : rm2.cells = 0 ∧ rm2.slots = 0) (hR : rm2.frames + 1 ≤ rm.frames ∧ 8 + (maxL + 11) + rm2.locals ≤ rm.locals) (q0 : Nat) {ci N : Nat} {fs : List Value} {T : u_T} (hq : (wd S)[q0]? = some (b, .inr (ci, fs))) (hcl : vwCl[ci]? = some (y.cls, T, N)) (hst : st0 = As.reverse ++ .ref b :: st) (hW : (st.map fun v => v.category).sum ≤ 8) (hdg : decode cc pc = .ok (.invokevirtual idx, 3)) (hpc : pc + 3 = n) (k : zV E wd nL S2 n lv (.int r :: st)) : zV E wd nL S pc lv st0 := by
  subst hpc
  intro H locs ls hP hD hS hl
  have hF := zfree hD hS C0.2.2.2.2.2.2.1
  refine va_calli (va_runV (As := As) (rest := st) ⟨C0.1, C0.2.1, C0.2.2.1, C0.2.2.2.1, C0.2.2.2.2.1⟩ (hc H.size) (cwV nA C0.2.2.2.2.1 hG hw h0.1 h0.2 ⟨rfl, hd⟩ (C0.2.2.2.2.2.2.2.2.2 ▸ hR)) ⟨zblind C0.2.2.2.2.2.2.2.2.1, va_recv C0.2.2.2.2.2.1 hP hcl hq, fun U hU hW => ⟨rfl, by rw [hU], by rw [hU]; exact hP, va_K.moved hW.alike C0.2.2.2.2.2.1, hD.weaken (fun _ _ _ _ => trivial), C0.2.2.2.2.2.2.2.2.1.2 _ _ hW C0.2.2.2.2.2.2.2.1⟩⟩ rfl hn hl.1 hst (lv_room hW) hdg ⟨Nat.zero_le _, Nat.zero_le _⟩) hS (fun q _ h => hF q h) hF (fun r1 u t H1 locs1 ht hvm hw hB hz1 hk1 hS1 => ?_)
  obtain ⟨rfl, rfl⟩ := hw
  exact k H1 locs1 ls (ht ▸ hB.1) (hB.2.2.weaken (fun _ q _ h => hF q.1 h)) hS1 hl
theorem zV_callSI (C0 : zCx E rm cc nL own Ts tys Nw) {As : List Value} {r : Int32} {S2 : σ} (hc : zI (el E) y ws rm2 (eD E) tys Nw wd As S (r, S2)) (hG : GoodIn Ts (va_wsS own idx y ws)) (hw : ws = Cond.code y bytes maxL ret :: ws2) (hd : y.cls ≠ "java/lang/invoke/MethodHandle" ∧ y.cls ≠ "java/lang/invoke/VarHandle" ∧ (parseMethodDescriptor y.desc).map (fun d => d.parameters.length) = some nA) (hn : As.length = nA) (h0 : rm2.cells = 0 ∧ rm2.slots = 0) (hR : rm2.frames + 1 ≤ rm.frames ∧ 8 + (maxL + 11) + rm2.locals ≤ rm.locals) (hst : st0 = As.reverse ++ st) (hW : (st.map fun v => v.category).sum ≤ 8) (hdg : decode cc pc = .ok (.invokestatic idx, 3)) (hpc : pc + 3 = n) (k : zV E wd nL S2 n lv (.int r :: st)) : zV E wd nL S pc lv st0 := by
  subst hpc
  intro H locs ls hP hD hS hl
  have hF := zfree hD hS C0.2.2.2.2.2.2.1
  refine va_calli (va_runS (As := As) (rest := st) ⟨C0.1, C0.2.1, C0.2.2.1, C0.2.2.2.1, C0.2.2.2.2.1⟩ (hc H.size) (va_cwS nA C0.2.2.2.2.1 hG hw h0.1 h0.2 hd (C0.2.2.2.2.2.2.2.2.2 ▸ hR)) ⟨zblind C0.2.2.2.2.2.2.2.2.1, fun U hU hW => ⟨rfl, by rw [hU], by rw [hU]; exact hP, va_K.moved hW.alike C0.2.2.2.2.2.1, hD.weaken (fun _ _ _ _ => trivial), C0.2.2.2.2.2.2.2.2.1.2 _ _ hW C0.2.2.2.2.2.2.2.1⟩⟩ rfl hn hl.1 hst (lv_room hW) hdg ⟨Nat.zero_le _, Nat.zero_le _⟩) hS (fun q _ h => hF q h) hF (fun r1 u t H1 locs1 ht hvm hw hB hz1 hk1 hS1 => ?_)
  obtain ⟨rfl, rfl⟩ := hw
  exact k H1 locs1 ls (ht ▸ hB.1) (hB.2.2.weaken (fun _ q _ h => hF q.1 h)) hS1 hl
theorem zV_callVJ (C0 : zCx E rm cc nL own Ts tys Nw) {b : Nat} {As : List Value} {r : Int64} {S2 : σ} (hc : zJ (el E) y ws rm2 (eD E) tys Nw wd (.ref b :: As) S (r, S2)) (hG : GoodIn Ts (wsV own idx y.cls y ws)) (hw : ws = Cond.code y bytes maxL ret :: ws2) (hd : y.cls ≠ "java/lang/invoke/MethodHandle" ∧ y.cls ≠ "java/lang/invoke/VarHandle" ∧ (parseMethodDescriptor y.desc).map (fun d => d.parameters.length) = some nA) (hn : As.length = nA) (h0 : rm2.cells = 0 ∧ rm2.slots = 0) (hR : rm2.frames + 1 ≤ rm.frames ∧ 8 + (maxL + 11) + rm2.locals ≤ rm.locals) (q0 : Nat) {ci N : Nat} {fs : List Value} {T : u_T} (hq : (wd S)[q0]? = some (b, .inr (ci, fs))) (hcl : vwCl[ci]? = some (y.cls, T, N)) (hst : st0 = As.reverse ++ .ref b :: st) (hW : (st.map fun v => v.category).sum ≤ 8) (hdg : decode cc pc = .ok (.invokevirtual idx, 3)) (hpc : pc + 3 = n) (k : zV E wd nL S2 n lv (.long r :: st)) : zV E wd nL S pc lv st0 := by
  subst hpc
  intro H locs ls hP hD hS hl
  have hF := zfree hD hS C0.2.2.2.2.2.2.1
  refine va_calll (va_runV (As := As) (rest := st) ⟨C0.1, C0.2.1, C0.2.2.1, C0.2.2.2.1, C0.2.2.2.2.1⟩ (hc H.size) (cwV nA C0.2.2.2.2.1 hG hw h0.1 h0.2 ⟨rfl, hd⟩ (C0.2.2.2.2.2.2.2.2.2 ▸ hR)) ⟨zblind C0.2.2.2.2.2.2.2.2.1, va_recv C0.2.2.2.2.2.1 hP hcl hq, fun U hU hW => ⟨rfl, by rw [hU], by rw [hU]; exact hP, va_K.moved hW.alike C0.2.2.2.2.2.1, hD.weaken (fun _ _ _ _ => trivial), C0.2.2.2.2.2.2.2.2.1.2 _ _ hW C0.2.2.2.2.2.2.2.1⟩⟩ rfl hn hl.1 hst (lv_room hW) hdg ⟨Nat.zero_le _, Nat.zero_le _⟩) hS (fun q _ h => hF q h) hF (fun r1 u t H1 locs1 ht hvm hw hB hz1 hk1 hS1 => ?_)
  obtain ⟨rfl, rfl⟩ := hw
  exact k H1 locs1 ls (ht ▸ hB.1) (hB.2.2.weaken (fun _ q _ h => hF q.1 h)) hS1 hl
theorem zV_callSJ (C0 : zCx E rm cc nL own Ts tys Nw) {As : List Value} {r : Int64} {S2 : σ} (hc : zJ (el E) y ws rm2 (eD E) tys Nw wd As S (r, S2)) (hG : GoodIn Ts (va_wsS own idx y ws)) (hw : ws = Cond.code y bytes maxL ret :: ws2) (hd : y.cls ≠ "java/lang/invoke/MethodHandle" ∧ y.cls ≠ "java/lang/invoke/VarHandle" ∧ (parseMethodDescriptor y.desc).map (fun d => d.parameters.length) = some nA) (hn : As.length = nA) (h0 : rm2.cells = 0 ∧ rm2.slots = 0) (hR : rm2.frames + 1 ≤ rm.frames ∧ 8 + (maxL + 11) + rm2.locals ≤ rm.locals) (hst : st0 = As.reverse ++ st) (hW : (st.map fun v => v.category).sum ≤ 8) (hdg : decode cc pc = .ok (.invokestatic idx, 3)) (hpc : pc + 3 = n) (k : zV E wd nL S2 n lv (.long r :: st)) : zV E wd nL S pc lv st0 := by
  subst hpc
  intro H locs ls hP hD hS hl
  have hF := zfree hD hS C0.2.2.2.2.2.2.1
  refine va_calll (va_runS (As := As) (rest := st) ⟨C0.1, C0.2.1, C0.2.2.1, C0.2.2.2.1, C0.2.2.2.2.1⟩ (hc H.size) (va_cwS nA C0.2.2.2.2.1 hG hw h0.1 h0.2 hd (C0.2.2.2.2.2.2.2.2.2 ▸ hR)) ⟨zblind C0.2.2.2.2.2.2.2.2.1, fun U hU hW => ⟨rfl, by rw [hU], by rw [hU]; exact hP, va_K.moved hW.alike C0.2.2.2.2.2.1, hD.weaken (fun _ _ _ _ => trivial), C0.2.2.2.2.2.2.2.2.1.2 _ _ hW C0.2.2.2.2.2.2.2.1⟩⟩ rfl hn hl.1 hst (lv_room hW) hdg ⟨Nat.zero_le _, Nat.zero_le _⟩) hS (fun q _ h => hF q h) hF (fun r1 u t H1 locs1 ht hvm hw hB hz1 hk1 hS1 => ?_)
  obtain ⟨rfl, rfl⟩ := hw
  exact k H1 locs1 ls (ht ▸ hB.1) (hB.2.2.weaken (fun _ q _ h => hF q.1 h)) hS1 hl
theorem zV_callVU (C0 : zCx E rm cc nL own Ts tys Nw) {b : Nat} {As : List Value} {S2 : σ} (hc : zU (el E) y ws rm2 (eD E) tys Nw wd (.ref b :: As) S S2) (hG : GoodIn Ts (wsV own idx y.cls y ws)) (hw : ws = Cond.code y bytes maxL ret :: ws2) (hd : y.cls ≠ "java/lang/invoke/MethodHandle" ∧ y.cls ≠ "java/lang/invoke/VarHandle" ∧ (parseMethodDescriptor y.desc).map (fun d => d.parameters.length) = some nA) (hn : As.length = nA) (h0 : rm2.cells = 0 ∧ rm2.slots = 0) (hR : rm2.frames + 1 ≤ rm.frames ∧ 8 + (maxL + 11) + rm2.locals ≤ rm.locals) (q0 : Nat) {ci N : Nat} {fs : List Value} {T : u_T} (hq : (wd S)[q0]? = some (b, .inr (ci, fs))) (hcl : vwCl[ci]? = some (y.cls, T, N)) (hst : st0 = As.reverse ++ .ref b :: st) (hW : (st.map fun v => v.category).sum ≤ 8) (hdg : decode cc pc = .ok (.invokevirtual idx, 3)) (hpc : pc + 3 = n) (k : zV E wd nL S2 n lv (st)) : zV E wd nL S pc lv st0 := by
  subst hpc
  intro H locs ls hP hD hS hl
  have hF := zfree hD hS C0.2.2.2.2.2.2.1
  refine va_callv (va_runV (As := As) (rest := st) ⟨C0.1, C0.2.1, C0.2.2.1, C0.2.2.2.1, C0.2.2.2.2.1⟩ (hc H.size) (cwV nA C0.2.2.2.2.1 hG hw h0.1 h0.2 ⟨rfl, hd⟩ (C0.2.2.2.2.2.2.2.2.2 ▸ hR)) ⟨zblind C0.2.2.2.2.2.2.2.2.1, va_recv C0.2.2.2.2.2.1 hP hcl hq, fun U hU hW => ⟨rfl, by rw [hU], by rw [hU]; exact hP, va_K.moved hW.alike C0.2.2.2.2.2.1, hD.weaken (fun _ _ _ _ => trivial), C0.2.2.2.2.2.2.2.2.1.2 _ _ hW C0.2.2.2.2.2.2.2.1⟩⟩ rfl hn hl.1 hst (lv_room hW) hdg ⟨Nat.zero_le _, Nat.zero_le _⟩) hS (fun q _ h => hF q h) hF (fun u t H1 locs1 ht hvm hw hB hz1 hk1 hS1 => ?_)
  have hw : u = S2 := hw
  subst hw
  exact k H1 locs1 ls (ht ▸ hB.1) (hB.2.2.weaken (fun _ q _ h => hF q.1 h)) hS1 hl
theorem zV_callSU (C0 : zCx E rm cc nL own Ts tys Nw) {As : List Value} {S2 : σ} (hc : zU (el E) y ws rm2 (eD E) tys Nw wd As S S2) (hG : GoodIn Ts (va_wsS own idx y ws)) (hw : ws = Cond.code y bytes maxL ret :: ws2) (hd : y.cls ≠ "java/lang/invoke/MethodHandle" ∧ y.cls ≠ "java/lang/invoke/VarHandle" ∧ (parseMethodDescriptor y.desc).map (fun d => d.parameters.length) = some nA) (hn : As.length = nA) (h0 : rm2.cells = 0 ∧ rm2.slots = 0) (hR : rm2.frames + 1 ≤ rm.frames ∧ 8 + (maxL + 11) + rm2.locals ≤ rm.locals) (hst : st0 = As.reverse ++ st) (hW : (st.map fun v => v.category).sum ≤ 8) (hdg : decode cc pc = .ok (.invokestatic idx, 3)) (hpc : pc + 3 = n) (k : zV E wd nL S2 n lv (st)) : zV E wd nL S pc lv st0 := by
  subst hpc
  intro H locs ls hP hD hS hl
  have hF := zfree hD hS C0.2.2.2.2.2.2.1
  refine va_callv (va_runS (As := As) (rest := st) ⟨C0.1, C0.2.1, C0.2.2.1, C0.2.2.2.1, C0.2.2.2.2.1⟩ (hc H.size) (va_cwS nA C0.2.2.2.2.1 hG hw h0.1 h0.2 hd (C0.2.2.2.2.2.2.2.2.2 ▸ hR)) ⟨zblind C0.2.2.2.2.2.2.2.2.1, fun U hU hW => ⟨rfl, by rw [hU], by rw [hU]; exact hP, va_K.moved hW.alike C0.2.2.2.2.2.1, hD.weaken (fun _ _ _ _ => trivial), C0.2.2.2.2.2.2.2.2.1.2 _ _ hW C0.2.2.2.2.2.2.2.1⟩⟩ rfl hn hl.1 hst (lv_room hW) hdg ⟨Nat.zero_le _, Nat.zero_le _⟩) hS (fun q _ h => hF q h) hF (fun u t H1 locs1 ht hvm hw hB hz1 hk1 hS1 => ?_)
  have hw : u = S2 := hw
  subst hw
  exact k H1 locs1 ls (ht ▸ hB.1) (hB.2.2.weaken (fun _ q _ h => hF q.1 h)) hS1 hl
theorem zV_callS0 (C0 : zCx E rm cc nL own Ts tys Nw) {As : List Value} {r : Int32} (hc : zI (el E) y ws rm2 (eD E) tys Nw (fun _ : Unit => []) As () (r, ())) (hG : GoodIn Ts (va_wsS own idx y ws)) (hw : ws = Cond.code y bytes maxL ret :: ws2) (hd : y.cls ≠ "java/lang/invoke/MethodHandle" ∧ y.cls ≠ "java/lang/invoke/VarHandle" ∧ (parseMethodDescriptor y.desc).map (fun d => d.parameters.length) = some nA) (hn : As.length = nA) (h0 : rm2.cells = 0 ∧ rm2.slots = 0) (hR : rm2.frames + 1 ≤ rm.frames ∧ 8 + (maxL + 11) + rm2.locals ≤ rm.locals) (hst : st0 = As.reverse ++ st) (hW : (st.map fun v => v.category).sum ≤ 8) (hdg : decode cc pc = .ok (.invokestatic idx, 3)) (hpc : pc + 3 = n) (k : zV E wd nL S n lv (.int r :: st)) : zV E wd nL S pc lv st0 := by
  subst hpc
  intro H locs ls hP hD hS hl
  have hF : ∀ q : Nat, va_A [] H.size q → eA E q := zfree (ws := []) ⟨fun i j p q h => by simp at h, fun k q h => by simp at h⟩ hS C0.2.2.2.2.2.2.1
  refine va_calli (va_runS (As := As) (rest := st) ⟨C0.1, C0.2.1, C0.2.2.1, C0.2.2.2.1, C0.2.2.2.2.1⟩ (hc H.size) (va_cwS nA C0.2.2.2.2.1 hG hw h0.1 h0.2 hd (C0.2.2.2.2.2.2.2.2.2 ▸ hR)) ⟨zblind C0.2.2.2.2.2.2.2.2.1, fun U hU hW => ⟨rfl, by rw [hU], fun k q h => by simp at h, va_K.moved hW.alike C0.2.2.2.2.2.1, ⟨fun i j p q h => by simp at h, fun k q h => by simp at h⟩, C0.2.2.2.2.2.2.2.2.1.2 _ _ hW C0.2.2.2.2.2.2.2.1⟩⟩ rfl hn hl.1 hst (lv_room hW) hdg ⟨Nat.zero_le _, Nat.zero_le _⟩) hS (fun q _ h => hF q h) hF (fun r u t H1 locs1 ht hvm hw hB hz1 hk1 hS1 => ?_)
  obtain ⟨rfl, -⟩ := hw
  exact k H1 locs1 ls (zkeep hP hk1) hD hS1 hl
theorem zV_callSN0 (C0 : zCx E rm cc nL own Ts tys Nw) {host : String} {As : List Value} {r : Int32} (hc : zI (el E) y ws rm2 (eD E) tys Nw (fun _ : Unit => []) As () (r, ())) (hG : GoodIn Ts ws) (hw : ws = Cond.code y bytes maxL ret :: ws2) (hl0 : Nw (es E) → va_Nw (.methodLinkNest own idx y host) (es E)) (hsw : Cond.static y ∈ Ts) (hini : Cond.initialized y.cls ∈ Ts) (hd : y.cls ≠ "java/lang/invoke/MethodHandle" ∧ y.cls ≠ "java/lang/invoke/VarHandle" ∧ (parseMethodDescriptor y.desc).map (fun d => d.parameters.length) = some nA) (hn : As.length = nA) (h0 : rm2.cells = 0 ∧ rm2.slots = 0) (hR : rm2.frames + 1 ≤ rm.frames ∧ 8 + (maxL + 11) + rm2.locals ≤ rm.locals) (hst : st0 = As.reverse ++ st) (hW : (st.map fun v => v.category).sum ≤ 8) (hdg : decode cc pc = .ok (.invokestatic idx, 3)) (hpc : pc + 3 = n) (k : zV E wd nL S n lv (.int r :: st)) : zV E wd nL S pc lv st0 := by
  subst hpc
  intro H locs ls hP hD hS hl
  have hF : ∀ q : Nat, va_A [] H.size q → eA E q := zfree (ws := []) ⟨fun i j p q h => by simp at h, fun k q h => by simp at h⟩ hS C0.2.2.2.2.2.2.1
  refine va_calli (va_runSN (As := As) (rest := st) ⟨C0.1, C0.2.1, C0.2.2.1, C0.2.2.2.1, C0.2.2.2.2.1⟩ (hc H.size) ⟨va_cnB nA C0.2.2.2.2.1 hG hw h0.1 h0.2 (hl0 C0.2.2.2.2.2.2.2.1) (C0.2.2.2.2.1 _ hini) hd (C0.2.2.2.2.2.2.2.2.2 ▸ hR), C0.2.2.2.2.1 _ hsw, trivial⟩ ⟨zblind C0.2.2.2.2.2.2.2.2.1, fun U hU hW => ⟨rfl, by rw [hU], fun k q h => by simp at h, va_K.moved hW.alike C0.2.2.2.2.2.1, ⟨fun i j p q h => by simp at h, fun k q h => by simp at h⟩, C0.2.2.2.2.2.2.2.2.1.2 _ _ hW C0.2.2.2.2.2.2.2.1⟩⟩ rfl hn hl.1 hst (lv_room hW) hdg ⟨Nat.zero_le _, Nat.zero_le _⟩) hS (fun q _ h => hF q h) hF (fun r u t H1 locs1 ht hvm hw hB hz1 hk1 hS1 => ?_)
  obtain ⟨rfl, -⟩ := hw
  exact k H1 locs1 ls (zkeep hP hk1) hD hS1 hl
end ZC
