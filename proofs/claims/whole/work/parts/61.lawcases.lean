/-! ===== the law's cases: each call asked of both; printed by wip/whole/gen/law.py ===== -/
theorem lg_cmp_self (r : Int64) : lg_cmp r r = 0 := by
  unfold lg_cmp; simp
set_option maxHeartbeats 4000000 in
theorem law_write {E : zE} {cI cZ : ClassId} {qC qM b L i0 : Nat} {aC aM : Nat → Nat} {xs : Nat → Int32} {S M : zS} (C0 : zCx E room_1 cL_law 4 RL wsL_law (zty cI cZ) zNw) (X0 : va_X b L xs (es E) (es E).heap ∧ b < (es E).heap.size ∧ ¬ eA E b) (hi : i0 + 6 ≤ L) (hL : L ≤ 3072) (h : Rel S M) (k : ∀ S1 M1 : zS, Rel S1 M1 → zL E (wC cI qC aC S1 ++ wM cI cZ qM aM M1) 1063 [(3, .int (nI i0)), (2, .ref qM), (1, .ref qC), (0, .ref b)] []) : zL E (wC cI qC aC S ++ wM cI cZ qM aM M) 160 [(3, .int (nI i0)), (2, .ref qM), (1, .ref qC), (0, .ref b)] [] := by
  obtain ⟨r, S', M', e1, e2, hR⟩ := c_write (xs (i0 + 1)) S M h
  refine zL_aload C0 2 dL_law_160 rfl rfl ?_
  refine zL_arg C0 X0 (k := 1) hL (by omega) dL_law_161 dL_law_162 dL_law_163 dL_law_164 dL_law_165 ?_
  refine zL_callCI C0 (y := yX4_write) (maxL := _) (nA := 1) (As := [.int (xs (i0 + 1))]) (k_X4_write (xs (i0 + 1)) S (r, S') e1) gL_law_X4_write rfl ⟨by decide +kernel, rfl, rfl, rfl⟩ rfl ⟨Nat.le_of_ble_eq_true rfl, Nat.le_of_ble_eq_true rfl⟩ rfl (Nat.le_of_ble_eq_true rfl) dL_law_166 rfl ?_
  refine zL_aload C0 1 dL_law_169 rfl rfl ?_
  refine zL_arg C0 X0 (k := 1) hL (by omega) dL_law_170 dL_law_171 dL_law_172 dL_law_173 dL_law_174 ?_
  refine zL_callMI C0 (y := yX5_write) (maxL := _) (nA := 1) (As := [.int (xs (i0 + 1))]) (k_X5_write (xs (i0 + 1)) M (r, M') e2) gL_law_X5_write rfl ⟨by decide +kernel, rfl, rfl, rfl⟩ rfl ⟨Nat.le_of_ble_eq_true rfl, Nat.le_of_ble_eq_true rfl⟩ rfl (Nat.le_of_ble_eq_true rfl) dL_law_175 rfl ?_
  refine zL_eq C0 (tgt := 1063) dL_law_178 (by decide) ?_
  exact k S' M' hR
set_option maxHeartbeats 4000000 in
theorem law_wipe {E : zE} {cI cZ : ClassId} {qC qM b L i0 : Nat} {aC aM : Nat → Nat} {xs : Nat → Int32} {S M : zS} (C0 : zCx E room_1 cL_law 4 RL wsL_law (zty cI cZ) zNw) (X0 : va_X b L xs (es E) (es E).heap ∧ b < (es E).heap.size ∧ ¬ eA E b) (hi : i0 + 6 ≤ L) (hL : L ≤ 3072) (h : Rel S M) (k : ∀ S1 M1 : zS, Rel S1 M1 → zL E (wC cI qC aC S1 ++ wM cI cZ qM aM M1) 1063 [(3, .int (nI i0)), (2, .ref qM), (1, .ref qC), (0, .ref b)] []) : zL E (wC cI qC aC S ++ wM cI cZ qM aM M) 183 [(3, .int (nI i0)), (2, .ref qM), (1, .ref qC), (0, .ref b)] [] := by
  obtain ⟨r, S', M', e1, e2, hR⟩ := c_wipe  S M h
  refine zL_aload C0 2 dL_law_183 rfl rfl ?_
  refine zL_callCI C0 (y := yX4_wipe) (maxL := _) (nA := 0) (As := []) (k_X4_wipe  S (r, S') e1) gL_law_X4_wipe rfl ⟨by decide +kernel, rfl, rfl, rfl⟩ rfl ⟨Nat.le_of_ble_eq_true rfl, Nat.le_of_ble_eq_true rfl⟩ rfl (Nat.le_of_ble_eq_true rfl) dL_law_184 rfl ?_
  refine zL_aload C0 1 dL_law_187 rfl rfl ?_
  refine zL_callMI C0 (y := yX5_wipe) (maxL := _) (nA := 0) (As := []) (k_X5_wipe  M (r, M') e2) gL_law_X5_wipe rfl ⟨by decide +kernel, rfl, rfl, rfl⟩ rfl ⟨Nat.le_of_ble_eq_true rfl, Nat.le_of_ble_eq_true rfl⟩ rfl (Nat.le_of_ble_eq_true rfl) dL_law_188 rfl ?_
  refine zL_eq C0 (tgt := 1063) dL_law_191 (by decide) ?_
  exact k S' M' hR
set_option maxHeartbeats 4000000 in
theorem law_fault {E : zE} {cI cZ : ClassId} {qC qM b L i0 : Nat} {aC aM : Nat → Nat} {xs : Nat → Int32} {S M : zS} (C0 : zCx E room_1 cL_law 4 RL wsL_law (zty cI cZ) zNw) (X0 : va_X b L xs (es E) (es E).heap ∧ b < (es E).heap.size ∧ ¬ eA E b) (hi : i0 + 6 ≤ L) (hL : L ≤ 3072) (h : Rel S M) (k : ∀ S1 M1 : zS, Rel S1 M1 → zL E (wC cI qC aC S1 ++ wM cI cZ qM aM M1) 1063 [(3, .int (nI i0)), (2, .ref qM), (1, .ref qC), (0, .ref b)] []) : zL E (wC cI qC aC S ++ wM cI cZ qM aM M) 196 [(3, .int (nI i0)), (2, .ref qM), (1, .ref qC), (0, .ref b)] [] := by
  obtain ⟨r, M', e1, e2, hR⟩ := c_fault  S M h
  refine zL_aload C0 2 dL_law_196 rfl rfl ?_
  refine zL_callCI C0 (y := yX4_fault) (maxL := _) (nA := 0) (As := []) (k_X4_fault  S r e1) gL_law_X4_fault rfl ⟨by decide +kernel, rfl, rfl, rfl⟩ rfl ⟨Nat.le_of_ble_eq_true rfl, Nat.le_of_ble_eq_true rfl⟩ rfl (Nat.le_of_ble_eq_true rfl) dL_law_197 rfl ?_
  refine zL_aload C0 1 dL_law_200 rfl rfl ?_
  refine zL_callMI C0 (y := yX5_fault) (maxL := _) (nA := 0) (As := []) (k_X5_fault  M (r, M') e2) gL_law_X5_fault rfl ⟨by decide +kernel, rfl, rfl, rfl⟩ rfl ⟨Nat.le_of_ble_eq_true rfl, Nat.le_of_ble_eq_true rfl⟩ rfl (Nat.le_of_ble_eq_true rfl) dL_law_201 rfl ?_
  refine zL_eq C0 (tgt := 1063) dL_law_204 (by decide) ?_
  exact k S M' hR
set_option maxHeartbeats 4000000 in
theorem law_tunnel {E : zE} {cI cZ : ClassId} {qC qM b L i0 : Nat} {aC aM : Nat → Nat} {xs : Nat → Int32} {S M : zS} (C0 : zCx E room_1 cL_law 4 RL wsL_law (zty cI cZ) zNw) (X0 : va_X b L xs (es E) (es E).heap ∧ b < (es E).heap.size ∧ ¬ eA E b) (hi : i0 + 6 ≤ L) (hL : L ≤ 3072) (h : Rel S M) (k : ∀ S1 M1 : zS, Rel S1 M1 → zL E (wC cI qC aC S1 ++ wM cI cZ qM aM M1) 1063 [(3, .int (nI i0)), (2, .ref qM), (1, .ref qC), (0, .ref b)] []) : zL E (wC cI qC aC S ++ wM cI cZ qM aM M) 209 [(3, .int (nI i0)), (2, .ref qM), (1, .ref qC), (0, .ref b)] [] := by
  obtain ⟨r, S', M', e1, e2, hR⟩ := c_tunnel  S M h
  refine zL_aload C0 2 dL_law_209 rfl rfl ?_
  refine zL_callCI C0 (y := yX4_tunnel) (maxL := _) (nA := 0) (As := []) (k_X4_tunnel  S (r, S') e1) gL_law_X4_tunnel rfl ⟨by decide +kernel, rfl, rfl, rfl⟩ rfl ⟨Nat.le_of_ble_eq_true rfl, Nat.le_of_ble_eq_true rfl⟩ rfl (Nat.le_of_ble_eq_true rfl) dL_law_210 rfl ?_
  refine zL_aload C0 1 dL_law_213 rfl rfl ?_
  refine zL_callMI C0 (y := yX5_tunnel) (maxL := _) (nA := 0) (As := []) (k_X5_tunnel  M (r, M') e2) gL_law_X5_tunnel rfl ⟨by decide +kernel, rfl, rfl, rfl⟩ rfl ⟨Nat.le_of_ble_eq_true rfl, Nat.le_of_ble_eq_true rfl⟩ rfl (Nat.le_of_ble_eq_true rfl) dL_law_214 rfl ?_
  refine zL_eq C0 (tgt := 1063) dL_law_217 (by decide) ?_
  exact k S' M' hR
set_option maxHeartbeats 4000000 in
theorem law_about {E : zE} {cI cZ : ClassId} {qC qM b L i0 : Nat} {aC aM : Nat → Nat} {xs : Nat → Int32} {S M : zS} (C0 : zCx E room_1 cL_law 4 RL wsL_law (zty cI cZ) zNw) (X0 : va_X b L xs (es E) (es E).heap ∧ b < (es E).heap.size ∧ ¬ eA E b) (hi : i0 + 6 ≤ L) (hL : L ≤ 3072) (h : Rel S M) (k : ∀ S1 M1 : zS, Rel S1 M1 → zL E (wC cI qC aC S1 ++ wM cI cZ qM aM M1) 1063 [(3, .int (nI i0)), (2, .ref qM), (1, .ref qC), (0, .ref b)] []) : zL E (wC cI qC aC S ++ wM cI cZ qM aM M) 222 [(3, .int (nI i0)), (2, .ref qM), (1, .ref qC), (0, .ref b)] [] := by
  obtain ⟨r, M', e1, e2, hR⟩ := c_about (xs (i0 + 1)) S M h
  refine zL_aload C0 2 dL_law_222 rfl rfl ?_
  refine zL_arg C0 X0 (k := 1) hL (by omega) dL_law_223 dL_law_224 dL_law_225 dL_law_226 dL_law_227 ?_
  refine zL_callCI C0 (y := yX4_about) (maxL := _) (nA := 1) (As := [.int (xs (i0 + 1))]) (k_X4_about (xs (i0 + 1)) S r e1) gL_law_X4_about rfl ⟨by decide +kernel, rfl, rfl, rfl⟩ rfl ⟨Nat.le_of_ble_eq_true rfl, Nat.le_of_ble_eq_true rfl⟩ rfl (Nat.le_of_ble_eq_true rfl) dL_law_228 rfl ?_
  refine zL_aload C0 1 dL_law_231 rfl rfl ?_
  refine zL_arg C0 X0 (k := 1) hL (by omega) dL_law_232 dL_law_233 dL_law_234 dL_law_235 dL_law_236 ?_
  refine zL_callMI C0 (y := yX5_about) (maxL := _) (nA := 1) (As := [.int (xs (i0 + 1))]) (k_X5_about (xs (i0 + 1)) M (r, M') e2) gL_law_X5_about rfl ⟨by decide +kernel, rfl, rfl, rfl⟩ rfl ⟨Nat.le_of_ble_eq_true rfl, Nat.le_of_ble_eq_true rfl⟩ rfl (Nat.le_of_ble_eq_true rfl) dL_law_237 rfl ?_
  refine zL_eq C0 (tgt := 1063) dL_law_240 (by decide) ?_
  exact k S M' hR
set_option maxHeartbeats 4000000 in
theorem law_legger {E : zE} {cI cZ : ClassId} {qC qM b L i0 : Nat} {aC aM : Nat → Nat} {xs : Nat → Int32} {S M : zS} (C0 : zCx E room_1 cL_law 4 RL wsL_law (zty cI cZ) zNw) (X0 : va_X b L xs (es E) (es E).heap ∧ b < (es E).heap.size ∧ ¬ eA E b) (hi : i0 + 6 ≤ L) (hL : L ≤ 3072) (h : Rel S M) (k : ∀ S1 M1 : zS, Rel S1 M1 → zL E (wC cI qC aC S1 ++ wM cI cZ qM aM M1) 1063 [(3, .int (nI i0)), (2, .ref qM), (1, .ref qC), (0, .ref b)] []) : zL E (wC cI qC aC S ++ wM cI cZ qM aM M) 245 [(3, .int (nI i0)), (2, .ref qM), (1, .ref qC), (0, .ref b)] [] := by
  obtain ⟨r, M', e1, e2, hR⟩ := c_legger (xs (i0 + 1)) (xs (i0 + 2)) S M h
  refine zL_aload C0 2 dL_law_245 rfl rfl ?_
  refine zL_arg C0 X0 (k := 1) hL (by omega) dL_law_246 dL_law_247 dL_law_248 dL_law_249 dL_law_250 ?_
  refine zL_arg C0 X0 (k := 2) hL (by omega) dL_law_251 dL_law_252 dL_law_253 dL_law_254 dL_law_255 ?_
  refine zL_callCI C0 (y := yX4_legger) (maxL := _) (nA := 2) (As := [.int (xs (i0 + 1)), .int (xs (i0 + 2))]) (k_X4_legger (xs (i0 + 1)) (xs (i0 + 2)) S r e1) gL_law_X4_legger rfl ⟨by decide +kernel, rfl, rfl, rfl⟩ rfl ⟨Nat.le_of_ble_eq_true rfl, Nat.le_of_ble_eq_true rfl⟩ rfl (Nat.le_of_ble_eq_true rfl) dL_law_256 rfl ?_
  refine zL_aload C0 1 dL_law_259 rfl rfl ?_
  refine zL_arg C0 X0 (k := 1) hL (by omega) dL_law_260 dL_law_261 dL_law_262 dL_law_263 dL_law_264 ?_
  refine zL_arg C0 X0 (k := 2) hL (by omega) dL_law_265 dL_law_266 dL_law_267 dL_law_268 dL_law_269 ?_
  refine zL_callMI C0 (y := yX5_legger) (maxL := _) (nA := 2) (As := [.int (xs (i0 + 1)), .int (xs (i0 + 2))]) (k_X5_legger (xs (i0 + 1)) (xs (i0 + 2)) M (r, M') e2) gL_law_X5_legger rfl ⟨by decide +kernel, rfl, rfl, rfl⟩ rfl ⟨Nat.le_of_ble_eq_true rfl, Nat.le_of_ble_eq_true rfl⟩ rfl (Nat.le_of_ble_eq_true rfl) dL_law_270 rfl ?_
  refine zL_eq C0 (tgt := 1063) dL_law_273 (by decide) ?_
  exact k S M' hR
set_option maxHeartbeats 4000000 in
theorem law_load {E : zE} {cI cZ : ClassId} {qC qM b L i0 : Nat} {aC aM : Nat → Nat} {xs : Nat → Int32} {S M : zS} (C0 : zCx E room_1 cL_law 4 RL wsL_law (zty cI cZ) zNw) (X0 : va_X b L xs (es E) (es E).heap ∧ b < (es E).heap.size ∧ ¬ eA E b) (hi : i0 + 6 ≤ L) (hL : L ≤ 3072) (h : Rel S M) (k : ∀ S1 M1 : zS, Rel S1 M1 → zL E (wC cI qC aC S1 ++ wM cI cZ qM aM M1) 1063 [(3, .int (nI i0)), (2, .ref qM), (1, .ref qC), (0, .ref b)] []) : zL E (wC cI qC aC S ++ wM cI cZ qM aM M) 278 [(3, .int (nI i0)), (2, .ref qM), (1, .ref qC), (0, .ref b)] [] := by
  obtain ⟨r, M', e1, e2, hR⟩ := c_load (xs (i0 + 1)) S M h
  refine zL_aload C0 2 dL_law_278 rfl rfl ?_
  refine zL_arg C0 X0 (k := 1) hL (by omega) dL_law_279 dL_law_280 dL_law_281 dL_law_282 dL_law_283 ?_
  refine zL_callCI C0 (y := yX4_load) (maxL := _) (nA := 1) (As := [.int (xs (i0 + 1))]) (k_X4_load (xs (i0 + 1)) S r e1) gL_law_X4_load rfl ⟨by decide +kernel, rfl, rfl, rfl⟩ rfl ⟨Nat.le_of_ble_eq_true rfl, Nat.le_of_ble_eq_true rfl⟩ rfl (Nat.le_of_ble_eq_true rfl) dL_law_284 rfl ?_
  refine zL_aload C0 1 dL_law_287 rfl rfl ?_
  refine zL_arg C0 X0 (k := 1) hL (by omega) dL_law_288 dL_law_289 dL_law_290 dL_law_291 dL_law_292 ?_
  refine zL_callMI C0 (y := yX5_load) (maxL := _) (nA := 1) (As := [.int (xs (i0 + 1))]) (k_X5_load (xs (i0 + 1)) M (r, M') e2) gL_law_X5_load rfl ⟨by decide +kernel, rfl, rfl, rfl⟩ rfl ⟨Nat.le_of_ble_eq_true rfl, Nat.le_of_ble_eq_true rfl⟩ rfl (Nat.le_of_ble_eq_true rfl) dL_law_293 rfl ?_
  refine zL_eq C0 (tgt := 1063) dL_law_296 (by decide) ?_
  exact k S M' hR
set_option maxHeartbeats 4000000 in
theorem law_leg {E : zE} {cI cZ : ClassId} {qC qM b L i0 : Nat} {aC aM : Nat → Nat} {xs : Nat → Int32} {S M : zS} (C0 : zCx E room_1 cL_law 4 RL wsL_law (zty cI cZ) zNw) (X0 : va_X b L xs (es E) (es E).heap ∧ b < (es E).heap.size ∧ ¬ eA E b) (hi : i0 + 6 ≤ L) (hL : L ≤ 3072) (h : Rel S M) (k : ∀ S1 M1 : zS, Rel S1 M1 → zL E (wC cI qC aC S1 ++ wM cI cZ qM aM M1) 1063 [(3, .int (nI i0)), (2, .ref qM), (1, .ref qC), (0, .ref b)] []) : zL E (wC cI qC aC S ++ wM cI cZ qM aM M) 301 [(3, .int (nI i0)), (2, .ref qM), (1, .ref qC), (0, .ref b)] [] := by
  obtain ⟨r, S', M', e1, e2, hR⟩ := c_leg (xs (i0 + 1)) (xs (i0 + 2)) (xs (i0 + 3)) S M h
  refine zL_aload C0 2 dL_law_301 rfl rfl ?_
  refine zL_arg C0 X0 (k := 1) hL (by omega) dL_law_302 dL_law_303 dL_law_304 dL_law_305 dL_law_306 ?_
  refine zL_arg C0 X0 (k := 2) hL (by omega) dL_law_307 dL_law_308 dL_law_309 dL_law_310 dL_law_311 ?_
  refine zL_arg C0 X0 (k := 3) hL (by omega) dL_law_312 dL_law_313 dL_law_314 dL_law_315 dL_law_316 ?_
  refine zL_callCI C0 (y := yX4_leg) (maxL := _) (nA := 3) (As := [.int (xs (i0 + 1)), .int (xs (i0 + 2)), .int (xs (i0 + 3))]) (k_X4_leg (xs (i0 + 1)) (xs (i0 + 2)) (xs (i0 + 3)) S (r, S') e1) gL_law_X4_leg rfl ⟨by decide +kernel, rfl, rfl, rfl⟩ rfl ⟨Nat.le_of_ble_eq_true rfl, Nat.le_of_ble_eq_true rfl⟩ rfl (Nat.le_of_ble_eq_true rfl) dL_law_317 rfl ?_
  refine zL_aload C0 1 dL_law_320 rfl rfl ?_
  refine zL_arg C0 X0 (k := 1) hL (by omega) dL_law_321 dL_law_322 dL_law_323 dL_law_324 dL_law_325 ?_
  refine zL_arg C0 X0 (k := 2) hL (by omega) dL_law_326 dL_law_327 dL_law_328 dL_law_329 dL_law_330 ?_
  refine zL_arg C0 X0 (k := 3) hL (by omega) dL_law_331 dL_law_332 dL_law_333 dL_law_334 dL_law_335 ?_
  refine zL_callMI C0 (y := yX5_leg) (maxL := _) (nA := 3) (As := [.int (xs (i0 + 1)), .int (xs (i0 + 2)), .int (xs (i0 + 3))]) (k_X5_leg (xs (i0 + 1)) (xs (i0 + 2)) (xs (i0 + 3)) M (r, M') e2) gL_law_X5_leg rfl ⟨by decide +kernel, rfl, rfl, rfl⟩ rfl ⟨Nat.le_of_ble_eq_true rfl, Nat.le_of_ble_eq_true rfl⟩ rfl (Nat.le_of_ble_eq_true rfl) dL_law_336 rfl ?_
  refine zL_eq C0 (tgt := 1063) dL_law_339 (by decide) ?_
  exact k S' M' hR
set_option maxHeartbeats 4000000 in
theorem law_rest {E : zE} {cI cZ : ClassId} {qC qM b L i0 : Nat} {aC aM : Nat → Nat} {xs : Nat → Int32} {S M : zS} (C0 : zCx E room_1 cL_law 4 RL wsL_law (zty cI cZ) zNw) (X0 : va_X b L xs (es E) (es E).heap ∧ b < (es E).heap.size ∧ ¬ eA E b) (hi : i0 + 6 ≤ L) (hL : L ≤ 3072) (h : Rel S M) (k : ∀ S1 M1 : zS, Rel S1 M1 → zL E (wC cI qC aC S1 ++ wM cI cZ qM aM M1) 1063 [(3, .int (nI i0)), (2, .ref qM), (1, .ref qC), (0, .ref b)] []) : zL E (wC cI qC aC S ++ wM cI cZ qM aM M) 344 [(3, .int (nI i0)), (2, .ref qM), (1, .ref qC), (0, .ref b)] [] := by
  obtain ⟨r, S', M', e1, e2, hR⟩ := c_rest (xs (i0 + 1)) S M h
  refine zL_aload C0 2 dL_law_344 rfl rfl ?_
  refine zL_arg C0 X0 (k := 1) hL (by omega) dL_law_345 dL_law_346 dL_law_347 dL_law_348 dL_law_349 ?_
  refine zL_callCI C0 (y := yX4_rest) (maxL := _) (nA := 1) (As := [.int (xs (i0 + 1))]) (k_X4_rest (xs (i0 + 1)) S (r, S') e1) gL_law_X4_rest rfl ⟨by decide +kernel, rfl, rfl, rfl⟩ rfl ⟨Nat.le_of_ble_eq_true rfl, Nat.le_of_ble_eq_true rfl⟩ rfl (Nat.le_of_ble_eq_true rfl) dL_law_350 rfl ?_
  refine zL_aload C0 1 dL_law_353 rfl rfl ?_
  refine zL_arg C0 X0 (k := 1) hL (by omega) dL_law_354 dL_law_355 dL_law_356 dL_law_357 dL_law_358 ?_
  refine zL_callMI C0 (y := yX5_rest) (maxL := _) (nA := 1) (As := [.int (xs (i0 + 1))]) (k_X5_rest (xs (i0 + 1)) M (r, M') e2) gL_law_X5_rest rfl ⟨by decide +kernel, rfl, rfl, rfl⟩ rfl ⟨Nat.le_of_ble_eq_true rfl, Nat.le_of_ble_eq_true rfl⟩ rfl (Nat.le_of_ble_eq_true rfl) dL_law_359 rfl ?_
  refine zL_eq C0 (tgt := 1063) dL_law_362 (by decide) ?_
  exact k S' M' hR
set_option maxHeartbeats 4000000 in
theorem law_wet {E : zE} {cI cZ : ClassId} {qC qM b L i0 : Nat} {aC aM : Nat → Nat} {xs : Nat → Int32} {S M : zS} (C0 : zCx E room_1 cL_law 4 RL wsL_law (zty cI cZ) zNw) (X0 : va_X b L xs (es E) (es E).heap ∧ b < (es E).heap.size ∧ ¬ eA E b) (hi : i0 + 6 ≤ L) (hL : L ≤ 3072) (h : Rel S M) (k : ∀ S1 M1 : zS, Rel S1 M1 → zL E (wC cI qC aC S1 ++ wM cI cZ qM aM M1) 1063 [(3, .int (nI i0)), (2, .ref qM), (1, .ref qC), (0, .ref b)] []) : zL E (wC cI qC aC S ++ wM cI cZ qM aM M) 367 [(3, .int (nI i0)), (2, .ref qM), (1, .ref qC), (0, .ref b)] [] := by
  obtain ⟨r, S', M', e1, e2, hR⟩ := c_wet (xs (i0 + 1)) (xs (i0 + 2)) S M h
  refine zL_aload C0 2 dL_law_367 rfl rfl ?_
  refine zL_arg C0 X0 (k := 1) hL (by omega) dL_law_368 dL_law_369 dL_law_370 dL_law_371 dL_law_372 ?_
  refine zL_arg C0 X0 (k := 2) hL (by omega) dL_law_373 dL_law_374 dL_law_375 dL_law_376 dL_law_377 ?_
  refine zL_callCI C0 (y := yX4_wet) (maxL := _) (nA := 2) (As := [.int (xs (i0 + 1)), .int (xs (i0 + 2))]) (k_X4_wet (xs (i0 + 1)) (xs (i0 + 2)) S (r, S') e1) gL_law_X4_wet rfl ⟨by decide +kernel, rfl, rfl, rfl⟩ rfl ⟨Nat.le_of_ble_eq_true rfl, Nat.le_of_ble_eq_true rfl⟩ rfl (Nat.le_of_ble_eq_true rfl) dL_law_378 rfl ?_
  refine zL_aload C0 1 dL_law_381 rfl rfl ?_
  refine zL_arg C0 X0 (k := 1) hL (by omega) dL_law_382 dL_law_383 dL_law_384 dL_law_385 dL_law_386 ?_
  refine zL_arg C0 X0 (k := 2) hL (by omega) dL_law_387 dL_law_388 dL_law_389 dL_law_390 dL_law_391 ?_
  refine zL_callMI C0 (y := yX5_wet) (maxL := _) (nA := 2) (As := [.int (xs (i0 + 1)), .int (xs (i0 + 2))]) (k_X5_wet (xs (i0 + 1)) (xs (i0 + 2)) M (r, M') e2) gL_law_X5_wet rfl ⟨by decide +kernel, rfl, rfl, rfl⟩ rfl ⟨Nat.le_of_ble_eq_true rfl, Nat.le_of_ble_eq_true rfl⟩ rfl (Nat.le_of_ble_eq_true rfl) dL_law_392 rfl ?_
  refine zL_eq C0 (tgt := 1063) dL_law_395 (by decide) ?_
  exact k S' M' hR
set_option maxHeartbeats 4000000 in
theorem law_dry {E : zE} {cI cZ : ClassId} {qC qM b L i0 : Nat} {aC aM : Nat → Nat} {xs : Nat → Int32} {S M : zS} (C0 : zCx E room_1 cL_law 4 RL wsL_law (zty cI cZ) zNw) (X0 : va_X b L xs (es E) (es E).heap ∧ b < (es E).heap.size ∧ ¬ eA E b) (hi : i0 + 6 ≤ L) (hL : L ≤ 3072) (h : Rel S M) (k : ∀ S1 M1 : zS, Rel S1 M1 → zL E (wC cI qC aC S1 ++ wM cI cZ qM aM M1) 1063 [(3, .int (nI i0)), (2, .ref qM), (1, .ref qC), (0, .ref b)] []) : zL E (wC cI qC aC S ++ wM cI cZ qM aM M) 400 [(3, .int (nI i0)), (2, .ref qM), (1, .ref qC), (0, .ref b)] [] := by
  obtain ⟨r, S', M', e1, e2, hR⟩ := c_dry (xs (i0 + 1)) (xs (i0 + 2)) S M h
  refine zL_aload C0 2 dL_law_400 rfl rfl ?_
  refine zL_arg C0 X0 (k := 1) hL (by omega) dL_law_401 dL_law_402 dL_law_403 dL_law_404 dL_law_405 ?_
  refine zL_arg C0 X0 (k := 2) hL (by omega) dL_law_406 dL_law_407 dL_law_408 dL_law_409 dL_law_410 ?_
  refine zL_callCI C0 (y := yX4_dry) (maxL := _) (nA := 2) (As := [.int (xs (i0 + 1)), .int (xs (i0 + 2))]) (k_X4_dry (xs (i0 + 1)) (xs (i0 + 2)) S (r, S') e1) gL_law_X4_dry rfl ⟨by decide +kernel, rfl, rfl, rfl⟩ rfl ⟨Nat.le_of_ble_eq_true rfl, Nat.le_of_ble_eq_true rfl⟩ rfl (Nat.le_of_ble_eq_true rfl) dL_law_411 rfl ?_
  refine zL_aload C0 1 dL_law_414 rfl rfl ?_
  refine zL_arg C0 X0 (k := 1) hL (by omega) dL_law_415 dL_law_416 dL_law_417 dL_law_418 dL_law_419 ?_
  refine zL_arg C0 X0 (k := 2) hL (by omega) dL_law_420 dL_law_421 dL_law_422 dL_law_423 dL_law_424 ?_
  refine zL_callMI C0 (y := yX5_dry) (maxL := _) (nA := 2) (As := [.int (xs (i0 + 1)), .int (xs (i0 + 2))]) (k_X5_dry (xs (i0 + 1)) (xs (i0 + 2)) M (r, M') e2) gL_law_X5_dry rfl ⟨by decide +kernel, rfl, rfl, rfl⟩ rfl ⟨Nat.le_of_ble_eq_true rfl, Nat.le_of_ble_eq_true rfl⟩ rfl (Nat.le_of_ble_eq_true rfl) dL_law_425 rfl ?_
  refine zL_eq C0 (tgt := 1063) dL_law_428 (by decide) ?_
  exact k S' M' hR
set_option maxHeartbeats 4000000 in
theorem law_undo {E : zE} {cI cZ : ClassId} {qC qM b L i0 : Nat} {aC aM : Nat → Nat} {xs : Nat → Int32} {S M : zS} (C0 : zCx E room_1 cL_law 4 RL wsL_law (zty cI cZ) zNw) (X0 : va_X b L xs (es E) (es E).heap ∧ b < (es E).heap.size ∧ ¬ eA E b) (hi : i0 + 6 ≤ L) (hL : L ≤ 3072) (h : Rel S M) (k : ∀ S1 M1 : zS, Rel S1 M1 → zL E (wC cI qC aC S1 ++ wM cI cZ qM aM M1) 1063 [(3, .int (nI i0)), (2, .ref qM), (1, .ref qC), (0, .ref b)] []) : zL E (wC cI qC aC S ++ wM cI cZ qM aM M) 433 [(3, .int (nI i0)), (2, .ref qM), (1, .ref qC), (0, .ref b)] [] := by
  obtain ⟨r, S', M', e1, e2, hR⟩ := c_undo  S M h
  refine zL_aload C0 2 dL_law_433 rfl rfl ?_
  refine zL_callCI C0 (y := yX4_undo) (maxL := _) (nA := 0) (As := []) (k_X4_undo  S (r, S') e1) gL_law_X4_undo rfl ⟨by decide +kernel, rfl, rfl, rfl⟩ rfl ⟨Nat.le_of_ble_eq_true rfl, Nat.le_of_ble_eq_true rfl⟩ rfl (Nat.le_of_ble_eq_true rfl) dL_law_434 rfl ?_
  refine zL_aload C0 1 dL_law_437 rfl rfl ?_
  refine zL_callMI C0 (y := yX5_undo) (maxL := _) (nA := 0) (As := []) (k_X5_undo  M (r, M') e2) gL_law_X5_undo rfl ⟨by decide +kernel, rfl, rfl, rfl⟩ rfl ⟨Nat.le_of_ble_eq_true rfl, Nat.le_of_ble_eq_true rfl⟩ rfl (Nat.le_of_ble_eq_true rfl) dL_law_438 rfl ?_
  refine zL_eq C0 (tgt := 1063) dL_law_441 (by decide) ?_
  exact k S' M' hR
set_option maxHeartbeats 4000000 in
theorem law_alone {E : zE} {cI cZ : ClassId} {qC qM b L i0 : Nat} {aC aM : Nat → Nat} {xs : Nat → Int32} {S M : zS} (C0 : zCx E room_1 cL_law 4 RL wsL_law (zty cI cZ) zNw) (X0 : va_X b L xs (es E) (es E).heap ∧ b < (es E).heap.size ∧ ¬ eA E b) (hi : i0 + 6 ≤ L) (hL : L ≤ 3072) (h : Rel S M) (k : ∀ S1 M1 : zS, Rel S1 M1 → zL E (wC cI qC aC S1 ++ wM cI cZ qM aM M1) 1063 [(3, .int (nI i0)), (2, .ref qM), (1, .ref qC), (0, .ref b)] []) : zL E (wC cI qC aC S ++ wM cI cZ qM aM M) 446 [(3, .int (nI i0)), (2, .ref qM), (1, .ref qC), (0, .ref b)] [] := by
  obtain ⟨r, M', e1, e2, hR⟩ := c_alone (xs (i0 + 1)) (xs (i0 + 2)) S M h
  refine zL_aload C0 2 dL_law_446 rfl rfl ?_
  refine zL_arg C0 X0 (k := 1) hL (by omega) dL_law_447 dL_law_448 dL_law_449 dL_law_450 dL_law_451 ?_
  refine zL_arg C0 X0 (k := 2) hL (by omega) dL_law_452 dL_law_453 dL_law_454 dL_law_455 dL_law_456 ?_
  refine zL_callCI C0 (y := yX4_alone) (maxL := _) (nA := 2) (As := [.int (xs (i0 + 1)), .int (xs (i0 + 2))]) (k_X4_alone (xs (i0 + 1)) (xs (i0 + 2)) S r e1) gL_law_X4_alone rfl ⟨by decide +kernel, rfl, rfl, rfl⟩ rfl ⟨Nat.le_of_ble_eq_true rfl, Nat.le_of_ble_eq_true rfl⟩ rfl (Nat.le_of_ble_eq_true rfl) dL_law_457 rfl ?_
  refine zL_aload C0 1 dL_law_460 rfl rfl ?_
  refine zL_arg C0 X0 (k := 1) hL (by omega) dL_law_461 dL_law_462 dL_law_463 dL_law_464 dL_law_465 ?_
  refine zL_arg C0 X0 (k := 2) hL (by omega) dL_law_466 dL_law_467 dL_law_468 dL_law_469 dL_law_470 ?_
  refine zL_callMI C0 (y := yX5_alone) (maxL := _) (nA := 2) (As := [.int (xs (i0 + 1)), .int (xs (i0 + 2))]) (k_X5_alone (xs (i0 + 1)) (xs (i0 + 2)) M (r, M') e2) gL_law_X5_alone rfl ⟨by decide +kernel, rfl, rfl, rfl⟩ rfl ⟨Nat.le_of_ble_eq_true rfl, Nat.le_of_ble_eq_true rfl⟩ rfl (Nat.le_of_ble_eq_true rfl) dL_law_471 rfl ?_
  refine zL_eq C0 (tgt := 1063) dL_law_474 (by decide) ?_
  exact k S M' hR
set_option maxHeartbeats 4000000 in
theorem law_time {E : zE} {cI cZ : ClassId} {qC qM b L i0 : Nat} {aC aM : Nat → Nat} {xs : Nat → Int32} {S M : zS} (C0 : zCx E room_1 cL_law 4 RL wsL_law (zty cI cZ) zNw) (X0 : va_X b L xs (es E) (es E).heap ∧ b < (es E).heap.size ∧ ¬ eA E b) (hi : i0 + 6 ≤ L) (hL : L ≤ 3072) (h : Rel S M) (k : ∀ S1 M1 : zS, Rel S1 M1 → zL E (wC cI qC aC S1 ++ wM cI cZ qM aM M1) 1063 [(3, .int (nI i0)), (2, .ref qM), (1, .ref qC), (0, .ref b)] []) : zL E (wC cI qC aC S ++ wM cI cZ qM aM M) 479 [(3, .int (nI i0)), (2, .ref qM), (1, .ref qC), (0, .ref b)] [] := by
  obtain ⟨r, M', e1, e2, hR⟩ := c_time (xs (i0 + 1)) (xs (i0 + 2)) (xs (i0 + 3)) (xs (i0 + 4)) (xs (i0 + 5)) S M h
  refine zL_aload C0 2 dL_law_479 rfl rfl ?_
  refine zL_arg C0 X0 (k := 1) hL (by omega) dL_law_480 dL_law_481 dL_law_482 dL_law_483 dL_law_484 ?_
  refine zL_arg C0 X0 (k := 2) hL (by omega) dL_law_485 dL_law_486 dL_law_487 dL_law_488 dL_law_489 ?_
  refine zL_arg C0 X0 (k := 3) hL (by omega) dL_law_490 dL_law_491 dL_law_492 dL_law_493 dL_law_494 ?_
  refine zL_arg C0 X0 (k := 4) hL (by omega) dL_law_495 dL_law_496 dL_law_497 dL_law_498 dL_law_499 ?_
  refine zL_arg C0 X0 (k := 5) hL (by omega) dL_law_500 dL_law_501 dL_law_502 dL_law_503 dL_law_504 ?_
  refine zL_callCI C0 (y := yX4_time) (maxL := _) (nA := 5) (As := [.int (xs (i0 + 1)), .int (xs (i0 + 2)), .int (xs (i0 + 3)), .int (xs (i0 + 4)), .int (xs (i0 + 5))]) (k_X4_time (xs (i0 + 1)) (xs (i0 + 2)) (xs (i0 + 3)) (xs (i0 + 4)) (xs (i0 + 5)) S r e1) gL_law_X4_time rfl ⟨by decide +kernel, rfl, rfl, rfl⟩ rfl ⟨Nat.le_of_ble_eq_true rfl, Nat.le_of_ble_eq_true rfl⟩ rfl (Nat.le_of_ble_eq_true rfl) dL_law_505 rfl ?_
  refine zL_aload C0 1 dL_law_508 rfl rfl ?_
  refine zL_arg C0 X0 (k := 1) hL (by omega) dL_law_509 dL_law_510 dL_law_511 dL_law_512 dL_law_513 ?_
  refine zL_arg C0 X0 (k := 2) hL (by omega) dL_law_514 dL_law_515 dL_law_516 dL_law_517 dL_law_518 ?_
  refine zL_arg C0 X0 (k := 3) hL (by omega) dL_law_519 dL_law_520 dL_law_521 dL_law_522 dL_law_523 ?_
  refine zL_arg C0 X0 (k := 4) hL (by omega) dL_law_524 dL_law_525 dL_law_526 dL_law_527 dL_law_528 ?_
  refine zL_arg C0 X0 (k := 5) hL (by omega) dL_law_529 dL_law_530 dL_law_531 dL_law_532 dL_law_533 ?_
  refine zL_callMI C0 (y := yX5_time) (maxL := _) (nA := 5) (As := [.int (xs (i0 + 1)), .int (xs (i0 + 2)), .int (xs (i0 + 3)), .int (xs (i0 + 4)), .int (xs (i0 + 5))]) (k_X5_time (xs (i0 + 1)) (xs (i0 + 2)) (xs (i0 + 3)) (xs (i0 + 4)) (xs (i0 + 5)) M (r, M') e2) gL_law_X5_time rfl ⟨by decide +kernel, rfl, rfl, rfl⟩ rfl ⟨Nat.le_of_ble_eq_true rfl, Nat.le_of_ble_eq_true rfl⟩ rfl (Nat.le_of_ble_eq_true rfl) dL_law_534 rfl ?_
  refine zL_eq C0 (tgt := 1063) dL_law_537 (by decide) ?_
  exact k S M' hR
set_option maxHeartbeats 4000000 in
theorem law_best {E : zE} {cI cZ : ClassId} {qC qM b L i0 : Nat} {aC aM : Nat → Nat} {xs : Nat → Int32} {S M : zS} (C0 : zCx E room_1 cL_law 4 RL wsL_law (zty cI cZ) zNw) (X0 : va_X b L xs (es E) (es E).heap ∧ b < (es E).heap.size ∧ ¬ eA E b) (hi : i0 + 6 ≤ L) (hL : L ≤ 3072) (h : Rel S M) (k : ∀ S1 M1 : zS, Rel S1 M1 → zL E (wC cI qC aC S1 ++ wM cI cZ qM aM M1) 1063 [(3, .int (nI i0)), (2, .ref qM), (1, .ref qC), (0, .ref b)] []) : zL E (wC cI qC aC S ++ wM cI cZ qM aM M) 542 [(3, .int (nI i0)), (2, .ref qM), (1, .ref qC), (0, .ref b)] [] := by
  obtain ⟨r, M', e1, e2, hR⟩ := c_best (xs (i0 + 1)) (xs (i0 + 2)) S M h
  refine zL_aload C0 2 dL_law_542 rfl rfl ?_
  refine zL_arg C0 X0 (k := 1) hL (by omega) dL_law_543 dL_law_544 dL_law_545 dL_law_546 dL_law_547 ?_
  refine zL_arg C0 X0 (k := 2) hL (by omega) dL_law_548 dL_law_549 dL_law_550 dL_law_551 dL_law_552 ?_
  refine zL_callCI C0 (y := yX4_best) (maxL := _) (nA := 2) (As := [.int (xs (i0 + 1)), .int (xs (i0 + 2))]) (k_X4_best (xs (i0 + 1)) (xs (i0 + 2)) S r e1) gL_law_X4_best rfl ⟨by decide +kernel, rfl, rfl, rfl⟩ rfl ⟨Nat.le_of_ble_eq_true rfl, Nat.le_of_ble_eq_true rfl⟩ rfl (Nat.le_of_ble_eq_true rfl) dL_law_553 rfl ?_
  refine zL_aload C0 1 dL_law_556 rfl rfl ?_
  refine zL_arg C0 X0 (k := 1) hL (by omega) dL_law_557 dL_law_558 dL_law_559 dL_law_560 dL_law_561 ?_
  refine zL_arg C0 X0 (k := 2) hL (by omega) dL_law_562 dL_law_563 dL_law_564 dL_law_565 dL_law_566 ?_
  refine zL_callMI C0 (y := yX5_best) (maxL := _) (nA := 2) (As := [.int (xs (i0 + 1)), .int (xs (i0 + 2))]) (k_X5_best (xs (i0 + 1)) (xs (i0 + 2)) M (r, M') e2) gL_law_X5_best rfl ⟨by decide +kernel, rfl, rfl, rfl⟩ rfl ⟨Nat.le_of_ble_eq_true rfl, Nat.le_of_ble_eq_true rfl⟩ rfl (Nat.le_of_ble_eq_true rfl) dL_law_567 rfl ?_
  refine zL_eq C0 (tgt := 1063) dL_law_570 (by decide) ?_
  exact k S M' hR
set_option maxHeartbeats 4000000 in
theorem law_begin {E : zE} {cI cZ : ClassId} {qC qM b L i0 : Nat} {aC aM : Nat → Nat} {xs : Nat → Int32} {S M : zS} (C0 : zCx E room_1 cL_law 4 RL wsL_law (zty cI cZ) zNw) (X0 : va_X b L xs (es E) (es E).heap ∧ b < (es E).heap.size ∧ ¬ eA E b) (hi : i0 + 6 ≤ L) (hL : L ≤ 3072) (h : Rel S M) (k : ∀ S1 M1 : zS, Rel S1 M1 → zL E (wC cI qC aC S1 ++ wM cI cZ qM aM M1) 1063 [(3, .int (nI i0)), (2, .ref qM), (1, .ref qC), (0, .ref b)] []) : zL E (wC cI qC aC S ++ wM cI cZ qM aM M) 575 [(3, .int (nI i0)), (2, .ref qM), (1, .ref qC), (0, .ref b)] [] := by
  obtain ⟨r, M', e1, e2, hR⟩ := c_begin (xs (i0 + 1)) (xs (i0 + 2)) (xs (i0 + 3)) (xs (i0 + 4)) S M h
  refine zL_aload C0 2 dL_law_575 rfl rfl ?_
  refine zL_arg C0 X0 (k := 1) hL (by omega) dL_law_576 dL_law_577 dL_law_578 dL_law_579 dL_law_580 ?_
  refine zL_arg C0 X0 (k := 2) hL (by omega) dL_law_581 dL_law_582 dL_law_583 dL_law_584 dL_law_585 ?_
  refine zL_arg C0 X0 (k := 3) hL (by omega) dL_law_586 dL_law_587 dL_law_588 dL_law_589 dL_law_590 ?_
  refine zL_arg C0 X0 (k := 4) hL (by omega) dL_law_591 dL_law_592 dL_law_593 dL_law_594 dL_law_595 ?_
  refine zL_callCI C0 (y := yX4_begin) (maxL := _) (nA := 4) (As := [.int (xs (i0 + 1)), .int (xs (i0 + 2)), .int (xs (i0 + 3)), .int (xs (i0 + 4))]) (k_X4_begin (xs (i0 + 1)) (xs (i0 + 2)) (xs (i0 + 3)) (xs (i0 + 4)) S r e1) gL_law_X4_begin rfl ⟨by decide +kernel, rfl, rfl, rfl⟩ rfl ⟨Nat.le_of_ble_eq_true rfl, Nat.le_of_ble_eq_true rfl⟩ rfl (Nat.le_of_ble_eq_true rfl) dL_law_596 rfl ?_
  refine zL_aload C0 1 dL_law_599 rfl rfl ?_
  refine zL_arg C0 X0 (k := 1) hL (by omega) dL_law_600 dL_law_601 dL_law_602 dL_law_603 dL_law_604 ?_
  refine zL_arg C0 X0 (k := 2) hL (by omega) dL_law_605 dL_law_606 dL_law_607 dL_law_608 dL_law_609 ?_
  refine zL_arg C0 X0 (k := 3) hL (by omega) dL_law_610 dL_law_611 dL_law_612 dL_law_613 dL_law_614 ?_
  refine zL_arg C0 X0 (k := 4) hL (by omega) dL_law_615 dL_law_616 dL_law_617 dL_law_618 dL_law_619 ?_
  refine zL_callMI C0 (y := yX5_begin) (maxL := _) (nA := 4) (As := [.int (xs (i0 + 1)), .int (xs (i0 + 2)), .int (xs (i0 + 3)), .int (xs (i0 + 4))]) (k_X5_begin (xs (i0 + 1)) (xs (i0 + 2)) (xs (i0 + 3)) (xs (i0 + 4)) M (r, M') e2) gL_law_X5_begin rfl ⟨by decide +kernel, rfl, rfl, rfl⟩ rfl ⟨Nat.le_of_ble_eq_true rfl, Nat.le_of_ble_eq_true rfl⟩ rfl (Nat.le_of_ble_eq_true rfl) dL_law_620 rfl ?_
  refine zL_eq C0 (tgt := 1063) dL_law_623 (by decide) ?_
  exact k S M' hR
set_option maxHeartbeats 4000000 in
theorem law_soonest {E : zE} {cI cZ : ClassId} {qC qM b L i0 : Nat} {aC aM : Nat → Nat} {xs : Nat → Int32} {S M : zS} (C0 : zCx E room_1 cL_law 4 RL wsL_law (zty cI cZ) zNw) (X0 : va_X b L xs (es E) (es E).heap ∧ b < (es E).heap.size ∧ ¬ eA E b) (hi : i0 + 6 ≤ L) (hL : L ≤ 3072) (h : Rel S M) (k : ∀ S1 M1 : zS, Rel S1 M1 → zL E (wC cI qC aC S1 ++ wM cI cZ qM aM M1) 1063 [(3, .int (nI i0)), (2, .ref qM), (1, .ref qC), (0, .ref b)] []) : zL E (wC cI qC aC S ++ wM cI cZ qM aM M) 628 [(3, .int (nI i0)), (2, .ref qM), (1, .ref qC), (0, .ref b)] [] := by
  by_cases hc : xs (i0 + 1) = 0
  · obtain ⟨r, M', e1, e2, hR⟩ := c_soonest (0) S M h
    refine zL_aload C0 2 dL_law_628 rfl rfl ?_
    refine zL_arg C0 X0 (k := 1) hL (by omega) dL_law_629 dL_law_630 dL_law_631 dL_law_632 dL_law_633 ?_
    refine zL_if_eqT C0 (tgt := 641) dL_law_634 (by decide) hc ?_
    refine zL_iconst C0 (v := 0) dL_law_641 rfl rfl ?_
    refine zL_callCI C0 (y := yX4_soonest) (maxL := _) (nA := 1) (As := [.int (0)]) (k_X4_soonest (0) S r e1) gL_law_X4_soonest rfl ⟨by decide +kernel, rfl, rfl, rfl⟩ rfl ⟨Nat.le_of_ble_eq_true rfl, Nat.le_of_ble_eq_true rfl⟩ rfl (Nat.le_of_ble_eq_true rfl) dL_law_642 rfl ?_
    refine zL_aload C0 1 dL_law_645 rfl rfl ?_
    refine zL_arg C0 X0 (k := 1) hL (by omega) dL_law_646 dL_law_647 dL_law_648 dL_law_649 dL_law_650 ?_
    refine zL_if_eqT C0 (tgt := 658) dL_law_651 (by decide) hc ?_
    refine zL_iconst C0 (v := 0) dL_law_658 rfl rfl ?_
    refine zL_callMI C0 (y := yX5_soonest) (maxL := _) (nA := 1) (As := [.int (0)]) (k_X5_soonest (0) M (r, M') e2) gL_law_X5_soonest rfl ⟨by decide +kernel, rfl, rfl, rfl⟩ rfl ⟨Nat.le_of_ble_eq_true rfl, Nat.le_of_ble_eq_true rfl⟩ rfl (Nat.le_of_ble_eq_true rfl) dL_law_659 rfl ?_
    refine zL_eq C0 (tgt := 1063) dL_law_662 (by decide) ?_
    exact k S M' hR
  · obtain ⟨r, M', e1, e2, hR⟩ := c_soonest (1) S M h
    refine zL_aload C0 2 dL_law_628 rfl rfl ?_
    refine zL_arg C0 X0 (k := 1) hL (by omega) dL_law_629 dL_law_630 dL_law_631 dL_law_632 dL_law_633 ?_
    refine zL_if_eqF C0 dL_law_634 hc (by decide) rfl ?_
    refine zL_iconst C0 (v := 1) dL_law_637 rfl rfl ?_
    refine zL_goto C0 (tgt := 642) dL_law_638 (by decide) ?_
    refine zL_callCI C0 (y := yX4_soonest) (maxL := _) (nA := 1) (As := [.int (1)]) (k_X4_soonest (1) S r e1) gL_law_X4_soonest rfl ⟨by decide +kernel, rfl, rfl, rfl⟩ rfl ⟨Nat.le_of_ble_eq_true rfl, Nat.le_of_ble_eq_true rfl⟩ rfl (Nat.le_of_ble_eq_true rfl) dL_law_642 rfl ?_
    refine zL_aload C0 1 dL_law_645 rfl rfl ?_
    refine zL_arg C0 X0 (k := 1) hL (by omega) dL_law_646 dL_law_647 dL_law_648 dL_law_649 dL_law_650 ?_
    refine zL_if_eqF C0 dL_law_651 hc (by decide) rfl ?_
    refine zL_iconst C0 (v := 1) dL_law_654 rfl rfl ?_
    refine zL_goto C0 (tgt := 659) dL_law_655 (by decide) ?_
    refine zL_callMI C0 (y := yX5_soonest) (maxL := _) (nA := 1) (As := [.int (1)]) (k_X5_soonest (1) M (r, M') e2) gL_law_X5_soonest rfl ⟨by decide +kernel, rfl, rfl, rfl⟩ rfl ⟨Nat.le_of_ble_eq_true rfl, Nat.le_of_ble_eq_true rfl⟩ rfl (Nat.le_of_ble_eq_true rfl) dL_law_659 rfl ?_
    refine zL_eq C0 (tgt := 1063) dL_law_662 (by decide) ?_
    exact k S M' hR
set_option maxHeartbeats 4000000 in
theorem law_judge {E : zE} {cI cZ : ClassId} {qC qM b L i0 : Nat} {aC aM : Nat → Nat} {xs : Nat → Int32} {S M : zS} (C0 : zCx E room_1 cL_law 4 RL wsL_law (zty cI cZ) zNw) (X0 : va_X b L xs (es E) (es E).heap ∧ b < (es E).heap.size ∧ ¬ eA E b) (hi : i0 + 6 ≤ L) (hL : L ≤ 3072) (h : Rel S M) (k : ∀ S1 M1 : zS, Rel S1 M1 → zL E (wC cI qC aC S1 ++ wM cI cZ qM aM M1) 1063 [(3, .int (nI i0)), (2, .ref qM), (1, .ref qC), (0, .ref b)] []) : zL E (wC cI qC aC S ++ wM cI cZ qM aM M) 667 [(3, .int (nI i0)), (2, .ref qM), (1, .ref qC), (0, .ref b)] [] := by
  obtain ⟨r, M', e1, e2, hR⟩ := c_judge (xs (i0 + 1)) (xs (i0 + 2)) S M h
  refine zL_aload C0 2 dL_law_667 rfl rfl ?_
  refine zL_arg C0 X0 (k := 1) hL (by omega) dL_law_668 dL_law_669 dL_law_670 dL_law_671 dL_law_672 ?_
  refine zL_arg C0 X0 (k := 2) hL (by omega) dL_law_673 dL_law_674 dL_law_675 dL_law_676 dL_law_677 ?_
  refine zL_callCI C0 (y := yX4_judge) (maxL := _) (nA := 2) (As := [.int (xs (i0 + 1)), .int (xs (i0 + 2))]) (k_X4_judge (xs (i0 + 1)) (xs (i0 + 2)) S r e1) gL_law_X4_judge rfl ⟨by decide +kernel, rfl, rfl, rfl⟩ rfl ⟨Nat.le_of_ble_eq_true rfl, Nat.le_of_ble_eq_true rfl⟩ rfl (Nat.le_of_ble_eq_true rfl) dL_law_678 rfl ?_
  refine zL_aload C0 1 dL_law_681 rfl rfl ?_
  refine zL_arg C0 X0 (k := 1) hL (by omega) dL_law_682 dL_law_683 dL_law_684 dL_law_685 dL_law_686 ?_
  refine zL_arg C0 X0 (k := 2) hL (by omega) dL_law_687 dL_law_688 dL_law_689 dL_law_690 dL_law_691 ?_
  refine zL_callMI C0 (y := yX5_judge) (maxL := _) (nA := 2) (As := [.int (xs (i0 + 1)), .int (xs (i0 + 2))]) (k_X5_judge (xs (i0 + 1)) (xs (i0 + 2)) M (r, M') e2) gL_law_X5_judge rfl ⟨by decide +kernel, rfl, rfl, rfl⟩ rfl ⟨Nat.le_of_ble_eq_true rfl, Nat.le_of_ble_eq_true rfl⟩ rfl (Nat.le_of_ble_eq_true rfl) dL_law_692 rfl ?_
  refine zL_eq C0 (tgt := 1063) dL_law_695 (by decide) ?_
  exact k S M' hR
set_option maxHeartbeats 4000000 in
theorem law_share {E : zE} {cI cZ : ClassId} {qC qM b L i0 : Nat} {aC aM : Nat → Nat} {xs : Nat → Int32} {S M : zS} (C0 : zCx E room_1 cL_law 4 RL wsL_law (zty cI cZ) zNw) (X0 : va_X b L xs (es E) (es E).heap ∧ b < (es E).heap.size ∧ ¬ eA E b) (hi : i0 + 6 ≤ L) (hL : L ≤ 3072) (h : Rel S M) (k : ∀ S1 M1 : zS, Rel S1 M1 → zL E (wC cI qC aC S1 ++ wM cI cZ qM aM M1) 1063 [(3, .int (nI i0)), (2, .ref qM), (1, .ref qC), (0, .ref b)] []) : zL E (wC cI qC aC S ++ wM cI cZ qM aM M) 700 [(3, .int (nI i0)), (2, .ref qM), (1, .ref qC), (0, .ref b)] [] := by
  by_cases hc : xs (i0 + 3) = 0
  · obtain ⟨r, M', e1, e2, hR⟩ := c_share (xs (i0 + 1)) (xs (i0 + 2)) (0) S M h
    refine zL_aload C0 2 dL_law_700 rfl rfl ?_
    refine zL_arg C0 X0 (k := 1) hL (by omega) dL_law_701 dL_law_702 dL_law_703 dL_law_704 dL_law_705 ?_
    refine zL_arg C0 X0 (k := 2) hL (by omega) dL_law_706 dL_law_707 dL_law_708 dL_law_709 dL_law_710 ?_
    refine zL_arg C0 X0 (k := 3) hL (by omega) dL_law_711 dL_law_712 dL_law_713 dL_law_714 dL_law_715 ?_
    refine zL_if_eqT C0 (tgt := 723) dL_law_716 (by decide) hc ?_
    refine zL_iconst C0 (v := 0) dL_law_723 rfl rfl ?_
    refine zL_callCI C0 (y := yX4_share) (maxL := _) (nA := 3) (As := [.int (xs (i0 + 1)), .int (xs (i0 + 2)), .int (0)]) (k_X4_share (xs (i0 + 1)) (xs (i0 + 2)) (0) S r e1) gL_law_X4_share rfl ⟨by decide +kernel, rfl, rfl, rfl⟩ rfl ⟨Nat.le_of_ble_eq_true rfl, Nat.le_of_ble_eq_true rfl⟩ rfl (Nat.le_of_ble_eq_true rfl) dL_law_724 rfl ?_
    refine zL_aload C0 1 dL_law_727 rfl rfl ?_
    refine zL_arg C0 X0 (k := 1) hL (by omega) dL_law_728 dL_law_729 dL_law_730 dL_law_731 dL_law_732 ?_
    refine zL_arg C0 X0 (k := 2) hL (by omega) dL_law_733 dL_law_734 dL_law_735 dL_law_736 dL_law_737 ?_
    refine zL_arg C0 X0 (k := 3) hL (by omega) dL_law_738 dL_law_739 dL_law_740 dL_law_741 dL_law_742 ?_
    refine zL_if_eqT C0 (tgt := 750) dL_law_743 (by decide) hc ?_
    refine zL_iconst C0 (v := 0) dL_law_750 rfl rfl ?_
    refine zL_callMI C0 (y := yX5_share) (maxL := _) (nA := 3) (As := [.int (xs (i0 + 1)), .int (xs (i0 + 2)), .int (0)]) (k_X5_share (xs (i0 + 1)) (xs (i0 + 2)) (0) M (r, M') e2) gL_law_X5_share rfl ⟨by decide +kernel, rfl, rfl, rfl⟩ rfl ⟨Nat.le_of_ble_eq_true rfl, Nat.le_of_ble_eq_true rfl⟩ rfl (Nat.le_of_ble_eq_true rfl) dL_law_751 rfl ?_
    refine zL_eq C0 (tgt := 1063) dL_law_754 (by decide) ?_
    exact k S M' hR
  · obtain ⟨r, M', e1, e2, hR⟩ := c_share (xs (i0 + 1)) (xs (i0 + 2)) (1) S M h
    refine zL_aload C0 2 dL_law_700 rfl rfl ?_
    refine zL_arg C0 X0 (k := 1) hL (by omega) dL_law_701 dL_law_702 dL_law_703 dL_law_704 dL_law_705 ?_
    refine zL_arg C0 X0 (k := 2) hL (by omega) dL_law_706 dL_law_707 dL_law_708 dL_law_709 dL_law_710 ?_
    refine zL_arg C0 X0 (k := 3) hL (by omega) dL_law_711 dL_law_712 dL_law_713 dL_law_714 dL_law_715 ?_
    refine zL_if_eqF C0 dL_law_716 hc (by decide) rfl ?_
    refine zL_iconst C0 (v := 1) dL_law_719 rfl rfl ?_
    refine zL_goto C0 (tgt := 724) dL_law_720 (by decide) ?_
    refine zL_callCI C0 (y := yX4_share) (maxL := _) (nA := 3) (As := [.int (xs (i0 + 1)), .int (xs (i0 + 2)), .int (1)]) (k_X4_share (xs (i0 + 1)) (xs (i0 + 2)) (1) S r e1) gL_law_X4_share rfl ⟨by decide +kernel, rfl, rfl, rfl⟩ rfl ⟨Nat.le_of_ble_eq_true rfl, Nat.le_of_ble_eq_true rfl⟩ rfl (Nat.le_of_ble_eq_true rfl) dL_law_724 rfl ?_
    refine zL_aload C0 1 dL_law_727 rfl rfl ?_
    refine zL_arg C0 X0 (k := 1) hL (by omega) dL_law_728 dL_law_729 dL_law_730 dL_law_731 dL_law_732 ?_
    refine zL_arg C0 X0 (k := 2) hL (by omega) dL_law_733 dL_law_734 dL_law_735 dL_law_736 dL_law_737 ?_
    refine zL_arg C0 X0 (k := 3) hL (by omega) dL_law_738 dL_law_739 dL_law_740 dL_law_741 dL_law_742 ?_
    refine zL_if_eqF C0 dL_law_743 hc (by decide) rfl ?_
    refine zL_iconst C0 (v := 1) dL_law_746 rfl rfl ?_
    refine zL_goto C0 (tgt := 751) dL_law_747 (by decide) ?_
    refine zL_callMI C0 (y := yX5_share) (maxL := _) (nA := 3) (As := [.int (xs (i0 + 1)), .int (xs (i0 + 2)), .int (1)]) (k_X5_share (xs (i0 + 1)) (xs (i0 + 2)) (1) M (r, M') e2) gL_law_X5_share rfl ⟨by decide +kernel, rfl, rfl, rfl⟩ rfl ⟨Nat.le_of_ble_eq_true rfl, Nat.le_of_ble_eq_true rfl⟩ rfl (Nat.le_of_ble_eq_true rfl) dL_law_751 rfl ?_
    refine zL_eq C0 (tgt := 1063) dL_law_754 (by decide) ?_
    exact k S M' hR
set_option maxHeartbeats 4000000 in
theorem law_see {E : zE} {cI cZ : ClassId} {qC qM b L i0 : Nat} {aC aM : Nat → Nat} {xs : Nat → Int32} {S M : zS} (C0 : zCx E room_1 cL_law 4 RL wsL_law (zty cI cZ) zNw) (X0 : va_X b L xs (es E) (es E).heap ∧ b < (es E).heap.size ∧ ¬ eA E b) (hi : i0 + 6 ≤ L) (hL : L ≤ 3072) (h : Rel S M) (k : ∀ S1 M1 : zS, Rel S1 M1 → zL E (wC cI qC aC S1 ++ wM cI cZ qM aM M1) 1063 [(3, .int (nI i0)), (2, .ref qM), (1, .ref qC), (0, .ref b)] []) : zL E (wC cI qC aC S ++ wM cI cZ qM aM M) 759 [(3, .int (nI i0)), (2, .ref qM), (1, .ref qC), (0, .ref b)] [] := by
  obtain ⟨r, S', M', e1, e2, hR⟩ := c_see (xs (i0 + 1)) (xs (i0 + 2)) S M h
  refine zL_aload C0 2 dL_law_759 rfl rfl ?_
  refine zL_arg C0 X0 (k := 1) hL (by omega) dL_law_760 dL_law_761 dL_law_762 dL_law_763 dL_law_764 ?_
  refine zL_arg C0 X0 (k := 2) hL (by omega) dL_law_765 dL_law_766 dL_law_767 dL_law_768 dL_law_769 ?_
  refine zL_callCI C0 (y := yX4_see) (maxL := _) (nA := 2) (As := [.int (xs (i0 + 1)), .int (xs (i0 + 2))]) (k_X4_see (xs (i0 + 1)) (xs (i0 + 2)) S (r, S') e1) gL_law_X4_see rfl ⟨by decide +kernel, rfl, rfl, rfl⟩ rfl ⟨Nat.le_of_ble_eq_true rfl, Nat.le_of_ble_eq_true rfl⟩ rfl (Nat.le_of_ble_eq_true rfl) dL_law_770 rfl ?_
  refine zL_aload C0 1 dL_law_773 rfl rfl ?_
  refine zL_arg C0 X0 (k := 1) hL (by omega) dL_law_774 dL_law_775 dL_law_776 dL_law_777 dL_law_778 ?_
  refine zL_arg C0 X0 (k := 2) hL (by omega) dL_law_779 dL_law_780 dL_law_781 dL_law_782 dL_law_783 ?_
  refine zL_callMI C0 (y := yX5_see) (maxL := _) (nA := 2) (As := [.int (xs (i0 + 1)), .int (xs (i0 + 2))]) (k_X5_see (xs (i0 + 1)) (xs (i0 + 2)) M (r, M') e2) gL_law_X5_see rfl ⟨by decide +kernel, rfl, rfl, rfl⟩ rfl ⟨Nat.le_of_ble_eq_true rfl, Nat.le_of_ble_eq_true rfl⟩ rfl (Nat.le_of_ble_eq_true rfl) dL_law_784 rfl ?_
  refine zL_eq C0 (tgt := 1063) dL_law_787 (by decide) ?_
  exact k S' M' hR
set_option maxHeartbeats 4000000 in
theorem law_unsee {E : zE} {cI cZ : ClassId} {qC qM b L i0 : Nat} {aC aM : Nat → Nat} {xs : Nat → Int32} {S M : zS} (C0 : zCx E room_1 cL_law 4 RL wsL_law (zty cI cZ) zNw) (X0 : va_X b L xs (es E) (es E).heap ∧ b < (es E).heap.size ∧ ¬ eA E b) (hi : i0 + 6 ≤ L) (hL : L ≤ 3072) (h : Rel S M) (k : ∀ S1 M1 : zS, Rel S1 M1 → zL E (wC cI qC aC S1 ++ wM cI cZ qM aM M1) 1063 [(3, .int (nI i0)), (2, .ref qM), (1, .ref qC), (0, .ref b)] []) : zL E (wC cI qC aC S ++ wM cI cZ qM aM M) 792 [(3, .int (nI i0)), (2, .ref qM), (1, .ref qC), (0, .ref b)] [] := by
  obtain ⟨r, S', M', e1, e2, hR⟩ := c_unsee  S M h
  refine zL_aload C0 2 dL_law_792 rfl rfl ?_
  refine zL_callCI C0 (y := yX4_unsee) (maxL := _) (nA := 0) (As := []) (k_X4_unsee  S (r, S') e1) gL_law_X4_unsee rfl ⟨by decide +kernel, rfl, rfl, rfl⟩ rfl ⟨Nat.le_of_ble_eq_true rfl, Nat.le_of_ble_eq_true rfl⟩ rfl (Nat.le_of_ble_eq_true rfl) dL_law_793 rfl ?_
  refine zL_aload C0 1 dL_law_796 rfl rfl ?_
  refine zL_callMI C0 (y := yX5_unsee) (maxL := _) (nA := 0) (As := []) (k_X5_unsee  M (r, M') e2) gL_law_X5_unsee rfl ⟨by decide +kernel, rfl, rfl, rfl⟩ rfl ⟨Nat.le_of_ble_eq_true rfl, Nat.le_of_ble_eq_true rfl⟩ rfl (Nat.le_of_ble_eq_true rfl) dL_law_797 rfl ?_
  refine zL_eq C0 (tgt := 1063) dL_law_800 (by decide) ?_
  exact k S' M' hR
set_option maxHeartbeats 4000000 in
theorem law_lives {E : zE} {cI cZ : ClassId} {qC qM b L i0 : Nat} {aC aM : Nat → Nat} {xs : Nat → Int32} {S M : zS} (C0 : zCx E room_1 cL_law 4 RL wsL_law (zty cI cZ) zNw) (X0 : va_X b L xs (es E) (es E).heap ∧ b < (es E).heap.size ∧ ¬ eA E b) (hi : i0 + 6 ≤ L) (hL : L ≤ 3072) (h : Rel S M) (k : ∀ S1 M1 : zS, Rel S1 M1 → zL E (wC cI qC aC S1 ++ wM cI cZ qM aM M1) 1063 [(3, .int (nI i0)), (2, .ref qM), (1, .ref qC), (0, .ref b)] []) : zL E (wC cI qC aC S ++ wM cI cZ qM aM M) 805 [(3, .int (nI i0)), (2, .ref qM), (1, .ref qC), (0, .ref b)] [] := by
  obtain ⟨r, M', e1, e2, hR⟩ := c_lives (xs (i0 + 1)) S M h
  refine zL_aload C0 2 dL_law_805 rfl rfl ?_
  refine zL_arg C0 X0 (k := 1) hL (by omega) dL_law_806 dL_law_807 dL_law_808 dL_law_809 dL_law_810 ?_
  refine zL_callCI C0 (y := yX4_lives) (maxL := _) (nA := 1) (As := [.int (xs (i0 + 1))]) (k_X4_lives (xs (i0 + 1)) S r e1) gL_law_X4_lives rfl ⟨by decide +kernel, rfl, rfl, rfl⟩ rfl ⟨Nat.le_of_ble_eq_true rfl, Nat.le_of_ble_eq_true rfl⟩ rfl (Nat.le_of_ble_eq_true rfl) dL_law_811 rfl ?_
  refine zL_aload C0 1 dL_law_814 rfl rfl ?_
  refine zL_arg C0 X0 (k := 1) hL (by omega) dL_law_815 dL_law_816 dL_law_817 dL_law_818 dL_law_819 ?_
  refine zL_callMI C0 (y := yX5_lives) (maxL := _) (nA := 1) (As := [.int (xs (i0 + 1))]) (k_X5_lives (xs (i0 + 1)) M (r, M') e2) gL_law_X5_lives rfl ⟨by decide +kernel, rfl, rfl, rfl⟩ rfl ⟨Nat.le_of_ble_eq_true rfl, Nat.le_of_ble_eq_true rfl⟩ rfl (Nat.le_of_ble_eq_true rfl) dL_law_820 rfl ?_
  refine zL_eq C0 (tgt := 1063) dL_law_823 (by decide) ?_
  exact k S M' hR
set_option maxHeartbeats 4000000 in
theorem law_rests {E : zE} {cI cZ : ClassId} {qC qM b L i0 : Nat} {aC aM : Nat → Nat} {xs : Nat → Int32} {S M : zS} (C0 : zCx E room_1 cL_law 4 RL wsL_law (zty cI cZ) zNw) (X0 : va_X b L xs (es E) (es E).heap ∧ b < (es E).heap.size ∧ ¬ eA E b) (hi : i0 + 6 ≤ L) (hL : L ≤ 3072) (h : Rel S M) (k : ∀ S1 M1 : zS, Rel S1 M1 → zL E (wC cI qC aC S1 ++ wM cI cZ qM aM M1) 1063 [(3, .int (nI i0)), (2, .ref qM), (1, .ref qC), (0, .ref b)] []) : zL E (wC cI qC aC S ++ wM cI cZ qM aM M) 828 [(3, .int (nI i0)), (2, .ref qM), (1, .ref qC), (0, .ref b)] [] := by
  obtain ⟨r, M', e1, e2, hR⟩ := c_rests (xs (i0 + 1)) (xs (i0 + 2)) (xs (i0 + 3)) S M h
  refine zL_aload C0 2 dL_law_828 rfl rfl ?_
  refine zL_arg C0 X0 (k := 1) hL (by omega) dL_law_829 dL_law_830 dL_law_831 dL_law_832 dL_law_833 ?_
  refine zL_arg C0 X0 (k := 2) hL (by omega) dL_law_834 dL_law_835 dL_law_836 dL_law_837 dL_law_838 ?_
  refine zL_arg C0 X0 (k := 3) hL (by omega) dL_law_839 dL_law_840 dL_law_841 dL_law_842 dL_law_843 ?_
  refine zL_callCI C0 (y := yX4_rests) (maxL := _) (nA := 3) (As := [.int (xs (i0 + 1)), .int (xs (i0 + 2)), .int (xs (i0 + 3))]) (k_X4_rests (xs (i0 + 1)) (xs (i0 + 2)) (xs (i0 + 3)) S r e1) gL_law_X4_rests rfl ⟨by decide +kernel, rfl, rfl, rfl⟩ rfl ⟨Nat.le_of_ble_eq_true rfl, Nat.le_of_ble_eq_true rfl⟩ rfl (Nat.le_of_ble_eq_true rfl) dL_law_844 rfl ?_
  refine zL_aload C0 1 dL_law_847 rfl rfl ?_
  refine zL_arg C0 X0 (k := 1) hL (by omega) dL_law_848 dL_law_849 dL_law_850 dL_law_851 dL_law_852 ?_
  refine zL_arg C0 X0 (k := 2) hL (by omega) dL_law_853 dL_law_854 dL_law_855 dL_law_856 dL_law_857 ?_
  refine zL_arg C0 X0 (k := 3) hL (by omega) dL_law_858 dL_law_859 dL_law_860 dL_law_861 dL_law_862 ?_
  refine zL_callMI C0 (y := yX5_rests) (maxL := _) (nA := 3) (As := [.int (xs (i0 + 1)), .int (xs (i0 + 2)), .int (xs (i0 + 3))]) (k_X5_rests (xs (i0 + 1)) (xs (i0 + 2)) (xs (i0 + 3)) M (r, M') e2) gL_law_X5_rests rfl ⟨by decide +kernel, rfl, rfl, rfl⟩ rfl ⟨Nat.le_of_ble_eq_true rfl, Nat.le_of_ble_eq_true rfl⟩ rfl (Nat.le_of_ble_eq_true rfl) dL_law_863 rfl ?_
  refine zL_eq C0 (tgt := 1063) dL_law_866 (by decide) ?_
  exact k S M' hR
set_option maxHeartbeats 4000000 in
theorem law_chance {E : zE} {cI cZ : ClassId} {qC qM b L i0 : Nat} {aC aM : Nat → Nat} {xs : Nat → Int32} {S M : zS} (C0 : zCx E room_1 cL_law 4 RL wsL_law (zty cI cZ) zNw) (X0 : va_X b L xs (es E) (es E).heap ∧ b < (es E).heap.size ∧ ¬ eA E b) (hi : i0 + 6 ≤ L) (hL : L ≤ 3072) (h : Rel S M) (k : ∀ S1 M1 : zS, Rel S1 M1 → zL E (wC cI qC aC S1 ++ wM cI cZ qM aM M1) 1063 [(3, .int (nI i0)), (2, .ref qM), (1, .ref qC), (0, .ref b)] []) : zL E (wC cI qC aC S ++ wM cI cZ qM aM M) 871 [(3, .int (nI i0)), (2, .ref qM), (1, .ref qC), (0, .ref b)] [] := by
  by_cases hc : xs (i0 + 4) = 0
  · obtain ⟨r, M', e1, e2, hR⟩ := c_chance (xs (i0 + 1)) (xs (i0 + 2)) (xs (i0 + 3)) (0) S M h
    refine zL_aload C0 2 dL_law_871 rfl rfl ?_
    refine zL_arg C0 X0 (k := 1) hL (by omega) dL_law_872 dL_law_873 dL_law_874 dL_law_875 dL_law_876 ?_
    refine zL_arg C0 X0 (k := 2) hL (by omega) dL_law_877 dL_law_878 dL_law_879 dL_law_880 dL_law_881 ?_
    refine zL_arg C0 X0 (k := 3) hL (by omega) dL_law_882 dL_law_883 dL_law_884 dL_law_885 dL_law_886 ?_
    refine zL_arg C0 X0 (k := 4) hL (by omega) dL_law_887 dL_law_888 dL_law_889 dL_law_890 dL_law_891 ?_
    refine zL_if_eqT C0 (tgt := 899) dL_law_892 (by decide) hc ?_
    refine zL_iconst C0 (v := 0) dL_law_899 rfl rfl ?_
    refine zL_callCI C0 (y := yX4_chance) (maxL := _) (nA := 4) (As := [.int (xs (i0 + 1)), .int (xs (i0 + 2)), .int (xs (i0 + 3)), .int (0)]) (k_X4_chance (xs (i0 + 1)) (xs (i0 + 2)) (xs (i0 + 3)) (0) S r e1) gL_law_X4_chance rfl ⟨by decide +kernel, rfl, rfl, rfl⟩ rfl ⟨Nat.le_of_ble_eq_true rfl, Nat.le_of_ble_eq_true rfl⟩ rfl (Nat.le_of_ble_eq_true rfl) dL_law_900 rfl ?_
    refine zL_aload C0 1 dL_law_903 rfl rfl ?_
    refine zL_arg C0 X0 (k := 1) hL (by omega) dL_law_904 dL_law_905 dL_law_906 dL_law_907 dL_law_908 ?_
    refine zL_arg C0 X0 (k := 2) hL (by omega) dL_law_909 dL_law_910 dL_law_911 dL_law_912 dL_law_913 ?_
    refine zL_arg C0 X0 (k := 3) hL (by omega) dL_law_914 dL_law_915 dL_law_916 dL_law_917 dL_law_918 ?_
    refine zL_arg C0 X0 (k := 4) hL (by omega) dL_law_919 dL_law_920 dL_law_921 dL_law_922 dL_law_923 ?_
    refine zL_if_eqT C0 (tgt := 931) dL_law_924 (by decide) hc ?_
    refine zL_iconst C0 (v := 0) dL_law_931 rfl rfl ?_
    refine zL_callMI C0 (y := yX5_chance) (maxL := _) (nA := 4) (As := [.int (xs (i0 + 1)), .int (xs (i0 + 2)), .int (xs (i0 + 3)), .int (0)]) (k_X5_chance (xs (i0 + 1)) (xs (i0 + 2)) (xs (i0 + 3)) (0) M (r, M') e2) gL_law_X5_chance rfl ⟨by decide +kernel, rfl, rfl, rfl⟩ rfl ⟨Nat.le_of_ble_eq_true rfl, Nat.le_of_ble_eq_true rfl⟩ rfl (Nat.le_of_ble_eq_true rfl) dL_law_932 rfl ?_
    refine zL_eq C0 (tgt := 1063) dL_law_935 (by decide) ?_
    exact k S M' hR
  · obtain ⟨r, M', e1, e2, hR⟩ := c_chance (xs (i0 + 1)) (xs (i0 + 2)) (xs (i0 + 3)) (1) S M h
    refine zL_aload C0 2 dL_law_871 rfl rfl ?_
    refine zL_arg C0 X0 (k := 1) hL (by omega) dL_law_872 dL_law_873 dL_law_874 dL_law_875 dL_law_876 ?_
    refine zL_arg C0 X0 (k := 2) hL (by omega) dL_law_877 dL_law_878 dL_law_879 dL_law_880 dL_law_881 ?_
    refine zL_arg C0 X0 (k := 3) hL (by omega) dL_law_882 dL_law_883 dL_law_884 dL_law_885 dL_law_886 ?_
    refine zL_arg C0 X0 (k := 4) hL (by omega) dL_law_887 dL_law_888 dL_law_889 dL_law_890 dL_law_891 ?_
    refine zL_if_eqF C0 dL_law_892 hc (by decide) rfl ?_
    refine zL_iconst C0 (v := 1) dL_law_895 rfl rfl ?_
    refine zL_goto C0 (tgt := 900) dL_law_896 (by decide) ?_
    refine zL_callCI C0 (y := yX4_chance) (maxL := _) (nA := 4) (As := [.int (xs (i0 + 1)), .int (xs (i0 + 2)), .int (xs (i0 + 3)), .int (1)]) (k_X4_chance (xs (i0 + 1)) (xs (i0 + 2)) (xs (i0 + 3)) (1) S r e1) gL_law_X4_chance rfl ⟨by decide +kernel, rfl, rfl, rfl⟩ rfl ⟨Nat.le_of_ble_eq_true rfl, Nat.le_of_ble_eq_true rfl⟩ rfl (Nat.le_of_ble_eq_true rfl) dL_law_900 rfl ?_
    refine zL_aload C0 1 dL_law_903 rfl rfl ?_
    refine zL_arg C0 X0 (k := 1) hL (by omega) dL_law_904 dL_law_905 dL_law_906 dL_law_907 dL_law_908 ?_
    refine zL_arg C0 X0 (k := 2) hL (by omega) dL_law_909 dL_law_910 dL_law_911 dL_law_912 dL_law_913 ?_
    refine zL_arg C0 X0 (k := 3) hL (by omega) dL_law_914 dL_law_915 dL_law_916 dL_law_917 dL_law_918 ?_
    refine zL_arg C0 X0 (k := 4) hL (by omega) dL_law_919 dL_law_920 dL_law_921 dL_law_922 dL_law_923 ?_
    refine zL_if_eqF C0 dL_law_924 hc (by decide) rfl ?_
    refine zL_iconst C0 (v := 1) dL_law_927 rfl rfl ?_
    refine zL_goto C0 (tgt := 932) dL_law_928 (by decide) ?_
    refine zL_callMI C0 (y := yX5_chance) (maxL := _) (nA := 4) (As := [.int (xs (i0 + 1)), .int (xs (i0 + 2)), .int (xs (i0 + 3)), .int (1)]) (k_X5_chance (xs (i0 + 1)) (xs (i0 + 2)) (xs (i0 + 3)) (1) M (r, M') e2) gL_law_X5_chance rfl ⟨by decide +kernel, rfl, rfl, rfl⟩ rfl ⟨Nat.le_of_ble_eq_true rfl, Nat.le_of_ble_eq_true rfl⟩ rfl (Nat.le_of_ble_eq_true rfl) dL_law_932 rfl ?_
    refine zL_eq C0 (tgt := 1063) dL_law_935 (by decide) ?_
    exact k S M' hR
set_option maxHeartbeats 4000000 in
theorem law_seed {E : zE} {cI cZ : ClassId} {qC qM b L i0 : Nat} {aC aM : Nat → Nat} {xs : Nat → Int32} {S M : zS} (C0 : zCx E room_1 cL_law 4 RL wsL_law (zty cI cZ) zNw) (X0 : va_X b L xs (es E) (es E).heap ∧ b < (es E).heap.size ∧ ¬ eA E b) (hi : i0 + 6 ≤ L) (hL : L ≤ 3072) (h : Rel S M) (hconst : Cond.constantLong RL 118 4294967295 ∈ wsL_law) (k : ∀ S1 M1 : zS, Rel S1 M1 → zL E (wC cI qC aC S1 ++ wM cI cZ qM aM M1) 1063 [(3, .int (nI i0)), (2, .ref qM), (1, .ref qC), (0, .ref b)] []) : zL E (wC cI qC aC S ++ wM cI cZ qM aM M) 940 [(3, .int (nI i0)), (2, .ref qM), (1, .ref qC), (0, .ref b)] [] := by
  obtain ⟨r, S', M', e1, e2, hR⟩ := c_seed ((zshlL ((xs (i0 + 1)).toInt64) 32) ||| (((xs (i0 + 2)).toInt64) &&& (4294967295))) S M h
  refine zL_aload C0 2 dL_law_940 rfl rfl ?_
  refine zL_arg C0 X0 (k := 1) hL (by omega) dL_law_941 dL_law_942 dL_law_943 dL_law_944 dL_law_945 ?_
  refine zL_i2l C0 dL_law_946 rfl ?_
  refine zL_bipush C0 (v := 32) dL_law_947 rfl rfl ?_
  refine zL_lshl C0 dL_law_949 rfl ?_
  refine zL_arg C0 X0 (k := 2) hL (by omega) dL_law_950 dL_law_951 dL_law_952 dL_law_953 dL_law_954 ?_
  refine zL_i2l C0 dL_law_955 rfl ?_
  refine zL_ldc2 C0 (v := 4294967295) dL_law_956 hconst rfl ?_
  refine zL_land C0 dL_law_959 rfl ?_
  refine zL_lor C0 dL_law_960 rfl ?_
  refine zL_callCJ C0 (y := yX4_seed) (maxL := _) (nA := 1) (As := [.long ((zshlL ((xs (i0 + 1)).toInt64) 32) ||| (((xs (i0 + 2)).toInt64) &&& (4294967295)))]) (k_X4_seed ((zshlL ((xs (i0 + 1)).toInt64) 32) ||| (((xs (i0 + 2)).toInt64) &&& (4294967295))) S (r, S') e1) gL_law_X4_seed rfl ⟨by decide +kernel, rfl, rfl, rfl⟩ rfl ⟨Nat.le_of_ble_eq_true rfl, Nat.le_of_ble_eq_true rfl⟩ rfl (Nat.le_of_ble_eq_true rfl) dL_law_961 rfl ?_
  refine zL_aload C0 1 dL_law_964 rfl rfl ?_
  refine zL_arg C0 X0 (k := 1) hL (by omega) dL_law_965 dL_law_966 dL_law_967 dL_law_968 dL_law_969 ?_
  refine zL_i2l C0 dL_law_970 rfl ?_
  refine zL_bipush C0 (v := 32) dL_law_971 rfl rfl ?_
  refine zL_lshl C0 dL_law_973 rfl ?_
  refine zL_arg C0 X0 (k := 2) hL (by omega) dL_law_974 dL_law_975 dL_law_976 dL_law_977 dL_law_978 ?_
  refine zL_i2l C0 dL_law_979 rfl ?_
  refine zL_ldc2 C0 (v := 4294967295) dL_law_980 hconst rfl ?_
  refine zL_land C0 dL_law_983 rfl ?_
  refine zL_lor C0 dL_law_984 rfl ?_
  refine zL_callMJ C0 (y := yX5_seed) (maxL := _) (nA := 1) (As := [.long ((zshlL ((xs (i0 + 1)).toInt64) 32) ||| (((xs (i0 + 2)).toInt64) &&& (4294967295)))]) (k_X5_seed ((zshlL ((xs (i0 + 1)).toInt64) 32) ||| (((xs (i0 + 2)).toInt64) &&& (4294967295))) M (r, M') e2) gL_law_X5_seed rfl ⟨by decide +kernel, rfl, rfl, rfl⟩ rfl ⟨Nat.le_of_ble_eq_true rfl, Nat.le_of_ble_eq_true rfl⟩ rfl (Nat.le_of_ble_eq_true rfl) dL_law_985 rfl ?_
  refine zL_lcmp C0 dL_law_988 rfl ?_
  refine zL_if_eqT C0 (tgt := 1063) dL_law_989 (by decide) (lg_cmp_self r) ?_
  exact k S' M' hR
set_option maxHeartbeats 4000000 in
theorem law_days {E : zE} {cI cZ : ClassId} {qC qM b L i0 : Nat} {aC aM : Nat → Nat} {xs : Nat → Int32} {S M : zS} (C0 : zCx E room_1 cL_law 4 RL wsL_law (zty cI cZ) zNw) (X0 : va_X b L xs (es E) (es E).heap ∧ b < (es E).heap.size ∧ ¬ eA E b) (hi : i0 + 6 ≤ L) (hL : L ≤ 3072) (h : Rel S M) (k : ∀ S1 M1 : zS, Rel S1 M1 → zL E (wC cI qC aC S1 ++ wM cI cZ qM aM M1) 1063 [(3, .int (nI i0)), (2, .ref qM), (1, .ref qC), (0, .ref b)] []) : zL E (wC cI qC aC S ++ wM cI cZ qM aM M) 994 [(3, .int (nI i0)), (2, .ref qM), (1, .ref qC), (0, .ref b)] [] := by
  obtain ⟨r, S', M', e1, e2, hR⟩ := c_days (xs (i0 + 1)) S M h
  refine zL_aload C0 2 dL_law_994 rfl rfl ?_
  refine zL_arg C0 X0 (k := 1) hL (by omega) dL_law_995 dL_law_996 dL_law_997 dL_law_998 dL_law_999 ?_
  refine zL_callCI C0 (y := yX4_days) (maxL := _) (nA := 1) (As := [.int (xs (i0 + 1))]) (k_X4_days (xs (i0 + 1)) S (r, S') e1) gL_law_X4_days rfl ⟨by decide +kernel, rfl, rfl, rfl⟩ rfl ⟨Nat.le_of_ble_eq_true rfl, Nat.le_of_ble_eq_true rfl⟩ rfl (Nat.le_of_ble_eq_true rfl) dL_law_1000 rfl ?_
  refine zL_aload C0 1 dL_law_1003 rfl rfl ?_
  refine zL_arg C0 X0 (k := 1) hL (by omega) dL_law_1004 dL_law_1005 dL_law_1006 dL_law_1007 dL_law_1008 ?_
  refine zL_callMI C0 (y := yX5_days) (maxL := _) (nA := 1) (As := [.int (xs (i0 + 1))]) (k_X5_days (xs (i0 + 1)) M (r, M') e2) gL_law_X5_days rfl ⟨by decide +kernel, rfl, rfl, rfl⟩ rfl ⟨Nat.le_of_ble_eq_true rfl, Nat.le_of_ble_eq_true rfl⟩ rfl (Nat.le_of_ble_eq_true rfl) dL_law_1009 rfl ?_
  refine zL_eq C0 (tgt := 1063) dL_law_1012 (by decide) ?_
  exact k S' M' hR
set_option maxHeartbeats 4000000 in
theorem law_keep {E : zE} {cI cZ : ClassId} {qC qM b L i0 : Nat} {aC aM : Nat → Nat} {xs : Nat → Int32} {S M : zS} (C0 : zCx E room_1 cL_law 4 RL wsL_law (zty cI cZ) zNw) (X0 : va_X b L xs (es E) (es E).heap ∧ b < (es E).heap.size ∧ ¬ eA E b) (hi : i0 + 6 ≤ L) (hL : L ≤ 3072) (h : Rel S M) (k : ∀ S1 M1 : zS, Rel S1 M1 → zL E (wC cI qC aC S1 ++ wM cI cZ qM aM M1) 1063 [(3, .int (nI i0)), (2, .ref qM), (1, .ref qC), (0, .ref b)] []) : zL E (wC cI qC aC S ++ wM cI cZ qM aM M) 1017 [(3, .int (nI i0)), (2, .ref qM), (1, .ref qC), (0, .ref b)] [] := by
  obtain ⟨r, S', M', e1, e2, hR⟩ := c_keep (xs (i0 + 1)) S M h
  refine zL_aload C0 2 dL_law_1017 rfl rfl ?_
  refine zL_arg C0 X0 (k := 1) hL (by omega) dL_law_1018 dL_law_1019 dL_law_1020 dL_law_1021 dL_law_1022 ?_
  refine zL_callCI C0 (y := yX4_keep) (maxL := _) (nA := 1) (As := [.int (xs (i0 + 1))]) (k_X4_keep (xs (i0 + 1)) S (r, S') e1) gL_law_X4_keep rfl ⟨by decide +kernel, rfl, rfl, rfl⟩ rfl ⟨Nat.le_of_ble_eq_true rfl, Nat.le_of_ble_eq_true rfl⟩ rfl (Nat.le_of_ble_eq_true rfl) dL_law_1023 rfl ?_
  refine zL_aload C0 1 dL_law_1026 rfl rfl ?_
  refine zL_arg C0 X0 (k := 1) hL (by omega) dL_law_1027 dL_law_1028 dL_law_1029 dL_law_1030 dL_law_1031 ?_
  refine zL_callMI C0 (y := yX5_keep) (maxL := _) (nA := 1) (As := [.int (xs (i0 + 1))]) (k_X5_keep (xs (i0 + 1)) M (r, M') e2) gL_law_X5_keep rfl ⟨by decide +kernel, rfl, rfl, rfl⟩ rfl ⟨Nat.le_of_ble_eq_true rfl, Nat.le_of_ble_eq_true rfl⟩ rfl (Nat.le_of_ble_eq_true rfl) dL_law_1032 rfl ?_
  refine zL_eq C0 (tgt := 1063) dL_law_1035 (by decide) ?_
  exact k S' M' hR
set_option maxHeartbeats 4000000 in
theorem law_again {E : zE} {cI cZ : ClassId} {qC qM b L i0 : Nat} {aC aM : Nat → Nat} {xs : Nat → Int32} {S M : zS} (C0 : zCx E room_1 cL_law 4 RL wsL_law (zty cI cZ) zNw) (X0 : va_X b L xs (es E) (es E).heap ∧ b < (es E).heap.size ∧ ¬ eA E b) (hi : i0 + 6 ≤ L) (hL : L ≤ 3072) (h : Rel S M) (k : ∀ S1 M1 : zS, Rel S1 M1 → zL E (wC cI qC aC S1 ++ wM cI cZ qM aM M1) 1063 [(3, .int (nI i0)), (2, .ref qM), (1, .ref qC), (0, .ref b)] []) : zL E (wC cI qC aC S ++ wM cI cZ qM aM M) 1040 [(3, .int (nI i0)), (2, .ref qM), (1, .ref qC), (0, .ref b)] [] := by
  obtain ⟨r, S', M', e1, e2, hR⟩ := c_again (xs (i0 + 1)) S M h
  refine zL_aload C0 2 dL_law_1040 rfl rfl ?_
  refine zL_arg C0 X0 (k := 1) hL (by omega) dL_law_1041 dL_law_1042 dL_law_1043 dL_law_1044 dL_law_1045 ?_
  refine zL_callCI C0 (y := yX4_again) (maxL := _) (nA := 1) (As := [.int (xs (i0 + 1))]) (k_X4_again (xs (i0 + 1)) S (r, S') e1) gL_law_X4_again rfl ⟨by decide +kernel, rfl, rfl, rfl⟩ rfl ⟨Nat.le_of_ble_eq_true rfl, Nat.le_of_ble_eq_true rfl⟩ rfl (Nat.le_of_ble_eq_true rfl) dL_law_1046 rfl ?_
  refine zL_aload C0 1 dL_law_1049 rfl rfl ?_
  refine zL_arg C0 X0 (k := 1) hL (by omega) dL_law_1050 dL_law_1051 dL_law_1052 dL_law_1053 dL_law_1054 ?_
  refine zL_callMI C0 (y := yX5_again) (maxL := _) (nA := 1) (As := [.int (xs (i0 + 1))]) (k_X5_again (xs (i0 + 1)) M (r, M') e2) gL_law_X5_again rfl ⟨by decide +kernel, rfl, rfl, rfl⟩ rfl ⟨Nat.le_of_ble_eq_true rfl, Nat.le_of_ble_eq_true rfl⟩ rfl (Nat.le_of_ble_eq_true rfl) dL_law_1055 rfl ?_
  refine zL_eq C0 (tgt := 1063) dL_law_1058 (by decide) ?_
  exact k S' M' hR
