/-! ===== the law's switch and its loop ===== -/
theorem law_switch {E : zE} {cI cZ : ClassId} {qC qM b L : Nat} {aC aM : Nat → Nat} {xs : Nat → Int32} (C0 : zCx E room_1 cL_law 4 RL wsL_law (zty cI cZ) zNw) (X0 : va_X b L xs (es E) (es E).heap ∧ b < (es E).heap.size ∧ ¬ eA E b) (hL : L ≤ 3072) (hconst : Cond.constantLong RL 118 4294967295 ∈ wsL_law) {i0 : Nat} {S M : zS} (hi : i0 + 6 ≤ L) (h : Rel S M) (k : ∀ S1 M1 : zS, Rel S1 M1 → zL E (wC cI qC aC S1 ++ wM cI cZ qM aM M1) 1063 [(3, .int (nI i0)), (2, .ref qM), (1, .ref qC), (0, .ref b)] []) (m : Nat) (hm : m < 32) : zL E (wC cI qC aC S ++ wM cI cZ qM aM M) 33 [(3, .int (nI i0)), (2, .ref qM), (1, .ref qC), (0, .ref b)] [.int (nI m)] := by
  by_cases q : m < 28
  · rcases (by omega : m = 0 ∨ m = 1 ∨ m = 2 ∨ m = 3 ∨ m = 4 ∨ m = 5 ∨ m = 6 ∨ m = 7 ∨ m = 8 ∨ m = 9 ∨ m = 10 ∨ m = 11 ∨ m = 12 ∨ m = 13 ∨ m = 14 ∨ m = 15 ∨ m = 16 ∨ m = 17 ∨ m = 18 ∨ m = 19 ∨ m = 20 ∨ m = 21 ∨ m = 22 ∨ m = 23 ∨ m = 24 ∨ m = 25 ∨ m = 26 ∨ m = 27) with rfl | rfl | rfl | rfl | rfl | rfl | rfl | rfl | rfl | rfl | rfl | rfl | rfl | rfl | rfl | rfl | rfl | rfl | rfl | rfl | rfl | rfl | rfl | rfl | rfl | rfl | rfl | rfl
    · exact zL_tabI C0 (tgt := 160) dL_law_33 (by decide) (by decide) rfl (by decide) (law_write C0 X0 hi hL h k)
    · exact zL_tabI C0 (tgt := 183) dL_law_33 (by decide) (by decide) rfl (by decide) (law_wipe C0 X0 hi hL h k)
    · exact zL_tabI C0 (tgt := 196) dL_law_33 (by decide) (by decide) rfl (by decide) (law_fault C0 X0 hi hL h k)
    · exact zL_tabI C0 (tgt := 209) dL_law_33 (by decide) (by decide) rfl (by decide) (law_tunnel C0 X0 hi hL h k)
    · exact zL_tabI C0 (tgt := 222) dL_law_33 (by decide) (by decide) rfl (by decide) (law_about C0 X0 hi hL h k)
    · exact zL_tabI C0 (tgt := 245) dL_law_33 (by decide) (by decide) rfl (by decide) (law_legger C0 X0 hi hL h k)
    · exact zL_tabI C0 (tgt := 278) dL_law_33 (by decide) (by decide) rfl (by decide) (law_load C0 X0 hi hL h k)
    · exact zL_tabI C0 (tgt := 301) dL_law_33 (by decide) (by decide) rfl (by decide) (law_leg C0 X0 hi hL h k)
    · exact zL_tabI C0 (tgt := 344) dL_law_33 (by decide) (by decide) rfl (by decide) (law_rest C0 X0 hi hL h k)
    · exact zL_tabI C0 (tgt := 367) dL_law_33 (by decide) (by decide) rfl (by decide) (law_wet C0 X0 hi hL h k)
    · exact zL_tabI C0 (tgt := 400) dL_law_33 (by decide) (by decide) rfl (by decide) (law_dry C0 X0 hi hL h k)
    · exact zL_tabI C0 (tgt := 433) dL_law_33 (by decide) (by decide) rfl (by decide) (law_undo C0 X0 hi hL h k)
    · exact zL_tabI C0 (tgt := 446) dL_law_33 (by decide) (by decide) rfl (by decide) (law_alone C0 X0 hi hL h k)
    · exact zL_tabI C0 (tgt := 479) dL_law_33 (by decide) (by decide) rfl (by decide) (law_time C0 X0 hi hL h k)
    · exact zL_tabI C0 (tgt := 542) dL_law_33 (by decide) (by decide) rfl (by decide) (law_best C0 X0 hi hL h k)
    · exact zL_tabI C0 (tgt := 575) dL_law_33 (by decide) (by decide) rfl (by decide) (law_begin C0 X0 hi hL h k)
    · exact zL_tabI C0 (tgt := 628) dL_law_33 (by decide) (by decide) rfl (by decide) (law_soonest C0 X0 hi hL h k)
    · exact zL_tabI C0 (tgt := 667) dL_law_33 (by decide) (by decide) rfl (by decide) (law_judge C0 X0 hi hL h k)
    · exact zL_tabI C0 (tgt := 700) dL_law_33 (by decide) (by decide) rfl (by decide) (law_share C0 X0 hi hL h k)
    · exact zL_tabI C0 (tgt := 759) dL_law_33 (by decide) (by decide) rfl (by decide) (law_see C0 X0 hi hL h k)
    · exact zL_tabI C0 (tgt := 792) dL_law_33 (by decide) (by decide) rfl (by decide) (law_unsee C0 X0 hi hL h k)
    · exact zL_tabI C0 (tgt := 805) dL_law_33 (by decide) (by decide) rfl (by decide) (law_lives C0 X0 hi hL h k)
    · exact zL_tabI C0 (tgt := 828) dL_law_33 (by decide) (by decide) rfl (by decide) (law_rests C0 X0 hi hL h k)
    · exact zL_tabI C0 (tgt := 871) dL_law_33 (by decide) (by decide) rfl (by decide) (law_chance C0 X0 hi hL h k)
    · exact zL_tabI C0 (tgt := 940) dL_law_33 (by decide) (by decide) rfl (by decide) (law_seed C0 X0 hi hL h hconst k)
    · exact zL_tabI C0 (tgt := 994) dL_law_33 (by decide) (by decide) rfl (by decide) (law_days C0 X0 hi hL h k)
    · exact zL_tabI C0 (tgt := 1017) dL_law_33 (by decide) (by decide) rfl (by decide) (law_keep C0 X0 hi hL h k)
    · exact zL_tabI C0 (tgt := 1040) dL_law_33 (by decide) (by decide) rfl (by decide) (law_again C0 X0 hi hL h k)
  · have e : (nI m).toInt = (m : Int) := nI_toInt (by omega)
    exact zL_tabO C0 (tgt := 1063) dL_law_33 (Or.inr (by rw [e]; omega)) (by decide) (k S M h)
theorem and31 (x : Int32) : ∃ m, m < 32 ∧ x &&& 31 = nI m := ⟨_, Nat.mod_lt _ (by decide), pk_and x 5 rfl⟩
theorem le6 {L i : Nat} (hL : L ≤ 3072) (hi : i ≤ 3072) (h : ¬ nI L - 6 < nI i) : i + 6 ≤ L := by
  by_cases c : 6 ≤ L
  · rw [show (6 : Int32) = nI 6 from rfl, pk_sub c] at h
    by_cases d : i + 6 ≤ L
    · exact d
    · exact absurd (nI_lt (by omega) (by omega)) h
  · have z : nI L - 6 < 0 := by
      rcases (by omega : L = 0 ∨ L = 1 ∨ L = 2 ∨ L = 3 ∨ L = 4 ∨ L = 5) with rfl | rfl | rfl | rfl | rfl | rfl <;> decide
    exact absurd (Int32.lt_of_lt_of_le z (nI_pos' (by omega))) h
theorem law_loop {E : zE} {cI cZ : ClassId} {qC qM b L : Nat} {aC aM : Nat → Nat} {xs : Nat → Int32} (C0 : zCx E room_1 cL_law 4 RL wsL_law (zty cI cZ) zNw) (X0 : va_X b L xs (es E) (es E).heap ∧ b < (es E).heap.size ∧ ¬ eA E b) (hL : L ≤ 3072) (hconst : Cond.constantLong RL 118 4294967295 ∈ wsL_law) (hend : ∀ w lv, zL E w 1069 lv []) : ∀ n i0 S M, L ≤ i0 + n → i0 ≤ L → Rel S M → zL E (wC cI qC aC S ++ wM cI cZ qM aM M) 18 [(3, .int (nI i0)), (2, .ref qM), (1, .ref qC), (0, .ref b)] [] := by
  intro n
  induction n with
  | zero =>
    intro i0 S M hn hi h
    refine zL_iload C0 0 dL_law_18 rfl rfl ?_
    refine zL_aload C0 3 dL_law_19 rfl rfl ?_
    refine zL_slen C0 X0 dL_law_20 rfl ?_
    refine zL_bipush C0 (v := 6) dL_law_21 rfl rfl ?_
    refine zL_isub C0 dL_law_23 rfl ?_
    refine zL_gt C0 (tgt := 1069) dL_law_24 (by decide) rfl (fun _ => hend _ _) (fun z => ?_)
    have := le6 hL (by omega) z
    omega
  | succ n ih =>
    intro i0 S M hn hi h
    refine zL_iload C0 0 dL_law_18 rfl rfl ?_
    refine zL_aload C0 3 dL_law_19 rfl rfl ?_
    refine zL_slen C0 X0 dL_law_20 rfl ?_
    refine zL_bipush C0 (v := 6) dL_law_21 rfl rfl ?_
    refine zL_isub C0 dL_law_23 rfl ?_
    refine zL_gt C0 (tgt := 1069) (n := 27) dL_law_24 (by decide) rfl (fun _ => hend _ _) (fun z => ?_)
    have hi6 := le6 hL (by omega) z
    refine zL_aload C0 3 dL_law_27 rfl rfl ?_
    refine zL_iload C0 0 dL_law_28 rfl rfl ?_
    refine zL_sld C0 X0 hL (by omega) dL_law_29 rfl ?_
    refine zL_bipush C0 (v := 31) dL_law_30 rfl rfl ?_
    refine zL_iand C0 (n := 33) dL_law_32 rfl ?_
    obtain ⟨m, hm, em⟩ := and31 (xs i0)
    rw [em]
    refine law_switch C0 X0 hL hconst hi6 h (fun S1 M1 h1 => ?_) m hm
    intro H locs ls hP hD hS hl
    refine lv_iinc C0.1 C0.2.1 dL_law_1063 hl (k := 0) (v := nI (i0 + 6)) (lv' := [(3, .int (nI (i0 + 6))), (2, .ref qM), (1, .ref qC), (0, .ref b)]) rfl ?_ (by decide) rfl (fun ls2 hl2 => ?_)
    · rw [show Int32.ofInt 6 = nI 6 from rfl, nI_add]
    · exact lv_goto (tgt := 18) C0.1 C0.2.1 dL_law_1066 (by decide) (ih (i0 + 6) S1 M1 (by omega) (by omega) h1 H locs ls2 hP hD hS hl2)
