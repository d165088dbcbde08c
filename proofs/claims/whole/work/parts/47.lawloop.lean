/-! the law's loop over the script -/
set_option maxHeartbeats 4000000 in
theorem law_loop {X : Cx} {b0 L : Nat} {xs : Nat → Int32} {Ly : LL} (F : Fx X RL cL_law 4 12 600000 7302250) (S : SX X b0 L xs) (hL : L ≤ 3072) (hend : ∀ (lv : List (Option AV)) (I : II) (P : PP), GL b0 X 4 149 8918 149 Ly 787 lv [] I P) : ∀ (m i : Nat), i ≤ L → L ≤ i + m → ∀ (I : II) (P : PP), LInv Ly I P → GL b0 X 4 149 8918 149 Ly 18 (lvL i) [] I P := by
  intro m
  induction m with
  | zero =>
    intro i h1 h2 I P hI
    have t6 : (nI L - 6).toInt = (L : Int) - 6 := pk_sub_toInt (b := 6) (by omega) (by omega)
    have ti : (nI i).toInt = (i : Int) := nI_toInt (by omega)
    refine tL_iload_n (x := nI i) F dL_law_18 rfl ?_
    refine tL_slen F S dL_law_19 dL_law_20 ?_
    refine tL_bipush (v := 6) F dL_law_21 (by decide) ?_
    refine tL_isub F dL_law_23 ?_
    refine tL_icmp_gt (tgt := 787) F dL_law_24 (by decide) (fun _ => hend _ _ _) (fun c1 => ?_)
    exfalso
    rw [Int32.lt_iff_toInt_lt, t6, ti] at c1
    omega
  | succ m ih =>
    intro i h1 h2 I P hI
    have t6 : (nI L - 6).toInt = (L : Int) - 6 := pk_sub_toInt (b := 6) (by omega) (by omega)
    have ti : (nI i).toInt = (i : Int) := nI_toInt (by omega)
    refine tL_iload_n (x := nI i) F dL_law_18 rfl ?_
    refine tL_slen F S dL_law_19 dL_law_20 ?_
    refine tL_bipush (v := 6) F dL_law_21 (by decide) ?_
    refine tL_isub F dL_law_23 ?_
    refine tL_icmp_gt (tgt := 787) F dL_law_24 (by decide) (fun _ => hend _ _ _) (fun c1 => ?_)
    rw [Int32.lt_iff_toInt_lt, t6, ti] at c1
    have hi : i + 5 < L := by omega
    have nx : ∀ I' P', LInv Ly I' P' → GL b0 X 4 149 8918 149 Ly 781 (lvL i) [] I' P' := by
      intro I' P' hI'
      refine tL_iinc (x := nI i) (v := nI (i + 6)) F dL_law_781 rfl (by decide) (by decide) (nI_add i 6) ?_
      refine tL_goto (tgt := 18) F dL_law_784 (by decide) ?_
      exact ih (i + 6) (by omega) (by omega) I' P' hI'
    refine tL_s0 F S (by omega) hL rfl dL_law_27 dL_law_28 dL_law_29 ?_
    refine tL_bipush (v := 31) F dL_law_30 (by decide) ?_
    refine tL_iand F dL_law_32 ?_
    by_cases hv : 0 ≤ (xs i &&& 31).toInt ∧ (xs i &&& 31).toInt ≤ 22
    · obtain ⟨k, hk⟩ : ∃ k : Nat, (xs i &&& 31).toInt = (k : Int) := ⟨(xs i &&& 31).toInt.toNat, by omega⟩
      have hk22 : k = 0 ∨ k = 1 ∨ k = 2 ∨ k = 3 ∨ k = 4 ∨ k = 5 ∨ k = 6 ∨ k = 7 ∨ k = 8 ∨ k = 9 ∨ k = 10 ∨ k = 11 ∨ k = 12 ∨ k = 13 ∨ k = 14 ∨ k = 15 ∨ k = 16 ∨ k = 17 ∨ k = 18 ∨ k = 19 ∨ k = 20 ∨ k = 21 ∨ k = 22 := by omega
      rcases hk22 with e | e | e | e | e | e | e | e | e | e | e | e | e | e | e | e | e | e | e | e | e | e | e
      · exact tL_tin (off := 107) (tgt := 140) F dL_law_33 (by omega) (by omega) (by rw [hk, e]; rfl) (by decide) (law_reset F S hL hi hI nx)
      · exact tL_tin (off := 140) (tgt := 173) F dL_law_33 (by omega) (by omega) (by rw [hk, e]; rfl) (by decide) (law_put F S hL hi hI nx)
      · exact tL_tin (off := 183) (tgt := 216) F dL_law_33 (by omega) (by omega) (by rw [hk, e]; rfl) (by decide) (law_strew F S hL hi hI nx)
      · exact tL_tin (off := 226) (tgt := 259) F dL_law_33 (by omega) (by omega) (by rw [hk, e]; rfl) (by decide) (law_addWalker F S hL hi hI nx)
      · exact tL_tin (off := 289) (tgt := 322) F dL_law_33 (by omega) (by omega) (by rw [hk, e]; rfl) (by decide) (law_setSort F S hL hi hI nx)
      · exact tL_tin (off := 322) (tgt := 355) F dL_law_33 (by omega) (by omega) (by rw [hk, e]; rfl) (by decide) (law_empty F S hL hi hI nx)
      · exact tL_tin (off := 345) (tgt := 378) F dL_law_33 (by omega) (by omega) (by rw [hk, e]; rfl) (by decide) (law_addTurn F S hL hi hI nx)
      · exact tL_tin (off := 368) (tgt := 401) F dL_law_33 (by omega) (by omega) (by rw [hk, e]; rfl) (by decide) (law_clearTurns F S hL hi hI nx)
      · exact tL_tin (off := 381) (tgt := 414) F dL_law_33 (by omega) (by omega) (by rw [hk, e]; rfl) (by decide) (law_walk F S hL hi hI nx)
      · exact tL_tin (off := 414) (tgt := 447) F dL_law_33 (by omega) (by omega) (by rw [hk, e]; rfl) (by decide) (law_rounds F S hL hi hI nx)
      · exact tL_tin (off := 437) (tgt := 470) F dL_law_33 (by omega) (by omega) (by rw [hk, e]; rfl) (by decide) (law_type F S hL hi hI nx)
      · exact tL_tin (off := 462) (tgt := 495) F dL_law_33 (by omega) (by omega) (by rw [hk, e]; rfl) (by decide) (law_clearText F S hL hi hI nx)
      · exact tL_tin (off := 475) (tgt := 508) F dL_law_33 (by omega) (by omega) (by rw [hk, e]; rfl) (by decide) (law_run F S hL hi hI nx)
      · exact tL_tin (off := 488) (tgt := 521) F dL_law_33 (by omega) (by omega) (by rw [hk, e]; rfl) (by decide) (law_undo F S hL hi hI nx)
      · exact tL_tin (off := 501) (tgt := 534) F dL_law_33 (by omega) (by omega) (by rw [hk, e]; rfl) (by decide) (law_keep F S hL hi hI nx)
      · exact tL_tin (off := 524) (tgt := 557) F dL_law_33 (by omega) (by omega) (by rw [hk, e]; rfl) (by decide) (law_restore F S hL hi hI nx)
      · exact tL_tin (off := 547) (tgt := 580) F dL_law_33 (by omega) (by omega) (by rw [hk, e]; rfl) (by decide) (law_chips F S hL hi hI nx)
      · exact tL_tin (off := 580) (tgt := 613) F dL_law_33 (by omega) (by omega) (by rw [hk, e]; rfl) (by decide) (law_walker F S hL hi hI nx)
      · exact tL_tin (off := 613) (tgt := 646) F dL_law_33 (by omega) (by omega) (by rw [hk, e]; rfl) (by decide) (law_heap F S hL hi hI nx)
      · exact tL_tin (off := 646) (tgt := 679) F dL_law_33 (by omega) (by omega) (by rw [hk, e]; rfl) (by decide) (law_heapOf F S hL hi hI nx)
      · exact tL_tin (off := 679) (tgt := 712) F dL_law_33 (by omega) (by omega) (by rw [hk, e]; rfl) (by decide) (law_roundsUntil F S hL hi hI nx)
      · exact tL_tin (off := 702) (tgt := 735) F dL_law_33 (by omega) (by omega) (by rw [hk, e]; rfl) (by decide) (law_turn F S hL hi hI nx)
      · exact tL_tin (off := 725) (tgt := 758) F dL_law_33 (by omega) (by omega) (by rw [hk, e]; rfl) (by decide) (law_count F S hL hi hI nx)
    · exact tL_tout (tgt := 781) F dL_law_33 (by omega) (by decide) (nx _ _ hI)
