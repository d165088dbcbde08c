/-! what the law asks of walkers and turns -/
theorem qW9 {A : AbS} {w : Nat} (hw : w < A.1 2) (h8 : A.1 2 ≤ 8) : qWalker A (nI w) 9 = -2 := by
  unfold qWalker
  rw [if_pos (okWN hw (by omega)), if_neg (show ¬ rgX 0 8 9 by decide)]
theorem wk_loop {A : AbS} (hG : GI A) (hP : Pk A.1) (ct : Int32 → Int32 → Option Int32) : hL_walkers_L6 2000 ct A 0 0 0 = ct (nI (sm (fun w => A.1 (wI w 3)) (A.1 2))) (nI (sm (fun w => A.1 (wI w 6)) (A.1 2))) := by
  have h8 := hG.1.2.1
  have lp : ∀ (n x fu : Nat), x + n = A.1 2 → n < fu → hL_walkers_L6 fu ct A (nI (sm (fun w => A.1 (wI w 3)) x)) (nI (sm (fun w => A.1 (wI w 6)) x)) (nI x) = ct (nI (sm (fun w => A.1 (wI w 3)) (A.1 2))) (nI (sm (fun w => A.1 (wI w 6)) (A.1 2))) := by
    intro n
    induction n with
    | zero =>
      intro x fu hx hf
      obtain ⟨fu, rfl⟩ : ∃ m, fu = m + 1 := ⟨fu - 1, by omega⟩
      have e : x = A.1 2 := by omega
      show (if (qCount A 2) ≤ nI x then ct _ _ else _) = _
      rw [qc2, if_pos (yle (by omega) (by omega) (by omega)), e]
    | succ n ih =>
      intro x fu hx hf
      obtain ⟨fu, rfl⟩ : ∃ m, fu = m + 1 := ⟨fu - 1, by omega⟩
      have hw : x < A.1 2 := by omega
      obtain ⟨w0, w1, w2, w3, w4, w5⟩ := hG.1.2.2.2.2.2.1 x hw
      have hp := hP x hw
      have hb := hG.1.1
      show (if (qCount A 2) ≤ nI x then ct _ _ else (if (qWalker A (nI x) (nI 3)) < 0 then some 0 else (if (qWalker A (nI x) (nI 4)) < (qWalker A (nI x) (nI 3)) then some 0 else (if ¬ (qWalker A (nI x) (nI 3)) = ((qWalker A (nI x) (nI 7)) - (qWalker A (nI x) (nI 8))) then some 0 else (if (qChips A (qWalker A (nI x) (nI 0)) (qWalker A (nI x) (nI 1))) < 0 then some 0 else (if (qWalker A (nI x) (nI 2)) < 0 then some 0 else (if 3 < (qWalker A (nI x) (nI 2)) then some 0 else (if (qWalker A (nI x) 9) = (-2) then hL_walkers_L6 fu ct A (nI (sm (fun w => A.1 (wI w 3)) x) + (qWalker A (nI x) (nI 3))) (nI (sm (fun w => A.1 (wI w 6)) x) + (qWalker A (nI x) (nI 6))) (nI x + 1) else some 0)))))))) = _
      have b1 := hb.1.2
      have b2 := hb.2.1.2
      have h99 := hb.2.2.1 (16 * A.1 (wI x 0) + A.1 (wI x 1)) (by omega)
      rw [qc2, if_neg (nle (by omega) (by omega) hw), qW hw h8 (by omega), qW hw h8 (by omega), qW hw h8 (by omega), qW hw h8 (by omega), qW hw h8 (by omega), qW hw h8 (by omega), qW hw h8 (by omega), qW hw h8 (by omega), qC w0 w1 hG, qW9 hw h8,
        if_neg (nI_pos (by omega)), if_neg (fun z => by have := (ltN (by omega) (by omega)).mp z; omega), if_neg (fun z => z (by rw [pk_sub (by omega), show A.1 (wI x 7) - A.1 (wI x 8) = A.1 (wI x 3) by omega])), if_neg (nI_pos (by omega)), if_neg (nI_pos (by omega)), if_neg (show ¬ (3 : Int32) < nI (A.1 (wI x 2)) from fun z => by have := (ltN (a := 3) (by omega) (by omega)).mp z; omega), if_pos rfl, nI_add, nI_add, nI_1]
      exact ih (x + 1) fu (by omega) (by omega)
  exact lp (A.1 2) 0 2000 (by omega) (by omega)
theorem tu_loop {A : AbS} (hG : GI A) (ct : Int32 → Option Int32) (x1 x2 : Int32) : hL_walkers_L137 2000 ct x1 x2 A 1 0 = ct 1 := by
  have g3 := hG.1.2.2.1
  have lp : ∀ (n x fu : Nat), x + n = A.1 3 → n < fu → hL_walkers_L137 fu ct x1 x2 A 1 (nI x) = ct 1 := by
    intro n
    induction n with
    | zero =>
      intro x fu hx hf
      obtain ⟨fu, rfl⟩ : ∃ m, fu = m + 1 := ⟨fu - 1, by omega⟩
      show (if (qCount A 10) ≤ nI x then ct 1 else _) = _
      rw [qc10, if_pos (yle (by omega) (by omega) (by omega))]
    | succ n ih =>
      intro x fu hx hf
      obtain ⟨fu, rfl⟩ : ∃ m, fu = m + 1 := ⟨fu - 1, by omega⟩
      have ht := hG.1.2.2.2.2.2.2.1 x (by omega)
      show (if (qCount A 10) ≤ nI x then ct 1 else (if (1 : Int32) = 0 then _ else (if (qTurn A (nI x)) < 0 then _ else (if 10 ≤ (qTurn A (nI x)) then _ else hL_walkers_L137 fu ct x1 x2 A 1 (nI x + 1))))) = _
      rw [qc10, if_neg (nle (by omega) (by omega) (by omega)), if_neg (by decide), qT (by omega) g3.2, if_neg (nI_pos (by omega)), if_neg (show ¬ (10 : Int32) ≤ nI (A.1 (337 + x)) from nle (a := 10) (by omega) (by omega) (by omega)), nI_1]
      exact ih (x + 1) fu (by omega) (by omega)
  exact lp (A.1 3) 0 2000 (by omega) (by omega)
theorem walkers_sp {A : AbS} (hG : GI A) (hP : Pk A.1) : hL_walkers A = some 1 := by
  have h8 := hG.1.2.1
  have g3 := hG.1.2.2.1
  have g4 := hG.1.2.2.2.1
  have t5 : qTurn A (nI (A.1 3)) = -5 := by
    unfold qTurn
    rw [if_neg (nI_pos (by omega)), nI_toInt (by omega), if_neg (by omega)]
  have t1 : qTurn A (-1) = -2 := if_pos (by decide)
  have w1 : qWalker A (nI (A.1 2)) 0 = -1 := by
    unfold qWalker
    rw [if_neg (fun z => by have := z.2; rw [nI_toInt (by omega)] at this; omega)]
  unfold hL_walkers
  rw [wk_loop hG hP, tu_loop hG, qc4, qc8, qc9, qc10, t5, t1, qc2, w1, qc13, if_neg (by decide), if_neg (fun z => z rfl), if_neg (fun z => z rfl), if_neg (nI_pos (by omega)), if_neg (nle (by omega) (by omega) g4), if_neg (fun z => z rfl), if_neg (fun z => z rfl), if_neg (fun z => z rfl), if_neg (fun z => z rfl)]
/-! rounds until heaps are few -/
theorem GI.un {A : AbS} (h : GI A) (hp : A.2.1.1 ≠ 0) : GI (aUndo A).2 := by
  obtain ⟨g1, ⟨g2, g3⟩, g4, g5⟩ := h
  unfold aUndo
  rw [if_neg hp]
  exact ⟨g3 _ (by omega), ⟨by show A.2.1.1 - 1 ≤ 5; omega, fun i hi => g3 i (by have : i < A.2.1.1 - 1 := hi; omega)⟩, g4, g5⟩
theorem PA.un {A : AbS} (h : PA A) (hp : A.2.1.1 ≠ 0) : PA (aUndo A).2 := by
  unfold aUndo
  rw [if_neg hp]
  exact ⟨h.2 _ (by omega), fun i hi => h.2 i (by have : i < A.2.1.1 - 1 := hi; omega)⟩
theorem ne_n0 {A : AbS} {σ : Nat → Nat} : (neA A σ).2.1.1 ≠ 0 := by
  show neH A.2.1.1 ≠ 0
  unfold neH
  split <;> omega
theorem un_ne {A : AbS} {σ : Nat → Nat} (hG : GI A) : ∃ h, h < 5 ∧ (aUndo (neA A σ)).1 = nI h ∧ (aUndo (neA A σ)).2.1 = A.1 ∧ (aUndo (neA A σ)).2.2.2 = A.2.2 := by
  have h5 := hG.2.1.1
  unfold aUndo
  rw [if_neg ne_n0]
  refine ⟨neH A.2.1.1 - 1, by unfold neH; split <;> omega, rfl, ?_, rfl⟩
  show neE A.1 A.2.1.1 A.2.1.2 (neH A.2.1.1 - 1) = A.1
  unfold neE neH
  by_cases q : A.2.1.1 < 5
  · rw [if_pos q, if_pos q, if_pos (by omega)]
  · rw [if_neg q, if_neg q, if_pos (by omega)]
theorem un_sp {ρ : Nat → Nat} {t : Nat} : ∀ (n k : Nat), unR ρ t n k = -5 ∨ ∃ j, k ≤ j ∧ j < k + n ∧ unR ρ t n k = nI j ∧ mF (gR (rds ρ j)) ≤ t ∧ ∀ i, k ≤ i → i < j → t < mF (gR (rds ρ i))
  | 0, _ => Or.inl rfl
  | n + 1, k => by
    unfold unR
    by_cases q : mF (gR (rds ρ k)) ≤ t
    · rw [if_pos q]
      exact Or.inr ⟨k, by omega, by omega, rfl, q, fun i h1 h2 => by omega⟩
    · rw [if_neg q]
      rcases un_sp (ρ := ρ) (t := t) n (k + 1) with h | ⟨j, j1, j2, j3, j4, j5⟩
      · exact Or.inl h
      · refine Or.inr ⟨j, by omega, by omega, j3, j4, fun i h1 h2 => ?_⟩
        by_cases e : i = k
        · rw [e]; omega
        · exact j5 i (by omega) h2
theorem rounds1 {A : AbS} {m : Nat} (h1 : 1 ≤ m) (h50 : m ≤ 50) (hw : A.1 2 ≠ 0) : aRounds A (nI m) = (nI (mF (gR (rds A.1 m))), neA A (rds A.1 m)) := by
  unfold aRounds
  rw [if_pos ((rgX_N (by omega) (by omega) (by omega)).mpr ⟨h1, h50⟩), if_neg hw, tnN (by omega)]
/-- what the law keeps of the account between its events -/
def Kp (A A' : AbS) : Prop := GI A' ∧ PA A' ∧ ∀ j, j < 6 → j ≠ 4 → A'.1 j = A.1 j
theorem Kp.rf {A : AbS} (h : GI A) (hP : PA A) : Kp A A := ⟨h, hP, fun _ _ _ => rfl⟩
theorem Kp.tr {A B C : AbS} (h1 : Kp A B) (h2 : Kp B C) : Kp A C := ⟨h2.1, h2.2.1, fun j hj h4 => by rw [h2.2.2 j hj h4, h1.2.2 j hj h4]⟩
theorem Kp.ne {A : AbS} {σ : Nat → Nat} (h : GI A) (hP : PA A) (hs : Good σ) (hp : Pk σ) (hf : ∀ j, j < 6 → j ≠ 4 → σ j = A.1 j) : Kp A (neA A σ) := ⟨h.ne hs, hP.ne hp, hf⟩
theorem Kp.un {A : AbS} {σ : Nat → Nat} (h : GI A) (hP : PA A) (hs : Good σ) (hp : Pk σ) : Kp A (aUndo (neA A σ)).2 := by
  obtain ⟨k, -, -, e, -⟩ := un_ne (A := A) (σ := σ) h
  exact ⟨(h.ne hs).un ne_n0, (hP.ne hp).un ne_n0, fun j _ _ => by rw [e]⟩
theorem until_sp {A : AbS} (hG : GI A) (hP : PA A) {t : Nat} (ht : t < 8) : ∃ A', hL_until A (nI t) = some (1, A') ∧ Kp A A' := by
  have h8 := hG.1.2.1
  have hmF := mF_le (gR A.1)
  have z0 : (0 : Int32) ≤ -5 ↔ False := by decide
  unfold hL_until
  rw [qc5, qc2]
  have hu : qUntil A (nI t) = if mF (gR A.1) ≤ t then 0 else if A.1 2 = 0 then -5 else unR A.1 t 200 1 := by
    unfold qUntil
    rw [if_pos ((rgX_N (by omega) (by omega) (by omega)).mpr ⟨by omega, by omega⟩), tnN (by omega)]
  rw [hu]
  by_cases q1 : mF (gR A.1) ≤ t
  · rw [if_pos q1, if_neg (fun z => by have := (ltN (by omega) (by omega)).mp z; omega), if_neg (fun z => z rfl)]
    exact ⟨A, rfl, Kp.rf hG hP⟩
  · rw [if_neg q1, if_pos ((ltN (by omega) (by omega)).mpr (by omega))]
    by_cases q2 : A.1 2 = 0
    · rw [if_pos q2, if_neg (show ¬ (0 : Int32) ≤ -5 by decide), if_neg (fun z => z rfl)]
      exact ⟨A, rfl, Kp.rf hG hP⟩
    · rw [if_neg q2]
      rcases un_sp (ρ := A.1) (t := t) 200 1 with e | ⟨j, j1, j2, e, j4, j5⟩
      · rw [e, if_neg (show ¬ (0 : Int32) ≤ -5 by decide), if_neg (fun z => z rfl)]
        exact ⟨A, rfl, Kp.rf hG hP⟩
      · rw [e, if_pos (nI_pos' (by omega))]
        by_cases q3 : j ≤ 50
        · have g := rds_g hG.1 j
          have hm2 := mF_le (gR (rds A.1 j))
          have hp := hP.1.rds hG.1 j
          rw [if_pos (show nI j ≤ (50 : Int32) from yle (b := 50) (by omega) (by omega) q3), rounds1 j1 q3 q2, bd1]
          simp only []
          rw [qc5]
          obtain ⟨h, hh, u1, u2, u3⟩ := un_ne (A := A) (σ := rds A.1 j) hG
          have k1 := Kp.un (A := A) (σ := rds A.1 j) hG hP g.1 hp
          rw [if_neg (fun z => z rfl), if_neg (fun z => by have := (ltN (by omega) (by omega)).mp z; omega), bd1, u1, if_neg (nI_pos (by omega)), qc5, u2, if_pos rfl]
          generalize hA2 : (aUndo (neA A (rds A.1 j))).2 = A2 at *
          by_cases q4 : j < 2
          · rw [if_pos (show nI j < (2 : Int32) from (ltN (b := 2) (by omega) (by omega)).mpr q4)]
            exact ⟨A2, rfl, k1⟩
          · have g' := rds_g hG.1 (j - 1)
            have hp' := hP.1.rds hG.1 (j - 1)
            have hm3 := mF_le (gR (rds A.1 (j - 1)))
            have hr := rounds1 (A := A2) (m := j - 1) (by omega) (by omega) (by rw [u2]; exact q2)
            rw [u2] at hr
            have hl := j5 (j - 1) (by omega) (by omega)
            obtain ⟨h', hh', v1, v2, v3⟩ := un_ne (A := A2) (σ := rds A.1 (j - 1)) k1.1
            rw [if_neg (show ¬ nI j < (2 : Int32) from fun z => q4 ((ltN (b := 2) (by omega) (by omega)).mp z)), show nI j - 1 = nI (j - 1) from pk_sub (b := 1) (by omega), hr, bd1]
            simp only []
            rw [if_neg (nle (by omega) (by omega) hl), bd1, v1, if_neg (nI_pos (by omega))]
            exact ⟨_, rfl, k1.tr (Kp.un k1.1 k1.2.1 g'.1 hp')⟩
        · rw [if_neg (show ¬ nI j ≤ (50 : Int32) from nle (b := 50) (by omega) (by omega) (by omega)), if_neg (show ¬ (200 : Int32) < nI j from fun z => by have := (ltN (a := 200) (by omega) (by omega)).mp z; omega), if_neg (show ¬ nI (A.1 2) ≤ (0 : Int32) from nle (b := 0) (by omega) (by omega) (by omega))]
          exact ⟨A, rfl, Kp.rf hG hP⟩
/-! what is refused -/
theorem errors_sp {A : AbS} (hG : GI A) : hL_errors A = some (1, A) := by
  have h8 := hG.1.2.1
  have b1 := hG.1.1.1
  have b2 := hG.1.1.2.1
  have nr : ¬ okC (A.1 0) (A.1 1) (nI (A.1 0)) 0 := fun z => by have := z.1.2; rw [nI_toInt (by omega)] at this; omega
  have nc : ¬ okC (A.1 0) (A.1 1) 0 (-1) := fun z => absurd z.2.1 (by decide)
  have nc' : ¬ okC (A.1 0) (A.1 1) (-1) 0 := fun z => absurd z.1.1 (by decide)
  have o0 : okC (A.1 0) (A.1 1) 0 0 := (okC_nn (a := 0) (b := 0) (by omega) (by omega)).mpr ⟨by omega, by omega⟩
  have nw : ¬ okW (A.1 2) (nI (A.1 2)) := fun z => by have := z.2; rw [nI_toInt (by omega)] at this; omega
  have e1 : aReset A 1 5 = (-2, A) := if_neg (fun z => absurd z.1 (by decide))
  have e2 : aReset A 5 17 = (-2, A) := if_neg (fun z => absurd z.2 (by decide))
  have e3 : aPut A (nI (A.1 0)) 0 0 = (-1, A) := if_neg nr
  have e4 : aPut A 0 (-1) 0 = (-1, A) := if_neg nc
  have e5 : aPut A 0 0 100 = (-2, A) := (if_pos o0).trans (if_neg (by decide))
  have e6 : aStrew A 10 0 1 = (-2, A) := if_neg (fun z => absurd z.1 (by decide))
  have e7 : aStrew A 0 0 21 = (-2, A) := if_neg (fun z => absurd z.2.2 (by decide))
  have e8 : aStrew A 0 0 0 = (-2, A) := if_neg (fun z => absurd z.2.2 (by decide))
  have e9 : aAddWalker A (nI (A.1 0)) 0 0 0 1 = (-1, A) := if_neg nr
  have e10 : aAddWalker A 0 0 4 0 1 = (-2, A) := (if_pos o0).trans (if_neg (fun z => absurd z.1 (by decide)))
  have e11 : aAddWalker A 0 0 0 3 1 = (-2, A) := (if_pos o0).trans (if_neg (fun z => absurd z.2.1 (by decide)))
  have e12 : aAddWalker A 0 0 0 0 10 = (-2, A) := (if_pos o0).trans (if_neg (fun z => absurd z.2.2 (by decide)))
  have e13 : aSetSort A (nI (A.1 2)) 0 = (-1, A) := if_neg nw
  have e14 : aEmpty A (nI (A.1 2)) = (-1, A) := if_neg nw
  have e15 : aAddTurn A 10 = (-2, A) := if_neg (by decide)
  have e16 : aWalk A (nI (A.1 2)) 1 = (-1, A) := if_neg nw
  have e17 : aRounds A 0 = (-2, A) := if_neg (by decide)
  have e18 : aRounds A 51 = (-2, A) := if_neg (by decide)
  have e19 : qChips A (nI (A.1 0)) 0 = -1 := if_neg nr
  have e20 : qHeapOf A (-1) 0 = -1 := if_neg nc'
  have e21 : qUntil A 257 = -2 := if_neg (by decide)
  have n2 : ¬ ¬ (-2 : Int32) = -2 := fun z => z rfl
  have n1 : ¬ ¬ (-1 : Int32) = -1 := fun z => z rfl
  have n0 : ¬ (1 : Int32) = 0 := by decide
  unfold hL_errors hL_errors_J179
  simp only [qc0, qc2, e1, e2, e3, e4, e5, e6, e7, e8, e9, e10, e11, e12, e13, e14, e15, e16, e17, e18, e19, e20, e21, bd1, if_neg n2, if_neg n1, if_neg n0, not_true_eq_false, if_false]
