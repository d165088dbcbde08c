/-! plans of one order, as the law has them -/
theorem low_all (v : Int32) {n : Nat} (h0 : 0 < n) (hn : n < 2 ^ 31) : ∃ m, m < n ∧ ∀ B : AbS, hL_low B v (nI n) = some (nI m) := by
  obtain ⟨m, h1, h2⟩ := low_sp A0 v h0 hn
  exact ⟨m, h1, fun B => h2⟩
def Tx (t : Nat → Int32) (w : Nat) (L : Int32) (f : Nat) : Prop := t 0 = 35 ∧ t 1 = nI (48 + w) ∧ t 2 = L ∧ t 3 = nI (48 + f)
abbrev pl1 (t : Nat → Int32) (n : Nat) (x : Int32) : Nat → Int32 := fun j => if j = n then x else t j
theorem tx_eta {A : AbS} {n : Nat} {t : Nat → Int32} (h : A.2.2.2 = (n, t)) : A = txA A n t := by
  obtain ⟨a, b, c, d⟩ := A
  have h : d = (n, t) := h
  rw [h]
  rfl
theorem tx_tx {A : AbS} {n m : Nat} {t u : Nat → Int32} : txA (txA A n t) m u = txA A m u := rfl
theorem b35 : bC 35 = true := (chN 35 (by omega)).2
section PLANS
variable {C : AbS} {w : Nat} {L : Int32} {f : Nat} {t : Nat → Int32}
/-- a walker's letter -/
def WL (L : Int32) : Prop := L = 110 ∨ L = 101 ∨ L = 115 ∨ L = 119 ∨ L = 103 ∨ L = 100
theorem WL.l {W : Nat} (h : WL L) (hw : 0 < W) : LTR W L := Or.inr (Or.inr ⟨hw, h⟩)
theorem WL.n (h : WL L) : L ≠ 35 ∧ L ≠ 114 ∧ bC L = true := by
  rcases h with e | e | e | e | e | e <;> subst e <;> exact ⟨by decide, by decide, by decide +kernel⟩
theorem Tx.b (h : Tx t w L f) (hL : WL L) (hw : w < 8) (hf : f ≤ 9) : ∀ j, j < 4 → bC (t j) = true := fun j hj => by
  obtain ⟨h0, h1, h2, h3⟩ := h
  have hj' : j = 0 ∨ j = 1 ∨ j = 2 ∨ j = 3 := by omega
  rcases hj' with e | e | e | e <;> subst e
  · rw [h0]; exact b35
  · rw [h1]; exact (chN _ (by omega)).2
  · rw [h2]; exact hL.n.2.2
  · rw [h3]; exact (chN _ (by omega)).2
theorem Tx.u {x : Int32} {n : Nat} (h : Tx t w L f) (hn : 4 ≤ n) : Tx (pl1 t n x) w L f := by
  obtain ⟨h0, h1, h2, h3⟩ := h
  refine ⟨?_, ?_, ?_, ?_⟩
  · show (if 0 = n then x else t 0) = _; rw [if_neg (by omega)]; exact h0
  · show (if 1 = n then x else t 1) = _; rw [if_neg (by omega)]; exact h1
  · show (if 2 = n then x else t 2) = _; rw [if_neg (by omega)]; exact h2
  · show (if 3 = n then x else t 3) = _; rw [if_neg (by omega)]; exact h3
theorem pl1_b {n : Nat} {x : Int32} (h : ∀ j, j < n → bC (t j) = true) (hx : bC x = true) : ∀ j, j < n + 1 → bC (pl1 t n x j) = true := fun j hj => by
  show bC (if j = n then x else t j) = true
  by_cases e : j = n
  · rw [if_pos e]; exact hx
  · rw [if_neg e]; exact h j (by omega)
/-- the run of four characters -/
theorem run4 (hw : w < C.1 2) (h8 : C.1 2 ≤ 8) (hL : WL L) (h : Tx t w L f) (h1 : 1 ≤ f) (h9 : f ≤ 9) : aRun (txA C 4 t) = (nI (sm (fun u => obR C.1 w L f (wI u 6)) (C.1 2)) - nI (sm (fun u => C.1 (wI u 6)) (C.1 2)), neA (txA C 4 t) (obR C.1 w L f)) := by
  obtain ⟨t0, t1, t2, t3⟩ := h
  obtain ⟨s, s1, s2⟩ := rd_head (W := C.1 2) (tx := t) (show w ≤ 9 by omega) hw t0 t1 t2 (hL.l (by omega)) hL.n.1
  obtain ⟨s', r1, r2⟩ := rd_d (W := C.1 2) (d := f) s1 hL.n.1 h9 (by omega) (by omega)
  rw [← t3] at r1
  have e : rdN (C.1 2) t (3 + 1) 0 rd0 = .inr s' := (s2 1).trans (by rw [rd_st r1]; rfl)
  have := run_ok (A := txA C 4 t) (rdT_ok e r2) r2 hL.n.1 hL.n.2.1 hw
  rw [show 0 * 10 + f = f by omega, show max f 1 = f by omega] at this
  exact this
/-- of five, a 0 behind them -/
theorem run5 (hw : w < C.1 2) (h8 : C.1 2 ≤ 8) (hL : WL L) (h : Tx t w L f) (h4 : t 4 = 48) (h1 : 1 ≤ f) (h9 : f ≤ 5) : aRun (txA C 5 t) = (nI (sm (fun u => obR C.1 w L (f * 10) (wI u 6)) (C.1 2)) - nI (sm (fun u => C.1 (wI u 6)) (C.1 2)), neA (txA C 5 t) (obR C.1 w L (f * 10))) := by
  obtain ⟨t0, t1, t2, t3⟩ := h
  obtain ⟨s, s1, s2⟩ := rd_head (W := C.1 2) (tx := t) (show w ≤ 9 by omega) hw t0 t1 t2 (hL.l (by omega)) hL.n.1
  obtain ⟨s', r1, r2⟩ := rd_d (W := C.1 2) (d := f) s1 hL.n.1 (by omega) (by omega) (by omega)
  obtain ⟨s'', q1, q2⟩ := rd_d (W := C.1 2) (d := 0) r2 hL.n.1 (by omega) (by omega) (by omega)
  rw [← t3] at r1
  rw [show nI (48 + 0) = t 4 from h4.symm] at q1
  have e : rdN (C.1 2) t (4 + 1) 0 rd0 = .inr s'' := (s2 2).trans (by rw [rd_st r1, rd_st q1]; rfl)
  have := run_ok (A := txA C 5 t) (rdT_ok e q2) q2 hL.n.1 hL.n.2.1 hw
  rw [show (0 * 10 + f) * 10 + 0 = f * 10 by omega, show max (f * 10) 1 = f * 10 by omega] at this
  exact this
/-- of six: a fault at the last -/
theorem run6 (hw : w < C.1 2) (h8 : C.1 2 ≤ 8) (hL : WL L) (h : Tx t w L f) (h4 : t 4 = 48) (h5 : t 5 = 48) (h1 : 1 ≤ f) (h9 : f ≤ 5) : aRun (txA C 6 t) = (-100 - nI 5, txA C 6 t) := by
  obtain ⟨t0, t1, t2, t3⟩ := h
  obtain ⟨s, s1, s2⟩ := rd_head (W := C.1 2) (tx := t) (show w ≤ 9 by omega) hw t0 t1 t2 (hL.l (by omega)) hL.n.1
  obtain ⟨s', r1, r2⟩ := rd_d (W := C.1 2) (d := f) s1 hL.n.1 (by omega) (by omega) (by omega)
  obtain ⟨s'', q1, q2⟩ := rd_d (W := C.1 2) (d := 0) r2 hL.n.1 (by omega) (by omega) (by omega)
  have p1 := rd_dn (W := C.1 2) (d := 0) q2 (by omega) (by omega)
  rw [← t3] at r1
  rw [show nI (48 + 0) = t 4 from h4.symm] at q1
  rw [show nI (48 + 0) = t 5 from h5.symm] at p1
  exact run_no (A := txA C 6 t) (rdT_no ((s2 3).trans (by rw [rd_st r1, rd_st q1, rd_no p1])))
theorem j700 (hG : GI C) (hP : PA C) (hw : w < C.1 2) (hL : WL L) (h : Tx t w L f) (h4 : t 4 = 48) (h1 : 1 ≤ f) (h9 : f ≤ 5) : ∃ A', hL_plans_J700 (txA C 5 t) (nI 4) 1 = some (1, A') ∧ Kp C A' := by
  have h8 := hG.1.2.1
  have hb := h.b hL (by omega) (by omega)
  have hb5 : ∀ j, j < 5 → bC (t j) = true := fun j hj => by
    by_cases e : j = 4
    · rw [e, h4]; exact (chN 48 (by omega)).2
    · exact hb j (by omega)
  have r := run6 (t := pl1 t 5 48) hw h8 hL (h.u (by omega)) (by show (if 4 = 5 then (48 : Int32) else t 4) = 48; rw [if_neg (by omega)]; exact h4) (by show (if 5 = 5 then (48 : Int32) else t 5) = 48; rw [if_pos rfl]) h1 h9
  refine ⟨txA C 6 (pl1 t 5 48), ?_, Kp.tx hG hP (by omega) (pl1_b hb5 (chN 48 (by omega)).2)⟩
  unfold hL_plans_J700
  rw [ty_sp (by omega), bd1, if_neg (by decide), r, bd1, if_neg (show ¬ ¬ (-100 - nI 5 : Int32) = ((-100) - nI 4) - 1 from fun z => z (by decide))]
theorem ob_dir {ρ : Nat → Nat} {d n : Nat} (hd : d < 4) (hL : L = (if d = 0 then 110 else if d = 1 then 101 else if d = 2 then 115 else 119)) : obR ρ w L n = gosR w d n ρ ∧ WL L := by
  have hd' : d = 0 ∨ d = 1 ∨ d = 2 ∨ d = 3 := by omega
  rcases hd' with e | e | e | e <;> subst e <;> simp only [if_pos, if_neg, reduceIte, Nat.reduceEqDiff, Nat.one_ne_zero, Nat.succ_ne_zero] at hL <;> subst hL
  · exact ⟨rfl, Or.inl rfl⟩
  · exact ⟨rfl, Or.inr (Or.inl rfl)⟩
  · exact ⟨rfl, Or.inr (Or.inr (Or.inl rfl))⟩
  · exact ⟨rfl, Or.inr (Or.inr (Or.inr (Or.inl rfl)))⟩
theorem sum_sub {a k : Nat} : nI (a + k) - nI a = nI k := by
  rw [← nI_add, Int32.add_comm, Int32.add_sub_cancel]
theorem j662 {d : Nat} {y : Int32} (hG : GI C) (hP : PA C) (hw : w < C.1 2) (hd : d < 4) (hL : L = (if d = 0 then 110 else if d = 1 then 101 else if d = 2 then 115 else 119)) (h : Tx t w L f) (h1 : 1 ≤ f) (h4 : f ≤ 4) : ∃ A', hL_plans_J662 (txA C 4 t) (nI 4) (nI f) y y = some (1, A') ∧ Kp C A' := by
  have h8 := hG.1.2.1
  obtain ⟨eo, hWL⟩ := ob_dir (w := w) (ρ := C.1) (n := f * 10) hd hL
  have hb := h.b hWL (by omega) (by omega)
  have hb5 := pl1_b (n := 4) hb (chN 48 (by omega)).2
  have hT5 : Tx (pl1 t 4 48) w L f := h.u (by omega)
  have h48 : pl1 t 4 48 4 = 48 := if_pos rfl
  have k5 : Kp C (txA C 5 (pl1 t 4 48)) := Kp.tx hG hP (by omega) hb5
  have r5 := run5 (t := pl1 t 4 48) hw h8 hWL hT5 h48 h1 (by omega)
  obtain ⟨g1, g2, g3⟩ := gos_g (ρ := C.1) (w := w) (d := d) (by omega) hd (f * 10) C.1 hG.1 hP.1 hw
  rw [eo, gos_sum hd hG.1 hw, sum_sub] at r5
  have hlf : lfR C.1 w d ≤ 16 := by
    have b1 := hG.1.1.1
    have b2 := hG.1.1.2.1
    obtain ⟨w0, w1, -⟩ := hG.1.2.2.2.2.2.1 w hw
    unfold lfR
    split
    · omega
    · split
      · omega
      · split <;> omega
  have hmn := Nat.min_le_right (f * 10) (lfR C.1 w d)
  obtain ⟨k, hk, u1, u2, u3⟩ := un_ne (A := txA C 5 (pl1 t 4 48)) (σ := gosR w d (f * 10) C.1) k5.1
  have kU := Kp.un (A := txA C 5 (pl1 t 4 48)) (σ := gosR w d (f * 10) C.1) k5.1 k5.2.1 g1 g2
  generalize hU : (aUndo (neA (txA C 5 (pl1 t 4 48)) (gosR w d (f * 10) C.1))).2 = U at *
  have eU : U = txA U 5 (pl1 t 4 48) := tx_eta (by rw [u3]; rfl)
  obtain ⟨A', a1, a2⟩ := j700 (C := U) (t := pl1 t 4 48) kU.1 kU.2.1 (by rw [u2]; exact hw) hWL hT5 h48 h1 (by omega)
  rw [← eU] at a1
  refine ⟨A', ?_, (k5.tr kU).tr a2⟩
  unfold hL_plans_J662
  rw [if_pos rfl, ty_sp (by omega), bd1, if_neg (show ¬ (6 : Int32) ≤ nI f from nle (a := 6) (by omega) (by omega) (by omega)), r5, bd1, if_neg (nI_pos (by omega)), bd1, u1, if_neg (nI_pos (by omega)), hU]
  exact a1
theorem j531 {d : Nat} (hG : GI C) (hP : PA C) (hw : w < C.1 2) (hd : d < 4) (hL : L = (if d = 0 then 110 else if d = 1 then 101 else if d = 2 then 115 else 119)) (h : Tx t w L f) (h1 : 1 ≤ f) (h4 : f ≤ 4) : ∃ A', hL_plans_J531 (txA C 4 t) (nI w) (nI 4) (nI d) (nI f) (nI (C.1 (wI w 0))) (nI (C.1 (wI w 1))) (nI (min f (lfR C.1 w d))) = some (1, A') ∧ Kp C A' := by
  have h8 := hG.1.2.1
  obtain ⟨eo, hWL⟩ := ob_dir (w := w) (ρ := C.1) (n := f) hd hL
  have hb := h.b hWL (by omega) (by omega)
  have k4 : Kp C (txA C 4 t) := Kp.tx hG hP (by omega) hb
  have r4 := run4 hw h8 hWL h h1 (by omega)
  obtain ⟨g1, g2, g3⟩ := gos_g (ρ := C.1) (w := w) (d := d) (by omega) hd f C.1 hG.1 hP.1 hw
  obtain ⟨a1, a2, a3, a4, a5, a6⟩ := gos_sp (by omega) hd f C.1 hG.1 hw
  have hml := Nat.min_le_right f (lfR C.1 w d)
  have hlr : (d = 0 → lfR C.1 w d = C.1 (wI w 0)) ∧ (d = 3 → lfR C.1 w d = C.1 (wI w 1)) := by
    unfold lfR
    exact ⟨fun e => if_pos e, fun e => by rw [if_neg (by omega), if_neg (by omega), if_neg (by omega)]⟩
  rw [eo, gos_sum hd hG.1 hw, sum_sub] at r4
  generalize hM : min f (lfR C.1 w d) = M at *
  have hMs : M < 2 ^ 31 := by omega
  generalize hσ : gosR w d f C.1 = σ at *
  have kN : Kp (txA C 4 t) (neA (txA C 4 t) σ) := Kp.ne k4.1 k4.2.1 g1 g2 (fun j hj _ => g3 j hj)
  have eN : neA (txA C 4 t) σ = txA (neA (txA C 4 t) σ) 4 t := tx_eta rfl
  have hwN : w < (neA (txA C 4 t) σ).1 2 := by show w < σ 2; rw [g3 2 (by omega)]; exact hw
  have h8N : (neA (txA C 4 t) σ).1 2 ≤ 8 := by show σ 2 ≤ 8; rw [g3 2 (by omega)]; exact h8
  obtain ⟨A', z1, z2⟩ := j662 (C := neA (txA C 4 t) σ) (y := nI (σ (wI w 2))) kN.1 kN.2.1 hwN hd hL h h1 h4
  rw [← eN] at z1
  refine ⟨A', ?_, (k4.tr kN).tr z2⟩
  have q0 : qWalker (neA (txA C 4 t) σ) (nI w) 0 = nI (σ (wI w 0)) := qW (f := 0) hwN h8N (by omega)
  have q1 : qWalker (neA (txA C 4 t) σ) (nI w) 1 = nI (σ (wI w 1)) := qW (f := 1) hwN h8N (by omega)
  have q2 : qWalker (neA (txA C 4 t) σ) (nI w) 2 = nI (σ (wI w 2)) := qW (f := 2) hwN h8N (by omega)
  have q2' : qWalker (txA C 4 t) (nI w) 2 = nI (C.1 (wI w 2)) := qW (A := txA C 4 t) (f := 2) hw h8 (by omega)
  have q9 : qCount (neA (txA C 4 t) σ) 9 = nI (σ 4) := qc9
  have q9' : qCount (txA C 4 t) 9 = nI (C.1 4) := qc9
  have a0 : ∀ x : Int32, x + 0 = x := fun x => Int32.add_zero x
  have last : ∀ (s1 s2 : Int32), s1 + s2 = nI (σ (wI w 1)) → hL_plans_J628 (neA (txA C 4 t) σ) (nI w) (nI 4) (nI d) (nI f) (nI M) (nI (C.1 4)) (nI (C.1 (wI w 2))) (nI (σ (wI w 1))) s1 s2 = some (1, A') := by
    intro s1 s2 hs
    unfold hL_plans_J628
    rw [if_neg (fun z => z hs.symm), q9, a6 4 (by omega), if_neg (fun z => z rfl), q2]
    by_cases q : M = 0
    · rw [if_pos (show nI M ≤ (0 : Int32) by rw [q]; decide)]
      have e : C.1 (wI w 2) = σ (wI w 2) := by rw [a3, if_neg (by omega)]
      rw [e]
      exact z1
    · rw [if_neg (show ¬ nI M ≤ (0 : Int32) from nle (b := 0) (by omega) (by omega) (by omega))]
      have e : d = σ (wI w 2) := by rw [a3, if_pos (by omega)]
      rw [show nI d = nI (σ (wI w 2)) by rw [← e]]
      exact z1
  have mid : ∀ (s1 s2 : Int32), s1 + s2 = nI (σ (wI w 0)) → hL_plans_J591 (neA (txA C 4 t) σ) (nI w) (nI 4) (nI d) (nI f) (nI (C.1 (wI w 1))) (nI M) (nI (C.1 4)) (nI (C.1 (wI w 2))) (nI (σ (wI w 0))) s1 s2 = some (1, A') := by
    intro s1 s2 hs
    unfold hL_plans_J591
    rw [if_neg (fun z => z hs.symm), q1]
    by_cases e1 : d = 1
    · rw [if_neg (show ¬ ¬ nI d = (1 : Int32) from fun z => z (by rw [e1]; rfl))]
      refine last _ _ ?_
      rw [nI_add, a2, if_pos e1]
    · rw [if_pos (show ¬ nI d = (1 : Int32) from fun z => e1 ((eqN (b := 1) (by omega) (by omega)).mp z))]
      by_cases e3 : d = 3
      · rw [if_neg (show ¬ ¬ nI d = (3 : Int32) from fun z => z (by rw [e3]; rfl))]
        refine last _ _ ?_
        have := hlr.2 e3
        rw [nI_neg (by omega), a2, if_neg e1, if_pos e3]
      · rw [if_pos (show ¬ nI d = (3 : Int32) from fun z => e3 ((eqN (b := 3) (by omega) (by omega)).mp z))]
        refine last _ _ ?_
        rw [a0, a2, if_neg e1, if_neg e3]
  unfold hL_plans_J531
  rw [r4, bd1, if_neg (fun z => z rfl)]
  simp only []
  rw [q9', q2', q0]
  by_cases e1 : d = 2
  · rw [if_neg (show ¬ ¬ nI d = (2 : Int32) from fun z => z (by rw [e1]; rfl))]
    refine mid _ _ ?_
    rw [nI_add, a1, if_pos e1]
  · rw [if_pos (show ¬ nI d = (2 : Int32) from fun z => e1 ((eqN (b := 2) (by omega) (by omega)).mp z))]
    by_cases e3 : d = 0
    · rw [if_neg (show ¬ ¬ nI d = (0 : Int32) from fun z => z (by rw [e3]; rfl))]
      refine mid _ _ ?_
      have := hlr.1 e3
      rw [nI_neg (by omega), a1, if_neg e1, if_pos e3]
    · rw [if_pos (show ¬ nI d = (0 : Int32) from fun z => e3 ((eqN (b := 0) (by omega) (by omega)).mp z))]
      refine mid _ _ ?_
      rw [a0, a1, if_neg e1, if_neg e3]
theorem j515 {d left : Nat} (hG : GI C) (hP : PA C) (hw : w < C.1 2) (hd : d < 4) (hL : L = (if d = 0 then 110 else if d = 1 then 101 else if d = 2 then 115 else 119)) (h : Tx t w L f) (h1 : 1 ≤ f) (h4 : f ≤ 4) (hl : left = lfR C.1 w d) (h31 : left < 2 ^ 31) : ∃ A', hL_plans_J515 (txA C 4 t) (nI w) (nI 4) (nI d) (nI f) (nI (C.1 (wI w 0))) (nI (C.1 (wI w 1))) (nI left) = some (1, A') ∧ Kp C A' := by
  obtain ⟨A', a1, a2⟩ := j531 hG hP hw hd hL h h1 h4
  refine ⟨A', ?_, a2⟩
  unfold hL_plans_J515
  by_cases q : left ≤ f
  · rw [if_pos (yle h31 (by omega) q), show left = min f (lfR C.1 w d) by omega]
    exact a1
  · rw [if_neg (nle h31 (by omega) (by omega))]
    rw [show min f (lfR C.1 w d) = f by omega] at a1
    exact a1
/-- from "#w" on: a letter of steps -/
theorem j413 {d : Nat} (x2 : Int32) (hG : GI C) (hP : PA C) (hw : w < C.1 2) (hd : d < 4) (hL : L = (if d = 0 then 110 else if d = 1 then 101 else if d = 2 then 115 else 119)) (t0 : t 0 = 35) (t1 : t 1 = nI (48 + w)) : ∃ A', hL_plans_J413 (txA C 2 t) x2 (nI w) (nI d) L = some (1, A') ∧ Kp C A' := by
  have h8 := hG.1.2.1
  have b1 := hG.1.1.1
  have b2 := hG.1.1.2.1
  obtain ⟨w0, w1, -⟩ := hG.1.2.2.2.2.2.1 w hw
  obtain ⟨eo, hWL⟩ := ob_dir (w := w) (ρ := C.1) (n := 0) hd hL
  obtain ⟨m, hm, hlow⟩ := low_all (x2 >>> (7 &&& 31)) (n := 4) (by omega) (by omega)
  have hlow : ∀ B : AbS, hL_low B (x2 >>> (7 &&& 31)) 4 = some (nI m) := hlow
  have hT : Tx (pl1 (pl1 t 2 L) 3 (nI (48 + (1 + m)))) w L (1 + m) := ⟨t0, t1, rfl, rfl⟩
  have c49 : (49 : Int32) + nI m = nI (48 + (1 + m)) := by rw [show (49 : Int32) = nI 49 from rfl, nI_add]; exact congrArg nI (by omega)
  obtain ⟨c1, c2⟩ := chN (48 + (1 + m)) (by omega)
  have e1 : (1 : Int32) + nI m = nI (1 + m) := nI_add 1 m
  have q0 : qWalker (txA C 4 (pl1 (pl1 t 2 L) 3 (nI (48 + (1 + m))))) (nI w) 0 = nI (C.1 (wI w 0)) := qW (A := txA C 4 _) (f := 0) hw h8 (by omega)
  have q1 : qWalker (txA C 4 (pl1 (pl1 t 2 L) 3 (nI (48 + (1 + m))))) (nI w) 1 = nI (C.1 (wI w 1)) := qW (A := txA C 4 _) (f := 1) hw h8 (by omega)
  have p0 : qCount (txA C 4 (pl1 (pl1 t 2 L) 3 (nI (48 + (1 + m))))) 0 = nI (C.1 0) := qc0
  have p1 : qCount (txA C 4 (pl1 (pl1 t 2 L) 3 (nI (48 + (1 + m))))) 1 = nI (C.1 1) := qc1
  unfold hL_plans_J413
  rw [ck_t hWL.n.2.2, ty_sp (by omega), bd1]
  simp only []
  rw [hlow, bd1, c49, c1, ck_t c2, ty_sp (by omega), bd1]
  simp only []
  rw [hlow, bd1, e1, q0, q1, p0, p1, show nI (C.1 0) - 1 = nI (C.1 0 - 1) from pk_sub (b := 1) (by omega), show nI (C.1 1) - 1 = nI (C.1 1 - 1) from pk_sub (b := 1) (by omega), pk_sub (show C.1 (wI w 0) ≤ C.1 0 - 1 by omega), pk_sub (show C.1 (wI w 1) ≤ C.1 1 - 1 by omega)]
  have go := fun (left : Nat) (hl : left = lfR C.1 w d) (h31 : left < 2 ^ 31) => j515 (left := left) hG hP hw hd hL hT (by omega) (by omega) hl h31
  have hd' : d = 0 ∨ d = 1 ∨ d = 2 ∨ d = 3 := by omega
  rcases hd' with e | e | e | e <;> subst e
  · rw [if_neg (by decide)]
    exact go _ rfl (by omega)
  · rw [if_pos (by decide), if_neg (by decide)]
    exact go _ rfl (by omega)
  · rw [if_pos (by decide), if_pos (by decide), if_neg (by decide)]
    exact go _ rfl (by omega)
  · rw [if_pos (by decide), if_pos (by decide), if_pos (by decide)]
    exact go _ rfl (by omega)
/-- from the pocket's order on -/
theorem j250 {n : Nat} {s0 : Int32} (x2 : Int32) (hG : GI C) (hP : PA C) (hw : w < C.1 2) (hL : WL L) (h : Tx t w L n) (h1 : 1 ≤ n) (h9 : n ≤ 9) (hσ : Good (obR C.1 w L n) ∧ Pk (obR C.1 w L n)) (hlo : ∀ j, j < 9 → obR C.1 w L n j = C.1 j) (hwf : obR C.1 w L n (wI w 0) = C.1 (wI w 0) ∧ obR C.1 w L n (wI w 1) = C.1 (wI w 1)) (hsum : sm (fun u => obR C.1 w L n (wI u 6)) (C.1 2) = sm (fun u => C.1 (wI u 6)) (C.1 2)) (hp : nI (obR C.1 w L n (wI w 3)) = nI (C.1 (wI w 3)) + s0) (hc : nI (gR (obR C.1 w L n) (cw C.1 w)) = nI (gR C.1 (cw C.1 w)) - s0) :
    ∃ A', hL_plans_J250 (txA C 4 t) x2 (nI w) 1 (nI 3) (nI (C.1 (wI w 3))) (nI (gR C.1 (cw C.1 w))) s0 = some (1, A') ∧ Kp C A' := by
  have h8 := hG.1.2.1
  have b1 := hG.1.1.1
  have b2 := hG.1.1.2.1
  obtain ⟨w0, w1, -⟩ := hG.1.2.2.2.2.2.1 w hw
  have hb := h.b hL (by omega) (by omega)
  have k4 : Kp C (txA C 4 t) := Kp.tx hG hP (by omega) hb
  have r4 := run4 hw h8 hL h h1 h9
  generalize hs : obR C.1 w L n = σ at *
  rw [hsum, Int32.sub_self] at r4
  have kN : Kp (txA C 4 t) (neA (txA C 4 t) σ) := Kp.ne k4.1 k4.2.1 hσ.1 hσ.2 (fun j hj _ => hlo j (by omega))
  have hwN : w < (neA (txA C 4 t) σ).1 2 := by show w < σ 2; rw [hlo 2 (by omega)]; exact hw
  have h8N : (neA (txA C 4 t) σ).1 2 ≤ 8 := by show σ 2 ≤ 8; rw [hlo 2 (by omega)]; exact h8
  have q0 : qWalker (neA (txA C 4 t) σ) (nI w) 0 = nI (C.1 (wI w 0)) := (qW (f := 0) hwN h8N (by omega)).trans (congrArg nI hwf.1)
  have q1 : qWalker (neA (txA C 4 t) σ) (nI w) 1 = nI (C.1 (wI w 1)) := (qW (f := 1) hwN h8N (by omega)).trans (congrArg nI hwf.2)
  have q3 : qWalker (neA (txA C 4 t) σ) (nI w) 3 = nI (σ (wI w 3)) := qW (f := 3) hwN h8N (by omega)
  have qcx : qChips (neA (txA C 4 t) σ) (nI (C.1 (wI w 0))) (nI (C.1 (wI w 1))) = nI (gR σ (cw C.1 w)) := qC (A := neA (txA C 4 t) σ) (by show _ < σ 0; rw [hlo 0 (by omega)]; exact w0) (by show _ < σ 1; rw [hlo 1 (by omega)]; exact w1) kN.1
  have p6 : qCount (neA (txA C 4 t) σ) 6 = nI (C.1 6) := qc6.trans (congrArg nI (hlo 6 (by omega)))
  have p7 : qCount (neA (txA C 4 t) σ) 7 = nI (C.1 7) := qc7.trans (congrArg nI (hlo 7 (by omega)))
  have p6' : qCount (txA C 4 t) 6 = nI (C.1 6) := qc6
  have p7' : qCount (txA C 4 t) 7 = nI (C.1 7) := qc7
  generalize hN : neA (txA C 4 t) σ = N at *
  obtain ⟨m, hm, hlow⟩ := low_all (x2 >>> (5 &&& 31)) (n := 4) (by omega) (by omega)
  have hlow : ∀ B : AbS, hL_low B (x2 >>> (5 &&& 31)) 4 = some (nI m) := hlow
  obtain ⟨c1, c2⟩ := chN (48 + w) (by omega)
  have c48 : (48 : Int32) + nI w = nI (48 + w) := nI_add 48 w
  have go := fun (y : Int32) (hy : y = (if m = 0 then 110 else if m = 1 then 101 else if m = 2 then 115 else 119)) => j413 (C := N) (L := y) (t := pl1 (pl1 N.2.2.2.2 0 35) 1 (nI (48 + w))) x2 kN.1 kN.2.1 hwN hm hy rfl rfl
  have k : Kp C N := k4.tr kN
  unfold hL_plans_J250
  rw [if_neg (by decide), if_neg (show ¬ ¬ nI 3 = (3 : Int32) from fun z => z rfl), r4, bd1, if_neg (fun z => z rfl)]
  simp only []
  rw [q3, if_neg (fun z => z hp), q0, q1, qcx, if_neg (fun z => z hc), p6, p7, p6', p7', if_pos rfl, cl_sp, bd1]
  simp only []
  rw [ty_sp (by omega), bd1, c48, c1, ck_t c2]
  simp only []
  rw [ty_sp (by omega), bd1]
  simp only []
  rw [hlow, bd1]
  have hm' : m = 0 ∨ m = 1 ∨ m = 2 ∨ m = 3 := by omega
  rcases hm' with e | e | e | e <;> subst e
  · rw [if_neg (by decide)]
    obtain ⟨A', z1, z2⟩ := go 110 rfl
    exact ⟨A', z1, k.tr z2⟩
  · rw [if_pos (by decide), if_neg (by decide)]
    obtain ⟨A', z1, z2⟩ := go 101 rfl
    exact ⟨A', z1, k.tr z2⟩
  · rw [if_pos (by decide), if_pos (by decide), if_neg (by decide)]
    obtain ⟨A', z1, z2⟩ := go 115 rfl
    exact ⟨A', z1, k.tr z2⟩
  · rw [if_pos (by decide), if_pos (by decide), if_pos (by decide)]
    obtain ⟨A', z1, z2⟩ := go 119 rfl
    exact ⟨A', z1, k.tr z2⟩
end PLANS
