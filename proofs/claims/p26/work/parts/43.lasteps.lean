/-! what the asked answers are, on numbers; one step as the law has it -/
section QS
variable {A : AbS}
theorem qc0 : qCount A 0 = nI (A.1 0) := if_pos rfl
theorem qc1 : qCount A 1 = nI (A.1 1) := (if_neg (by decide)).trans (if_pos rfl)
theorem qc2 : qCount A 2 = nI (A.1 2) := by unfold qCount; simp only [show ¬ (2 : Int32) = 0 by decide, show ¬ (2 : Int32) = 1 by decide, if_false, if_true]
theorem qc3 : qCount A 3 = nI (sm (gR A.1) 256) := by unfold qCount; simp only [show ¬ (3 : Int32) = 0 by decide, show ¬ (3 : Int32) = 1 by decide, show ¬ (3 : Int32) = 2 by decide, if_false, if_true]
theorem qc4 : qCount A 4 = nI (sm (fun w => A.1 (wI w 3)) (A.1 2)) := by unfold qCount; simp only [show ¬ (4 : Int32) = 0 by decide, show ¬ (4 : Int32) = 1 by decide, show ¬ (4 : Int32) = 2 by decide, show ¬ (4 : Int32) = 3 by decide, if_false, if_true]
theorem qc5 : qCount A 5 = nI (mF (gR A.1)) := by unfold qCount; simp only [show ¬ (5 : Int32) = 0 by decide, show ¬ (5 : Int32) = 1 by decide, show ¬ (5 : Int32) = 2 by decide, show ¬ (5 : Int32) = 3 by decide, show ¬ (5 : Int32) = 4 by decide, if_false, if_true]
theorem qc6 : qCount A 6 = nI (A.1 6) := by unfold qCount; simp only [show ¬ (6 : Int32) = 0 by decide, show ¬ (6 : Int32) = 1 by decide, show ¬ (6 : Int32) = 2 by decide, show ¬ (6 : Int32) = 3 by decide, show ¬ (6 : Int32) = 4 by decide, show ¬ (6 : Int32) = 5 by decide, if_false, if_true]
theorem qc7 : qCount A 7 = nI (A.1 7) := by unfold qCount; simp only [show ¬ (7 : Int32) = 0 by decide, show ¬ (7 : Int32) = 1 by decide, show ¬ (7 : Int32) = 2 by decide, show ¬ (7 : Int32) = 3 by decide, show ¬ (7 : Int32) = 4 by decide, show ¬ (7 : Int32) = 5 by decide, show ¬ (7 : Int32) = 6 by decide, if_false, if_true]
theorem qc8 : qCount A 8 = nI (sm (fun w => A.1 (wI w 6)) (A.1 2)) := by unfold qCount; simp only [show ¬ (8 : Int32) = 0 by decide, show ¬ (8 : Int32) = 1 by decide, show ¬ (8 : Int32) = 2 by decide, show ¬ (8 : Int32) = 3 by decide, show ¬ (8 : Int32) = 4 by decide, show ¬ (8 : Int32) = 5 by decide, show ¬ (8 : Int32) = 6 by decide, show ¬ (8 : Int32) = 7 by decide, if_false, if_true]
theorem qc9 : qCount A 9 = nI (A.1 4) := by unfold qCount; simp only [show ¬ (9 : Int32) = 0 by decide, show ¬ (9 : Int32) = 1 by decide, show ¬ (9 : Int32) = 2 by decide, show ¬ (9 : Int32) = 3 by decide, show ¬ (9 : Int32) = 4 by decide, show ¬ (9 : Int32) = 5 by decide, show ¬ (9 : Int32) = 6 by decide, show ¬ (9 : Int32) = 7 by decide, show ¬ (9 : Int32) = 8 by decide, if_false, if_true]
theorem qc10 : qCount A 10 = nI (A.1 3) := by unfold qCount; simp only [show ¬ (10 : Int32) = 0 by decide, show ¬ (10 : Int32) = 1 by decide, show ¬ (10 : Int32) = 2 by decide, show ¬ (10 : Int32) = 3 by decide, show ¬ (10 : Int32) = 4 by decide, show ¬ (10 : Int32) = 5 by decide, show ¬ (10 : Int32) = 6 by decide, show ¬ (10 : Int32) = 7 by decide, show ¬ (10 : Int32) = 8 by decide, show ¬ (10 : Int32) = 9 by decide, if_false, if_true]
theorem qc13 : qCount A 13 = -2 := by unfold qCount; simp only [show ¬ (13 : Int32) = 0 by decide, show ¬ (13 : Int32) = 1 by decide, show ¬ (13 : Int32) = 2 by decide, show ¬ (13 : Int32) = 3 by decide, show ¬ (13 : Int32) = 4 by decide, show ¬ (13 : Int32) = 5 by decide, show ¬ (13 : Int32) = 6 by decide, show ¬ (13 : Int32) = 7 by decide, show ¬ (13 : Int32) = 8 by decide, show ¬ (13 : Int32) = 9 by decide, show ¬ (13 : Int32) = 10 by decide, show ¬ (13 : Int32) = 11 by decide, show ¬ (13 : Int32) = 12 by decide, if_false]
theorem qW {w f : Nat} (hw : w < A.1 2) (h8 : A.1 2 ≤ 8) (hf : f ≤ 8) : qWalker A (nI w) (nI f) = nI (A.1 (wI w f)) := by
  unfold qWalker
  rw [if_pos (okWN hw (by omega)), if_pos ((rgX_N (by omega) (by omega) (by omega)).mpr ⟨by omega, hf⟩), tnN (by omega), tnN (by omega)]
theorem qT {i : Nat} (hi : i < A.1 3) (h3 : A.1 3 ≤ 30) : qTurn A (nI i) = nI (A.1 (337 + i)) := by
  unfold qTurn
  rw [if_neg (nI_pos (by omega)), nI_toInt (by omega), if_pos (by omega), tnN (by omega)]
theorem qC {r c : Nat} (hr : r < A.1 0) (hc : c < A.1 1) (hG : GI A) : qChips A (nI r) (nI c) = nI (gR A.1 (16 * r + c)) := by
  have b1 := hG.1.1.1.2
  have b2 := hG.1.1.2.1.2
  unfold qChips
  rw [if_pos ((okC_nn (by omega) (by omega)).mpr ⟨hr, hc⟩), ceN (by omega) (by omega)]
theorem qH {r c : Nat} (hr : r < A.1 0) (hc : c < A.1 1) (hG : GI A) : qHeapOf A (nI r) (nI c) = if gR A.1 (16 * r + c) = 0 then -5 else nI (Plc (gR A.1) (labF (gR A.1) (16 * r + c))) := by
  have b1 := hG.1.1.1.2
  have b2 := hG.1.1.2.1.2
  unfold qHeapOf
  rw [if_pos ((okC_nn (by omega) (by omega)).mpr ⟨hr, hc⟩), ceN (by omega) (by omega)]
end QS
theorem ltN {a b : Nat} (ha : a < 2 ^ 31) (hb : b < 2 ^ 31) : (nI a < nI b) ↔ a < b := nI_ltI ha hb
theorem nI_neg {p n : Nat} (h : n ≤ p) : nI p + -(nI n) = nI (p - n) := by rw [← Int32.sub_eq_add_neg, pk_sub h]
theorem nI_m1 {r : Nat} (h : 1 ≤ r) : nI r + (-1) = nI (r - 1) := nI_neg (n := 1) h
theorem and_max (v : Int32) : ∃ u, u < 2 ^ 31 ∧ v &&& 2147483647 = nI u := by
  refine nnI ?_
  have h1 : (v &&& 2147483647).toInt = (v &&& 2147483647).toBitVec.toInt := rfl
  rw [h1]
  have h2 : (v &&& 2147483647).toBitVec.msb = false := by
    show (v.toBitVec &&& 2147483647#32).msb = false
    rw [BitVec.msb_and]
    have : (2147483647#32).msb = false := by decide
    rw [this, Bool.and_false]
  rw [BitVec.toInt_eq_toNat_of_msb h2]
  omega
theorem low_sp (A : AbS) (v : Int32) {n : Nat} (h0 : 0 < n) (hn : n < 2 ^ 31) : ∃ m, m < n ∧ hL_low A v (nI n) = some (nI m) := by
  obtain ⟨u, hu, e⟩ := and_max v
  refine ⟨u % n, Nat.mod_lt _ h0, ?_⟩
  unfold hL_low
  have hz : nz (nI n) = true := by
    unfold nz
    have : ¬ nI n = 0 := fun z => by have := (eqN (b := 0) hn (by omega)).mp z; omega
    simp [this]
  rw [hz, ck_t rfl, e, rmN hu h0 hn]
theorem wall_sp {A : AbS} (hG : GI A) {c d : Nat} (h1 : c / 16 < A.1 0) (h2 : c % 16 < A.1 1) (hd : d < 4) : hL_wall A (nI (c / 16)) (nI (c % 16)) (nI d) = some (if Fre A.1 c d then 0 else 1) := by
  have b1 := hG.1.1.1
  have b2 := hG.1.1.2.1
  have f0 := (fre0 h1 h2 b1.2).1
  have f1 := (fre1 h1 h2 b1.2 b2.2).1
  have f2 := (fre2 h1 h2 b1.2).1
  have f3 := (fre3 h1 h2 b1.2).1
  unfold hL_wall hL_wall_J8 hL_wall_J24 hL_wall_J33
  rw [qc0, qc1, show nI (A.1 0) - 1 = nI (A.1 0 - 1) from pk_sub (b := 1) (by omega), show nI (A.1 1) - 1 = nI (A.1 1 - 1) from pk_sub (b := 1) (by omega)]
  have e0 : (nI (c / 16) = (0 : Int32)) ↔ c / 16 = 0 := eqN (b := 0) (by omega) (by omega)
  have e1 : (nI (c / 16) = nI (A.1 0 - 1)) ↔ c / 16 = A.1 0 - 1 := eqN (by omega) (by omega)
  have e2 : (nI (c % 16) = (0 : Int32)) ↔ c % 16 = 0 := eqN (b := 0) (by omega) (by omega)
  have e3 : (nI (c % 16) = nI (A.1 1 - 1)) ↔ c % 16 = A.1 1 - 1 := eqN (by omega) (by omega)
  have hd' : d = 0 ∨ d = 1 ∨ d = 2 ∨ d = 3 := by omega
  rcases hd' with e | e | e | e <;> subst e
  · simp only [show ¬ ¬ nI 0 = (0 : Int32) from fun z => z rfl, show ¬ nI 0 = (2 : Int32) by decide, show ¬ nI 0 = (3 : Int32) by decide, show ¬ nI 0 = (1 : Int32) by decide, not_false_eq_true, if_true, if_false, e0]
    by_cases q : c / 16 = 0
    · rw [if_pos q, if_neg (fun z => by have := f0.mp z; omega)]
    · rw [if_neg q, if_pos (f0.mpr (by omega))]
  · simp only [show ¬ nI 1 = (0 : Int32) by decide, show ¬ nI 1 = (2 : Int32) by decide, show ¬ nI 1 = (3 : Int32) by decide, show ¬ ¬ nI 1 = (1 : Int32) from fun z => z rfl, not_false_eq_true, if_true, if_false, e3]
    by_cases q : c % 16 = A.1 1 - 1
    · rw [if_neg (fun z => z q), if_neg (fun z => by have := f1.mp z; omega)]
    · rw [if_pos q, if_pos (f1.mpr (by omega))]
  · simp only [show ¬ nI 2 = (0 : Int32) by decide, show ¬ ¬ nI 2 = (2 : Int32) from fun z => z rfl, show ¬ nI 2 = (3 : Int32) by decide, show ¬ nI 2 = (1 : Int32) by decide, not_false_eq_true, if_true, if_false, e1]
    by_cases q : c / 16 = A.1 0 - 1
    · rw [if_pos q, if_neg (fun z => by have := f2.mp z; omega)]
    · rw [if_neg q, if_pos (f2.mpr (by omega))]
  · simp only [show ¬ nI 3 = (0 : Int32) by decide, show ¬ nI 3 = (2 : Int32) by decide, show ¬ ¬ nI 3 = (3 : Int32) from fun z => z rfl, show ¬ nI 3 = (1 : Int32) by decide, not_false_eq_true, if_true, if_false, e2]
    by_cases q : c % 16 = 0
    · rw [if_pos q, if_neg (fun z => by have := f3.mp z; omega)]
    · rw [if_neg q, if_pos (f3.mpr (by omega))]
theorem act_sp {A : AbS} {τ : Nat → Nat} {w : Nat} (hG : Good τ) (hw : w < τ 2) (fl : Int32) (hfl : 0 < gR τ (cw τ w) → (fl = 0 ↔ 0 < Plc (gR τ) (labF (gR τ) (cw τ w)))) :
    ∃ n, (hL_act A (nI (τ (wI w 5))) (nI (τ (wI w 3))) (nI (gR τ (cw τ w))) (nI (τ (wI w 4) - τ (wI w 3))) fl = some (nI n) ∧ actR τ w = pkR τ w n ∧ n ≤ gR τ (cw τ w) ∧ n ≤ τ (wI w 4) - τ (wI w 3)) ∨ (hL_act A (nI (τ (wI w 5))) (nI (τ (wI w 3))) (nI (gR τ (cw τ w))) (nI (τ (wI w 4) - τ (wI w 3))) fl = some (-(nI n)) ∧ actR τ w = drR τ w n ∧ gR τ (cw τ w) + n ≤ 99 ∧ n ≤ τ (wI w 3)) := by
  have hW := hG.2.2.2.2.2.1 w hw
  have hc := (hW.cell hG.1).1
  have h99 := hG.1.2.2.1 _ hc
  obtain ⟨-, -, -, w4, w5, w6⟩ := hW
  unfold hL_act hL_act_J111 hL_act_J63 actR
  generalize gR τ (cw τ w) = c at *
  generalize τ (wI w 3) = p at *
  generalize τ (wI w 4) = cap at *
  generalize τ (wI w 5) = so at *
  have z : ∀ a : Nat, a < 2 ^ 31 → ((nI a = (0 : Int32)) ↔ a = 0) := fun a ha => eqN (b := 0) ha (by omega)
  have le0 : ∀ a : Nat, a < 2 ^ 31 → ((nI a ≤ (0 : Int32)) ↔ a = 0) := fun a ha => by rw [show (0 : Int32) = nI 0 from rfl, leN ha (by omega)]; omega
  have l99 : ((99 : Int32) ≤ nI c) ↔ 99 ≤ c := leN (a := 99) (by omega) (by omega)
  have l2 : (nI c ≤ (2 : Int32)) ↔ c ≤ 2 := leN (b := 2) (by omega) (by omega)
  have l3 : ((3 : Int32) ≤ nI c) ↔ 3 ≤ c := leN (a := 3) (by omega) (by omega)
  have lr : (nI (cap - p) ≤ nI c) ↔ cap - p ≤ c := leN (by omega) (by omega)
  have s99 : (99 : Int32) - nI c = nI (99 - c) := pk_sub (a := 99) h99
  have lp : (nI (99 - c) ≤ nI p) ↔ 99 - c ≤ p := leN (by omega) (by omega)
  have hso : so = 0 ∨ so = 1 ∨ so = 2 := by omega
  rcases hso with e | e | e <;> subst e
  · simp only [show ¬ ¬ nI 0 = (0 : Int32) from fun z => z rfl, if_false, if_true, z c (by omega), z p (by omega), l99]
    by_cases a1 : c = 0
    · refine ⟨0, Or.inl ⟨?_, ?_, by omega, by omega⟩⟩
      · rw [if_neg (fun y => y a1)]; rfl
      · rw [if_neg (by omega), if_neg (by omega), pk0]
    · by_cases a2 : p = 0
      · refine ⟨1, Or.inl ⟨?_, ?_, by omega, by omega⟩⟩
        · rw [if_pos a1, if_neg (fun y => y a2)]; rfl
        · rw [if_pos ⟨a2, by omega⟩]
      · by_cases a3 : 99 ≤ c
        · refine ⟨0, Or.inl ⟨?_, ?_, by omega, by omega⟩⟩
          · rw [if_pos a1, if_pos a2, if_pos a3]; rfl
          · rw [if_neg (by omega), if_neg (by omega), pk0]
        · refine ⟨1, Or.inr ⟨?_, ?_, by omega, by omega⟩⟩
          · rw [if_pos a1, if_pos a2, if_neg a3]; rfl
          · rw [if_neg (by omega), if_pos (by omega)]
  · simp only [show ¬ nI 1 = (0 : Int32) by decide, show ¬ ¬ nI 1 = (1 : Int32) from fun z => z rfl, show ¬ (1 : Nat) = 0 by omega, not_false_eq_true, if_true, if_false, le0 c (by omega), le0 p (by omega), le0 (cap - p) (by omega), l2, l3, lr, s99, lp]
    by_cases a1 : c = 0
    · refine ⟨0, Or.inl ⟨?_, ?_, by omega, by omega⟩⟩
      · rw [if_pos a1, if_pos (by omega)]; rfl
      · rw [if_neg (by omega), if_neg (by omega), pk0]
    · rw [if_neg a1]
      by_cases a2 : 3 ≤ c
      · rw [if_pos a2, if_neg (show ¬ c ≤ 2 by omega), if_neg (show ¬ ((1 ≤ c ∧ c ≤ 2) ∧ p < cap) by omega)]
        by_cases a3 : p = 0
        · refine ⟨0, Or.inl ⟨?_, ?_, by omega, by omega⟩⟩
          · rw [if_pos a3]; rfl
          · rw [if_neg (by omega), pk0]
        · rw [if_neg a3, if_pos (show 2 < c ∧ 0 < p by omega)]
          refine ⟨min p (99 - c), Or.inr ⟨?_, rfl, by omega, by omega⟩⟩
          by_cases a4 : 99 - c ≤ p
          · rw [if_pos a4, show min p (99 - c) = 99 - c by omega]
          · rw [if_neg a4, show min p (99 - c) = p by omega]
      · rw [if_neg a2]
        by_cases a3 : cap - p = 0
        · refine ⟨0, Or.inl ⟨?_, ?_, by omega, by omega⟩⟩
          · rw [if_pos a3, if_pos (by omega)]; rfl
          · rw [if_neg (by omega), if_neg (by omega), pk0]
        · rw [if_neg a3, if_pos (show (1 ≤ c ∧ c ≤ 2) ∧ p < cap by omega)]
          refine ⟨min c (cap - p), Or.inl ⟨?_, rfl, by omega, by omega⟩⟩
          by_cases a4 : cap - p ≤ c
          · rw [if_pos a4, show min c (cap - p) = cap - p by omega]
          · rw [if_neg a4, show min c (cap - p) = c by omega]
  · simp only [show ¬ nI 2 = (0 : Int32) by decide, show ¬ nI 2 = (1 : Int32) by decide, show ¬ (2 : Nat) = 0 by omega, show ¬ (2 : Nat) = 1 by omega, not_false_eq_true, if_true, if_false, le0 c (by omega), le0 p (by omega), le0 (cap - p) (by omega), l99]
    have drop : ¬ (p < cap ∧ 0 < c ∧ 0 < Plc (gR τ) (labF (gR τ) (cw τ w))) → ∃ n, ((if c = 0 then some 0 else if 99 ≤ c then some 0 else if p = 0 then some 0 else some (-1)) = some (nI n) ∧ (if p < cap ∧ 0 < c ∧ 0 < Plc (gR τ) (labF (gR τ) (cw τ w)) then pkR τ w 1 else if 0 < p ∧ 0 < c ∧ c < 99 then drR τ w 1 else τ) = pkR τ w n ∧ n ≤ c ∧ n ≤ cap - p) ∨ ((if c = 0 then some 0 else if 99 ≤ c then some 0 else if p = 0 then some 0 else some (-1)) = some (-(nI n)) ∧ (if p < cap ∧ 0 < c ∧ 0 < Plc (gR τ) (labF (gR τ) (cw τ w)) then pkR τ w 1 else if 0 < p ∧ 0 < c ∧ c < 99 then drR τ w 1 else τ) = drR τ w n ∧ c + n ≤ 99 ∧ n ≤ p) := by
      intro hn
      rw [if_neg hn]
      by_cases a1 : c = 0
      · refine ⟨0, Or.inl ⟨?_, ?_, by omega, by omega⟩⟩
        · rw [if_pos a1]; rfl
        · rw [if_neg (by omega), pk0]
      · by_cases a2 : 99 ≤ c
        · refine ⟨0, Or.inl ⟨?_, ?_, by omega, by omega⟩⟩
          · rw [if_neg a1, if_pos a2]; rfl
          · rw [if_neg (by omega), pk0]
        · by_cases a3 : p = 0
          · refine ⟨0, Or.inl ⟨?_, ?_, by omega, by omega⟩⟩
            · rw [if_neg a1, if_neg a2, if_pos a3]; rfl
            · rw [if_neg (by omega), pk0]
          · refine ⟨1, Or.inr ⟨?_, ?_, by omega, by omega⟩⟩
            · rw [if_neg a1, if_neg a2, if_neg a3]; rfl
            · rw [if_pos (by omega)]
    by_cases a1 : c = 0
    · rw [if_pos a1]
      exact drop (by omega)
    · rw [if_neg a1]
      by_cases a2 : cap - p = 0
      · rw [if_pos a2]
        exact drop (by omega)
      · rw [if_neg a2]
        have hf := hfl (by omega)
        by_cases a3 : fl = 0
        · rw [if_neg (fun y => y a3)]
          exact ⟨1, Or.inl ⟨rfl, if_pos ⟨by omega, by omega, hf.mp a3⟩, by omega, by omega⟩⟩
        · rw [if_pos a3]
          exact drop (fun y => a3 (hf.mpr y.2.2))
