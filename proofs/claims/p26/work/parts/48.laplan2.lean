/-! plans, the rest of them -/
theorem ng_toInt {j : Nat} (h : j < 2 ^ 30) : (-(nI j)).toInt = -(j : Int) := by
  have e : -(nI j) = nI 0 - nI j := by rw [Int32.sub_eq_add_neg, show nI 0 = 0 from rfl, Int32.zero_add]
  rw [e, pk_sub_toInt (by omega) h]
  omega
section PLANS2
variable {C : AbS} {w : Nat} {t : Nat → Int32}
theorem j216g {n : Nat} (x2 : Int32) (hG : GI C) (hP : PA C) (hw : w < C.1 2) (h : Tx t w 103 n) (h1 : 1 ≤ n) (h9 : n ≤ 9) : ∃ A', hL_plans_J216 (txA C 4 t) x2 (nI w) 1 (nI 3) (nI (C.1 (wI w 3))) (nI (gR C.1 (cw C.1 w))) (nI (C.1 (wI w 4) - C.1 (wI w 3))) (nI (min (gR C.1 (cw C.1 w)) n)) = some (1, A') ∧ Kp C A' := by
  have hc := cw256 hG.1 hw
  have h99 := hG.1.1.2.2.1 _ hc
  obtain ⟨-, -, -, w4, w5, -⟩ := hG.1.2.2.2.2.2.1 w hw
  have eo : obR C.1 w 103 n = pkR C.1 w (min n (min (gR C.1 (cw C.1 w)) (C.1 (wI w 4) - C.1 (wI w 3)))) := if_pos rfl
  have e3 : pkR C.1 w (min n (min (gR C.1 (cw C.1 w)) (C.1 (wI w 4) - C.1 (wI w 3)))) (wI w 3) = C.1 (wI w 3) + min n (min (gR C.1 (cw C.1 w)) (C.1 (wI w 4) - C.1 (wI w 3))) := by rw [pk_wf (by omega) hc, if_neg (by omega), if_pos (by omega)]
  have eg : gR (pkR C.1 w (min n (min (gR C.1 (cw C.1 w)) (C.1 (wI w 4) - C.1 (wI w 3))))) (cw C.1 w) = gR C.1 (cw C.1 w) - min n (min (gR C.1 (cw C.1 w)) (C.1 (wI w 4) - C.1 (wI w 3))) := by rw [gR_pk (by have := hG.1.2.1; omega) hc, if_pos rfl]
  have go := j250 (L := 103) (s0 := nI (min n (min (gR C.1 (cw C.1 w)) (C.1 (wI w 4) - C.1 (wI w 3))))) x2 hG hP hw (Or.inr (Or.inr (Or.inr (Or.inr (Or.inl rfl))))) h h1 h9 (by rw [eo]; exact ⟨hG.1.pk hw (by omega) (by omega), hP.1.pk hc⟩) (fun j hj => by rw [eo, pk_lo hj]) (by rw [eo, pk_wf (by omega) hc, pk_wf (by omega) hc, if_neg (by omega), if_neg (by omega), if_neg (by omega), if_neg (by omega)]; exact ⟨rfl, rfl⟩) (by rw [eo]; exact pk_sum hG.1 hw) (by rw [eo, e3, nI_add]) (by rw [eo, eg, pk_sub (by omega)])
  generalize gR C.1 (cw C.1 w) = c at *
  generalize hr : C.1 (wI w 4) - C.1 (wI w 3) = room at *
  unfold hL_plans_J216
  by_cases q : min c n ≤ room
  · rw [if_pos (yle (by omega) (by omega) q), if_pos (show nI c - 99 ≤ nI (min c n) by rw [Int32.le_iff_toInt_le, show (nI c - 99).toInt = (c : Int) - 99 from pk_sub_toInt (b := 99) (by omega) (by omega), nI_toInt (by omega)]; omega), show min c n = min n (min c room) by omega]
    exact go
  · rw [if_neg (nle (by omega) (by omega) (by omega)), show room = min n (min c room) by omega]
    exact go
theorem j216d {n : Nat} (x2 : Int32) (hG : GI C) (hP : PA C) (hw : w < C.1 2) (h : Tx t w 100 n) (h1 : 1 ≤ n) (h9 : n ≤ 9) : ∃ A', hL_plans_J216 (txA C 4 t) x2 (nI w) 1 (nI 3) (nI (C.1 (wI w 3))) (nI (gR C.1 (cw C.1 w))) (nI (C.1 (wI w 4) - C.1 (wI w 3))) (-(nI (min (C.1 (wI w 3)) n))) = some (1, A') ∧ Kp C A' := by
  have hc := cw256 hG.1 hw
  have h99 := hG.1.1.2.2.1 _ hc
  obtain ⟨-, -, -, w4, w5, -⟩ := hG.1.2.2.2.2.2.1 w hw
  have eo : obR C.1 w 100 n = drR C.1 w (min n (min (C.1 (wI w 3)) (99 - gR C.1 (cw C.1 w)))) := (if_neg (by decide)).trans (if_pos rfl)
  have e3 : drR C.1 w (min n (min (C.1 (wI w 3)) (99 - gR C.1 (cw C.1 w)))) (wI w 3) = C.1 (wI w 3) - min n (min (C.1 (wI w 3)) (99 - gR C.1 (cw C.1 w))) := by rw [dr_wf (by omega) hc, if_neg (by omega), if_pos (by omega)]
  have eg : gR (drR C.1 w (min n (min (C.1 (wI w 3)) (99 - gR C.1 (cw C.1 w))))) (cw C.1 w) = gR C.1 (cw C.1 w) + min n (min (C.1 (wI w 3)) (99 - gR C.1 (cw C.1 w))) := by rw [gR_dr (by have := hG.1.2.1; omega) hc, if_pos rfl]
  have go := j250 (L := 100) (s0 := -(nI (min n (min (C.1 (wI w 3)) (99 - gR C.1 (cw C.1 w)))))) x2 hG hP hw (Or.inr (Or.inr (Or.inr (Or.inr (Or.inr rfl))))) h h1 h9 (by rw [eo]; exact ⟨hG.1.dr hw (by omega) (by omega), hP.1.dr hc (by omega)⟩) (fun j hj => by rw [eo, dr_lo hj]) (by rw [eo, dr_wf (by omega) hc, dr_wf (by omega) hc, if_neg (by omega), if_neg (by omega), if_neg (by omega), if_neg (by omega)]; exact ⟨rfl, rfl⟩) (by rw [eo]; exact dr_sum hG.1 hw) (by rw [eo, e3, nI_neg (by omega)]) (by rw [eo, eg, sub_neg, nI_add])
  generalize gR C.1 (cw C.1 w) = c at *
  generalize hr : C.1 (wI w 4) - C.1 (wI w 3) = room at *
  generalize C.1 (wI w 3) = p at *
  have c99 : (nI c - 99).toInt = (c : Int) - 99 := pk_sub_toInt (b := 99) (by omega) (by omega)
  unfold hL_plans_J216
  rw [if_pos (show -(nI (min p n)) ≤ nI room by rw [Int32.le_iff_toInt_le, ng_toInt (by omega), nI_toInt (by omega)]; omega)]
  by_cases q : min p n ≤ 99 - c
  · rw [if_pos (show nI c - 99 ≤ -(nI (min p n)) by rw [Int32.le_iff_toInt_le, c99, ng_toInt (by omega)]; omega), show min p n = min n (min p (99 - c)) by omega]
    exact go
  · rw [if_neg (show ¬ nI c - 99 ≤ -(nI (min p n)) from fun z => by rw [Int32.le_iff_toInt_le, c99, ng_toInt (by omega)] at z; omega)]
    have e : nI c - 99 = -(nI (99 - c)) := by
      rw [← Int32.toInt_inj, c99, ng_toInt (by omega)]
      omega
    rw [e, show 99 - c = min n (min p (99 - c)) by omega]
    exact go
theorem j109 {s1 : Int32} (x2 : Int32) (hG : GI C) (hP : PA C) (hw : w < C.1 2) (t0 : t 0 = 35) (t1 : t 1 = nI (48 + w)) (hs : s1 = if ¬ (x2 &&& 1) = 0 then 100 else 103) : ∃ A', hL_plans_J109 (txA C 2 t) x2 (nI w) 1 s1 = some (1, A') ∧ Kp C A' := by
  have h8 := hG.1.2.1
  have hc := cw256 hG.1 hw
  have h99 := hG.1.1.2.2.1 _ hc
  obtain ⟨w0, w1, -, w4, w5, -⟩ := hG.1.2.2.2.2.2.1 w hw
  obtain ⟨m, hm, hlow⟩ := low_all (x2 >>> (1 &&& 31)) (n := 9) (by omega) (by omega)
  have hlow : ∀ B : AbS, hL_low B (x2 >>> (1 &&& 31)) 9 = some (nI m) := hlow
  have c49 : (48 : Int32) + (1 + nI m) = nI (48 + (1 + m)) := by rw [show (1 : Int32) = nI 1 from rfl, nI_add, show (48 : Int32) = nI 48 from rfl, nI_add]
  have e1 : (1 : Int32) + nI m = nI (1 + m) := nI_add 1 m
  obtain ⟨c1, c2⟩ := chN (48 + (1 + m)) (by omega)
  have bs : bC s1 = true := by rw [hs]; split <;> decide +kernel
  have hT : ∀ L, s1 = L → Tx (pl1 (pl1 t 2 s1) 3 (nI (48 + (1 + m)))) w L (1 + m) := fun L hL => ⟨t0, t1, hL, rfl⟩
  have q0 : qWalker (txA C 4 (pl1 (pl1 t 2 s1) 3 (nI (48 + (1 + m))))) (nI w) 0 = nI (C.1 (wI w 0)) := qW (A := txA C 4 _) (f := 0) hw h8 (by omega)
  have q1 : qWalker (txA C 4 (pl1 (pl1 t 2 s1) 3 (nI (48 + (1 + m))))) (nI w) 1 = nI (C.1 (wI w 1)) := qW (A := txA C 4 _) (f := 1) hw h8 (by omega)
  have q3 : qWalker (txA C 4 (pl1 (pl1 t 2 s1) 3 (nI (48 + (1 + m))))) (nI w) 3 = nI (C.1 (wI w 3)) := qW (A := txA C 4 _) (f := 3) hw h8 (by omega)
  have q4 : qWalker (txA C 4 (pl1 (pl1 t 2 s1) 3 (nI (48 + (1 + m))))) (nI w) 4 = nI (C.1 (wI w 4)) := qW (A := txA C 4 _) (f := 4) hw h8 (by omega)
  have qq : ∀ u, (∀ j, j < 4 → bC (u j) = true) → qChips (txA C 4 u) (nI (C.1 (wI w 0))) (nI (C.1 (wI w 1))) = nI (gR C.1 (cw C.1 w)) := fun u hu => qC (A := txA C 4 u) w0 w1 (Kp.tx hG hP (by omega) hu).1
  have hb : ∀ j, j < 4 → bC (pl1 (pl1 t 2 s1) 3 (nI (48 + (1 + m))) j) = true := by
    refine pl1_b (n := 3) (pl1_b (n := 2) (fun j hj => ?_) bs) c2
    have hj' : j = 0 ∨ j = 1 := by omega
    rcases hj' with e | e <;> subst e
    · rw [t0]; exact b35
    · rw [t1]; exact (chN _ (by omega)).2
  unfold hL_plans_J109 hL_plans_J215
  rw [ck_t bs, ty_sp (by omega), bd1]
  simp only []
  rw [hlow, bd1, c49, c1, ck_t c2, ty_sp (by omega), bd1]
  simp only []
  rw [e1, q0, q1, q3, q4, qq _ hb, pk_sub w4]
  by_cases z : ¬ (x2 &&& 1) = 0
  · rw [if_pos z] at hs
    rw [if_pos z]
    have go := j216d (n := 1 + m) x2 hG hP hw (hT 100 hs) (by omega) (by omega)
    by_cases q : C.1 (wI w 3) ≤ 1 + m
    · rw [if_pos (yle (by omega) (by omega) q)]
      rw [show min (C.1 (wI w 3)) (1 + m) = C.1 (wI w 3) by omega] at go
      exact go
    · rw [if_neg (nle (by omega) (by omega) (by omega))]
      rw [show min (C.1 (wI w 3)) (1 + m) = 1 + m by omega] at go
      exact go
  · rw [if_neg z] at hs
    rw [if_neg z]
    have go := j216g (n := 1 + m) x2 hG hP hw (hT 103 hs) (by omega) (by omega)
    by_cases q : gR C.1 (cw C.1 w) ≤ 1 + m
    · rw [if_pos (yle (by omega) (by omega) q)]
      rw [show min (gR C.1 (cw C.1 w)) (1 + m) = gR C.1 (cw C.1 w) by omega] at go
      exact go
    · rw [if_neg (nle (by omega) (by omega) (by omega))]
      rw [show min (gR C.1 (cw C.1 w)) (1 + m) = 1 + m by omega] at go
      exact go
end PLANS2
theorem j35 {C : AbS} {w : Nat} {t : Nat → Int32} (x2 : Int32) (hG : GI C) (hP : PA C) (hw : w < C.1 2 ∨ (C.1 2 = 0 ∧ w = 0)) : ∃ A', hL_plans_J35 (txA C 0 t) x2 (nI (C.1 2)) (nI w) = some (1, A') ∧ Kp C A' := by
  have h8 := hG.1.2.1
  have hw8 : w ≤ 8 := by omega
  obtain ⟨c1, c2⟩ := chN (48 + w) (by omega)
  have c48 : (48 : Int32) + nI w = nI (48 + w) := nI_add 48 w
  have r1 : aRun (txA C 1 (pl1 t 0 35)) = (-100 - nI 1, txA C 1 (pl1 t 0 35)) := run_no (A := txA C 1 (pl1 t 0 35)) (rdT1 rfl)
  unfold hL_plans_J35 hL_plans_J58
  rw [ty_sp (by omega), bd1]
  simp only []
  rw [r1, bd1]
  simp only []
  rw [if_neg (show ¬ ¬ (-100 - nI 1 : Int32) = -101 from fun z => z (by decide)), c48, c1, ck_t c2, ty_sp (by omega), bd1]
  simp only []
  by_cases q : C.1 2 = 0
  · have e0 : w = 0 := by omega
    subst e0
    have r2 : aRun (txA C 2 (pl1 (pl1 t 0 35) 1 (nI (48 + 0)))) = (-100 - nI 1, txA C 2 (pl1 (pl1 t 0 35) 1 (nI (48 + 0)))) := run_no (A := txA C 2 _) (rdT2 (w := 0) rfl rfl (by omega) (by show ¬ 0 < C.1 2; omega))
    rw [if_neg (show ¬ ¬ nI (C.1 2) = (0 : Int32) from fun z => z (by rw [q]; rfl)), if_neg (by decide), r2, bd1, if_neg (show ¬ ¬ (-100 - nI 1 : Int32) = -101 from fun z => z (by decide))]
    exact ⟨_, rfl, Kp.tx hG hP (by omega) (pl1_b (n := 1) (pl1_b (n := 0) (fun j hj => by omega) b35) c2)⟩
  · rw [if_pos (show ¬ nI (C.1 2) = (0 : Int32) from fun z => q ((eqN (b := 0) (by omega) (by omega)).mp z))]
    by_cases z : ¬ (x2 &&& 1) = 0
    · rw [if_pos z]
      exact j109 x2 hG hP (by omega) rfl rfl (by rw [if_pos z])
    · rw [if_neg z]
      exact j109 x2 hG hP (by omega) rfl rfl (by rw [if_neg z])
theorem plans_sp {A : AbS} (hG : GI A) (hP : PA A) (x1 x2 : Int32) : ∃ A', hL_plans A x1 x2 = some (1, A') ∧ Kp A A' := by
  have h8 := hG.1.2.1
  have r0 : aRun (txA A 0 A.2.2.2.2) = (-100 - nI 0, txA A 0 A.2.2.2.2) := run_no (A := txA A 0 A.2.2.2.2) rdT0
  have p2 : qCount (txA A 0 A.2.2.2.2) 2 = nI (A.1 2) := qc2
  unfold hL_plans
  rw [cl_sp, bd1]
  simp only []
  rw [r0, bd1]
  simp only []
  rw [if_pos (show (-100 - nI 0 : Int32) = -100 by decide), p2]
  by_cases q : A.1 2 = 0
  · rw [if_neg (show ¬ ¬ nI (A.1 2) = (0 : Int32) from fun z => z (by rw [q]; rfl))]
    exact j35 (w := 0) x2 hG hP (Or.inr ⟨q, rfl⟩)
  · rw [if_pos (show ¬ nI (A.1 2) = (0 : Int32) from fun z => q ((eqN (b := 0) (by omega) (by omega)).mp z))]
    obtain ⟨m, hm, hlow⟩ := low_sp (txA A 0 A.2.2.2.2) x1 (n := A.1 2) (by omega) (by omega)
    rw [hlow, bd1]
    exact j35 (w := m) x2 hG hP (Or.inl hm)
