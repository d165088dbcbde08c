/-! a further walker; a new board -/
def zwR (ρ : Nat → Nat) (w k : Nat) : Nat → Nat := fun j => if 265 + 9 * w ≤ j ∧ j < 265 + 9 * w + k then 0 else ρ j
theorem zw_0 {ρ : Nat → Nat} {w : Nat} : zwR ρ w 0 = ρ := by funext j; exact if_neg (by omega)
theorem zw_s {ρ : Nat → Nat} {w k : Nat} : stR (zwR ρ w k) (wI w k) 0 = zwR ρ w (k + 1) := by
  funext j
  unfold zwR
  by_cases e : j = wI w k
  · rw [e, stR_s, if_pos (by unfold wI; omega)]
  · rw [stR_n e]
    by_cases q : 265 + 9 * w ≤ j ∧ j < 265 + 9 * w + k
    · rw [if_pos q, if_pos (by omega)]
    · rw [if_neg q, if_neg (by unfold wI at e; omega)]
def awR (ρ : Nat → Nat) (r c d so cap : Nat) : Nat → Nat := stR (stR (stR (stR (stR (stR (zwR ρ (ρ 2) 9) (wI (ρ 2) 0) r) (wI (ρ 2) 1) c) (wI (ρ 2) 2) d) (wI (ρ 2) 5) so) (wI (ρ 2) 4) cap) 2 (ρ 2 + 1)
theorem aw_at {ρ : Nat → Nat} {r c d so cap j : Nat} (hw : ρ 2 < 8) : awR ρ r c d so cap j = if j = 2 then ρ 2 + 1 else if j = wI (ρ 2) 4 then cap else if j = wI (ρ 2) 5 then so else if j = wI (ρ 2) 2 then d else if j = wI (ρ 2) 1 then c else if j = wI (ρ 2) 0 then r else if 265 + 9 * ρ 2 ≤ j ∧ j < 265 + 9 * ρ 2 + 9 then 0 else ρ j := rfl
theorem aw_o {ρ : Nat → Nat} {r c d so cap j : Nat} (hw : ρ 2 < 8) (h2 : j ≠ 2) (h : j < 265 + 9 * ρ 2 ∨ 265 + 9 * ρ 2 + 9 ≤ j) : awR ρ r c d so cap j = ρ j := by
  rw [aw_at hw, if_neg h2, if_neg (by unfold wI; omega), if_neg (by unfold wI; omega), if_neg (by unfold wI; omega), if_neg (by unfold wI; omega), if_neg (by unfold wI; omega), if_neg (by omega)]
theorem aw_w {ρ : Nat → Nat} {r c d so cap f : Nat} (hw : ρ 2 < 8) (hf : f < 9) : awR ρ r c d so cap (wI (ρ 2) f) = if f = 4 then cap else if f = 5 then so else if f = 2 then d else if f = 1 then c else if f = 0 then r else 0 := by
  have k : ∀ g, (wI (ρ 2) f = wI (ρ 2) g) = (f = g) := by
    intro g
    apply propext
    unfold wI
    omega
  rw [aw_at hw, if_neg (by unfold wI; omega)]
  simp only [k]
  rw [if_pos (show 265 + 9 * ρ 2 ≤ wI (ρ 2) f ∧ wI (ρ 2) f < 265 + 9 * ρ 2 + 9 by unfold wI; omega)]
theorem Good.aw {ρ : Nat → Nat} {r c d so cap : Nat} (h : Good ρ) (hw : ρ 2 < 8) (hr : r < ρ 0) (hc : c < ρ 1) (hd : d ≤ 3) (hso : so ≤ 2) (h1 : 1 ≤ cap) (h9 : cap ≤ 9) : Good (awR ρ r c d so cap) := by
  obtain ⟨⟨b1, b2, b3, b4⟩, g2, g3, g4, g5, g6, g7, g8⟩ := h
  have o : ∀ j, j ≠ 2 → (j < 265 + 9 * ρ 2 ∨ 265 + 9 * ρ 2 + 9 ≤ j) → awR ρ r c d so cap j = ρ j := fun j h1 h2 => aw_o hw h1 h2
  have e2 : awR ρ r c d so cap 2 = ρ 2 + 1 := by rw [aw_at hw, if_pos rfl]
  have og : ∀ i, i < 256 → gR (awR ρ r c d so cap) i = gR ρ i := fun i hi => o _ (by omega) (by omega)
  refine ⟨⟨?_, ?_, fun i hi => ?_, fun i hi hcc => ?_⟩, ?_, ?_, ?_, ?_, fun u hu => ?_, fun t ht => ?_, ?_⟩
  · rw [o 0 (by omega) (by omega)]; exact b1
  · rw [o 1 (by omega) (by omega)]; exact b2
  · rw [og i hi]; exact b3 i hi
  · rw [o 0 (by omega) (by omega), o 1 (by omega) (by omega)] at hcc
    rw [og i hi]; exact b4 i hi hcc
  · rw [e2]; omega
  · rw [o 3 (by omega) (by omega)]; exact g3
  · rw [o 3 (by omega) (by omega), o 4 (by omega) (by omega)]; exact g4
  · rw [o 5 (by omega) (by omega)]; exact g5
  · rw [e2] at hu
    unfold Wk
    rw [o 0 (by omega) (by omega), o 1 (by omega) (by omega)]
    by_cases e : u = ρ 2
    · rw [e, aw_w hw (by omega), aw_w hw (by omega), aw_w hw (by omega), aw_w hw (by omega), aw_w hw (by omega), aw_w hw (by omega)]
      simp
      omega
    · have q : ∀ f, f < 9 → awR ρ r c d so cap (wI u f) = ρ (wI u f) := fun f hf => o _ (by unfold wI; omega) (by unfold wI; omega)
      have w0 := g6 u (by omega)
      unfold Wk at w0
      rw [q 0 (by omega), q 1 (by omega), q 2 (by omega), q 3 (by omega), q 4 (by omega), q 5 (by omega)]
      exact w0
  · rw [o 3 (by omega) (by omega)] at ht
    rw [o _ (by omega) (by omega)]
    exact g7 t ht
  · rw [o 8 (by omega) (by omega), e2, g8]
    show _ = sm (fun w => awR ρ r c d so cap (wI w 6)) (ρ 2) + awR ρ r c d so cap (wI (ρ 2) 6)
    rw [aw_w hw (by omega)]
    simp
    refine sm_congr _ (fun u hu => ?_)
    rw [o _ (by unfold wI; omega) (by unfold wI; omega)]
theorem CR.aw {I I' : II} {ρ : Nat → Nat} {r c d so cap : Nat} (h : CR I ρ) (hG : Good ρ) (hw : ρ 2 < 8) (h2 : I' 2 4 = nI (ρ 2 + 1)) (h3 : ∀ j, j ≠ 4 → I' 2 j = I 2 j) (hf : ∀ a, a ≠ 2 → a ≠ 7 + ρ 2 → I' a = I a) (hn : ∀ f, f < 9 → I' (7 + ρ 2) f = nI (awR ρ r c d so cap (wI (ρ 2) f))) : CR I' (awR ρ r c d so cap) := by
  obtain ⟨⟨⟨p0, p1, p4, p6, p7⟩, q2, q3, q4, q5⟩, hH⟩ := h
  have g3 := hG.2.2.1
  have o : ∀ j, j ≠ 2 → (j < 265 + 9 * ρ 2 ∨ 265 + 9 * ρ 2 + 9 ≤ j) → awR ρ r c d so cap j = ρ j := fun j h1 h2 => aw_o hw h1 h2
  have e2 : awR ρ r c d so cap 2 = ρ 2 + 1 := by rw [aw_at hw, if_pos rfl]
  have og : ∀ i, i < 256 → gR (awR ρ r c d so cap) i = gR ρ i := fun i hi => o _ (by omega) (by omega)
  refine ⟨⟨⟨?_, ?_, ?_, ?_, ?_⟩, fun i hi => ?_, ?_, fun t ht => ?_, fun u e hu he => ?_⟩, ?_⟩
  · rw [h3 0 (by omega), o 0 (by omega) (by omega)]; exact p0
  · rw [h3 1 (by omega), o 1 (by omega) (by omega)]; exact p1
  · rw [e2]; exact h2
  · rw [h3 6 (by omega), o 6 (by omega) (by omega)]; exact p6
  · rw [h3 7 (by omega), o 7 (by omega) (by omega)]; exact p7
  · rw [hf _ (by omega) (by omega), og i hi]; exact q2 i hi
  · rw [hf _ (by omega) (by omega), o 3 (by omega) (by omega), o 4 (by omega) (by omega), o 5 (by omega) (by omega)]; exact q3
  · rw [o 3 (by omega) (by omega)] at ht
    rw [hf _ (by omega) (by omega), o _ (by omega) (by omega)]; exact q4 t ht
  · rw [e2] at hu
    show I' (7 + u) e = _
    by_cases q : u = ρ 2
    · rw [q]; exact hn e he
    · rw [hf _ (by omega) (by omega), o _ (by unfold wI; omega) (by unfold wI; omega)]
      exact q5 u e (by omega) he
  · exact HC_congr (hH.fm (fun a _ _ => hf a (by omega) (by omega))) og
theorem zero_lp {J1 : II} {ρ : Nat → Nat} {w : Nat} (hw : w < 8) (h : MR J1 ρ) (ct : II → Option (Int32 × II)) (x1 x2 x3 x4 x5 : Int32) : ∃ J2, fX9_addWalker_L73 2000 ct x1 x2 x3 x4 x5 (nI w) 0 J1 = ct J2 ∧ MR J2 (zwR ρ w 9) ∧ FM1 J1 J2 := by
  have lp : ∀ (n x : Nat) (K : II) (fu : Nat), x + n = 9 → n < fu → MR K (zwR ρ w x) → FM1 J1 K → ∃ J2, fX9_addWalker_L73 fu ct x1 x2 x3 x4 x5 (nI w) (nI x) K = ct J2 ∧ MR J2 (zwR ρ w 9) ∧ FM1 J1 J2 := by
    intro n
    induction n with
    | zero =>
      intro x K fu hx hf k1 k2
      obtain ⟨fu, rfl⟩ : ∃ m, fu = m + 1 := ⟨fu - 1, by omega⟩
      refine ⟨K, ?_, by rw [show 9 = x by omega]; exact k1, k2⟩
      show (if (9 : Int32) ≤ nI x then ct K else _) = _
      rw [ifp (show (9 : Int32) ≤ nI x from yle (a := 9) (by omega) (by omega) (by omega))]
    | succ n ih =>
      intro x K fu hx hf k1 k2
      obtain ⟨fu, rfl⟩ : ∃ m, fu = m + 1 := ⟨fu - 1, by omega⟩
      show ∃ J2, (if (9 : Int32) ≤ nI x then ct K else (fX9_lay K (nI w) (nI x) 0).bind fun v12 => fX9_addWalker_L73 fu ct x1 x2 x3 x4 x5 (nI w) (nI x + 1) v12) = ct J2 ∧ _
      rw [ifn (show ¬ (9 : Int32) ≤ nI x from nle (a := 9) (by omega) (by omega) (by omega)), m_lay hw x (by omega), bd1, nI_1]
      have := m_up (k := wI w x) (v := 0) (z := 0) k1 rfl
      rw [zw_s] at this
      exact ih (x + 1) _ fu (by omega) (by omega) this (k2.tr FM1.up)
  exact lp 9 0 J1 2000 (by omega) (by omega) (by rw [zw_0]; exact h) FM1.rf
theorem op_addWalker (x y z s p : Int32) : OpS (fun I P => fX8_addWalker I P x y z s p) (fun J => fX9_addWalker J x y z s p) := by
  intro A I P J hG hC hM
  have g2 := hG.1.2.1
  show ∃ a I1 P1 J1 A', fX8_addWalker I P x y z s p = some (a, I1, P1) ∧ fX9_addWalker J x y z s p = some (a, J1) ∧ _
  have b1 := hG.1.1.1.2
  have b2 := hG.1.1.2.1.2
  unfold fX8_addWalker fX9_addWalker fX8_isSort
  simp only [isB_sp]
  rcases cells hC.1.1 hM.1 hG.1.1 x y with ⟨r, c, hr, hc, rfl, rfl, e1, e2⟩ | ⟨e1, e2⟩
  · rw [e1, e2, bd1, bd1, ifp (nI_nneg (by omega)), if1]
    rcases rng z 0 3 (by omega) (by omega) with ⟨d, -, hd, rfl, e3⟩ | ⟨-, e3⟩
    · rw [show fX9_in (nI d) 0 3 = _ from e3, bd1, bd1, jf1, jf1]
      rcases rng s 0 2 (by omega) (by omega) with ⟨so, -, hso, rfl, e4⟩ | ⟨-, e4⟩
      · rw [show fX9_in (nI so) 0 2 = _ from e4, bd1, bd1, show bB 1 = true from rfl, ck_t rfl, bd1, jf1, jf1]
        rcases rng p 1 9 (by omega) (by omega) with ⟨cap, hc1, hc9, rfl, e5⟩ | ⟨-, e5⟩
        · rw [show fX9_in (nI cap) 1 9 = _ from e5, bd1, bd1, if1, if1, show I 2 4 = _ from hC.1.1.1.2.2.1, hM.1 2 (by omega)]
          by_cases q : A.1 2 = 8
          · rw [ifn (show ¬ nI (A.1 2) < (8 : Int32) from fun z => by have := (nI_ltI (b := 8) (by omega) (by omega)).mp z; omega), ifn (show ¬ ¬ nI (A.1 2) = (8 : Int32) from fun z => z (by rw [q]; rfl))]
            exact refuse hG hC hM _
          · have hw : A.1 2 < 8 := by omega
            rw [ifp (show nI (A.1 2) < (8 : Int32) from (nI_ltI (b := 8) (by omega) (by omega)).mpr hw), ifp (show ¬ nI (A.1 2) = (8 : Int32) from fun z => q ((eqN (b := 8) (by omega) (by omega)).mp z))]
            obtain ⟨I1, P1, J1, r1, r2, r3, r4, r6, -, r5⟩ := doIt hG hC hM
            rw [r1, r2, bd1, bd1]
            simp only []
            have hwa : fX4_walkerAt (up2 I1 2 4 (nI (A.1 2 + 1))) 2 (nI (A.1 2)) = some (some (7 + A.1 2)) := walkerAt_C (ρ := fun _ => A.1 2 + 1) up2_a (by show A.1 2 + 1 ≤ 8; omega) (by show A.1 2 < A.1 2 + 1; omega)
            rw [nI_1, bd1, hwa, bd1, r4 2 (by omega)]
            simp only []
            unfold fX6_begin
            rw [bd1, bd1, bd1, bd1, bd1, bd1, bd1, bd1, bd1, bd1]
            obtain ⟨J2, t1, t2, t3⟩ := zero_lp hw r4 (fun I13 => (fX9_lay I13 (nI (A.1 2)) 0 (nI r)).bind fun v14 => (fX9_lay v14 (nI (A.1 2)) 1 (nI c)).bind fun v15 => (fX9_lay v15 (nI (A.1 2)) 2 (nI d)).bind fun v16 => (fX9_lay v16 (nI (A.1 2)) 5 (nI so)).bind fun v17 => (fX9_lay v17 (nI (A.1 2)) 4 (nI cap)).bind fun v18 => (some (up2 v18 135 2 ((v18 135 2) + 1))).bind fun I19 => (fX9_done I19 (nI (A.1 2))).bind fun v20 => some (v20.1, v20.2)) (nI r) (nI c) (nI d) (nI so) (nI cap)
            rw [t1, show fX9_lay J2 (nI (A.1 2)) 0 (nI r) = _ from m_lay hw 0 (by omega) _, bd1, show fX9_lay _ (nI (A.1 2)) 1 (nI c) = _ from m_lay hw 1 (by omega) _, bd1, show fX9_lay _ (nI (A.1 2)) 2 (nI d) = _ from m_lay hw 2 (by omega) _, bd1, show fX9_lay _ (nI (A.1 2)) 5 (nI so) = _ from m_lay hw 5 (by omega) _, bd1, show fX9_lay _ (nI (A.1 2)) 4 (nI cap) = _ from m_lay hw 4 (by omega) _, bd1]
            have m5 := t2.up (k := wI (A.1 2) 0) (v := r) |>.up (k := wI (A.1 2) 1) (v := c) |>.up (k := wI (A.1 2) 2) (v := d) |>.up (k := wI (A.1 2) 5) (v := so) |>.up (k := wI (A.1 2) 4) (v := cap)
            have m2 := m5 2 (by omega)
            rw [stR_n (by unfold wI; omega), stR_n (by unfold wI; omega), stR_n (by unfold wI; omega), stR_n (by unfold wI; omega), stR_n (by unfold wI; omega), show zwR A.1 (A.1 2) 9 2 = A.1 2 from if_neg (by omega)] at m2
            rw [m2, nI_1, bd1]
            have hGn := hG.1.aw (r := r) (c := c) (d := d) (so := so) (cap := cap) hw hr hc hd hso hc1 hc9
            obtain ⟨J3, d1, d2, d3, d4, d5, d6⟩ := r5 (awR A.1 r c d so cap) (up2 (up2 (up2 (up2 (up2 (up2 (up2 (up2 (up2 (up2 I1 2 4 (nI (A.1 2 + 1))) (7 + A.1 2) 0 (nI r)) (7 + A.1 2) 1 (nI c)) (7 + A.1 2) 2 (nI d)) (7 + A.1 2) 3 0) (7 + A.1 2) 4 (nI cap)) (7 + A.1 2) 5 (nI so)) (7 + A.1 2) 6 0) (7 + A.1 2) 7 0) (7 + A.1 2) 8 0) _ (nI (A.1 2)) hGn
              (fun a ha => by simp only [up2_n (show a ≠ 7 + A.1 2 by omega), up2_n (show a ≠ 2 by omega)])
              (r3.aw hG.1 hw (by simp only [up2_n (show 2 ≠ 7 + A.1 2 by omega)]; exact up2_a) (fun j hj => by simp only [up2_n (show 2 ≠ 7 + A.1 2 by omega)]; exact up2_b hj) (fun a ha hb => by simp only [up2_n hb, up2_n ha]) (fun f hf => by
                rw [aw_w hw hf]
                have hf' : f = 0 ∨ f = 1 ∨ f = 2 ∨ f = 3 ∨ f = 4 ∨ f = 5 ∨ f = 6 ∨ f = 7 ∨ f = 8 := by omega
                simp only [up2_at]
                rcases hf' with e | e | e | e | e | e | e | e | e <;> subst e <;> rfl))
              (t3.tr (FM1.up.tr (FM1.up.tr (FM1.up.tr (FM1.up.tr (FM1.up.tr FM1.up)))))) (m5.up (k := 2) (v := A.1 2 + 1))
            rw [d1, bd1]
            exact ⟨_, _, P1, J3, _, rfl, rfl, d2, d3, d4, d5, d6⟩
        · rw [show fX9_in p 1 9 = _ from e5, bd1, bd1, if0, if0]
          exact refuse hG hC hM _
      · rw [show fX9_in s 0 2 = _ from e4, bd1, bd1, show bB 0 = true from rfl, ck_t rfl, bd1, jf0, jf0]
        exact refuse hG hC hM _
    · rw [show fX9_in z 0 3 = _ from e3, bd1, bd1, jf0, jf0]
      exact refuse hG hC hM _
  · rw [e1, e2, bd1, bd1, ifn (by decide), if0]
    exact refuse hG hC hM _
