/-! the class's acts upon its state -/
theorem hasCell_C {I : II} {ρ : Nat → Nat} {b : Nat} (h : CS I b ρ) (hB : Bd ρ) (x y : Int32) : (okC (ρ 0) (ρ 1) x y → fX4_hasCell I b x y = some 1) ∧ (¬ okC (ρ 0) (ρ 1) x y → fX4_hasCell I b x y = some 0) := by
  have r2 := hB.1.2
  have c2 := hB.2.1.2
  have t0 : (nI (ρ 0)).toInt = ((ρ 0 : Nat) : Int) := nI_toInt (by omega)
  have t1 : (nI (ρ 1)).toInt = ((ρ 1 : Nat) : Int) := nI_toInt (by omega)
  have z0 : (0 : Int32).toInt = 0 := by decide
  unfold fX4_hasCell
  rw [h.1.1, h.1.2.1]
  simp only [Int32.le_iff_toInt_le, Int32.lt_iff_toInt_lt, t0, t1, z0]
  unfold okC
  constructor
  · rintro ⟨⟨a1, a2⟩, a3, a4⟩
    rw [ifn (by omega), ifn (by omega), ifn (by omega), ifn (by omega)]
  · intro hn
    by_cases q1 : x.toInt < 0
    · rw [ifp q1]
    · rw [ifn q1]
      by_cases q2 : (ρ 0 : Int) ≤ x.toInt
      · rw [ifp q2]
      · rw [ifn q2]
        by_cases q3 : y.toInt < 0
        · rw [ifp q3]
        · rw [ifn q3, ifp (by omega)]
theorem chipsOf_C {I : II} {b c : Nat} (hc : c < 256) : fX4_chipsOf I b (nI c) = some (I (b + 1) c) := by
  unfold fX4_chipsOf
  rw [ifn (fun z => by have := (nI_ltI (b := 0) (by omega) (by omega)).mp z; omega), ifn (fun z => by have := (leN (a := 256) (by omega) (by omega)).mp z; omega), ckN hc (by omega), tnN (show c < 2 ^ 31 by omega)]
theorem chipsOf_m1 {I : II} {b : Nat} : fX4_chipsOf I b (-1) = some 0 := ifp m1_neg
theorem setChips_C {I : II} {ρ : Nat → Nat} (h : CR I ρ) (hG : Good ρ) {c v : Nat} (hc : c < 256) (hv : v ≤ 99) : ∃ I', fX7_setChips I (nI c) (nI v) = some I' ∧ CR I' (stR ρ (9 + c) v) ∧ (∀ a, a ≠ 3 → (a < 15 ∨ 20 < a) → I' a = I a) ∧ I' 3 = upd (I 3) c (nI v) := by
  obtain ⟨⟨h1, h2, h3, h4, h5⟩, hH⟩ := h
  have hb := hG.1.2.2.1
  have g2 := hG.2.1
  have g3 := hG.2.2.1
  unfold fX7_setChips
  rw [ifn (fun z => by have := (nI_ltI (b := 0) (by omega) (by omega)).mp z; omega), ifp (show nI c < (256 : Int32) from (nI_ltI (b := 256) (by omega) (by omega)).mpr hc), ckN hc (by omega), ckN hc (by omega), tnN (show c < 2 ^ 31 by omega), show I 3 c = nI (gR ρ c) from h2 c hc, bd1]
  obtain ⟨I', f1, f2, f3⟩ := follow_sp (I := up2 I 3 c (nI v)) (c := c) (v := v) hb (hH.fm (fun a _ _ => up2_n (by omega))) hc hv
  rw [f1, bd1]
  have fr : ∀ a, a ≠ 3 → (a < 15 ∨ 20 < a) → I' a = I a := fun a ha hb => by rw [f3 a hb, up2_n ha]
  have e3 : I' 3 = upd (I 3) c (nI v) := by rw [f3 3 (by omega), up2_s]
  refine ⟨I', rfl, ⟨⟨?_, fun i hi => ?_, ?_, fun t ht => ?_, fun w f hw hf => ?_⟩, ?_⟩, fr, e3⟩
  · rw [fr 2 (by omega) (by omega), stR_n (by omega), stR_n (by omega), stR_n (by omega), stR_n (by omega), stR_n (by omega)]
    exact h1
  · rw [f3 3 (by omega), up2_at, gR_st]
    show _ = nI (if i = c then v else gR ρ i)
    by_cases e : i = c
    · rw [if_pos e, if_pos e]
    · rw [if_neg e, if_neg e]
      exact h2 i hi
  · rw [fr 5 (by omega) (by omega), stR_n (by omega), stR_n (by omega), stR_n (by omega)]
    exact h3
  · rw [fr 6 (by omega) (by omega), stR_n (by omega)]
    rw [stR_n (by omega)] at ht
    exact h4 t ht
  · rw [stR_n (by omega)] at hw
    rw [fr _ (by omega) (by omega), stR_n (by unfold wI; omega)]
    exact h5 w f hw hf
  · rw [gR_st]
    exact f2
theorem CR.wk {I : II} {ρ : Nat → Nat} (h : CR I ρ) (g2 : ρ 2 ≤ 8) (g3 : ρ 3 ≤ 30) {w f v : Nat} (hw : w < ρ 2) (hf : f < 9) : CR (up2 I (7 + w) f (nI v)) (stR ρ (wI w f) v) := by
  obtain ⟨⟨h1, h2, h3, h4, h5⟩, hH⟩ := h
  have hwI := wI_lt (show w < 8 by omega) hf
  refine ⟨⟨?_, fun i hi => ?_, ?_, fun t ht => ?_, fun u e hu he => ?_⟩, ?_⟩
  · rw [up2_n (by omega), stR_n (by omega), stR_n (by omega), stR_n (by omega), stR_n (by omega), stR_n (by omega)]
    exact h1
  · rw [up2_n (by omega), gR_so (by omega) i hi]
    exact h2 i hi
  · rw [up2_n (by omega), stR_n (by omega), stR_n (by omega), stR_n (by omega)]
    exact h3
  · rw [stR_n (by omega)] at ht
    rw [up2_n (by omega), stR_n (by omega)]
    exact h4 t ht
  · rw [stR_n (by omega)] at hu
    show up2 I (7 + w) f (nI v) (7 + u) e = _
    by_cases e1 : u = w
    · rw [e1, up2_at]
      by_cases e2 : e = f
      · rw [if_pos e2, e2, stR_s]
      · rw [if_neg e2, stR_n (wI_ne he hf (by omega))]
        exact h5 w e hw he
    · rw [up2_n (by omega), stR_n (wI_ne he hf (by omega))]
      exact h5 u e hu he
  · exact HC_congr (hH.fm (fun a _ _ => up2_n (by omega))) (gR_so (by omega))
theorem CR.fl {I : II} {ρ : Nat → Nat} (h : CR I ρ) {w f : Nat} (hw : w < ρ 2) (hf : f < 9) : I (7 + w) f = nI (ρ (wI w f)) := h.1.2.2.2.2 w f hw hf
theorem cell_C {I : II} {ρ : Nat → Nat} (h : CR I ρ) {w : Nat} (hw : w < ρ 2) : fX6_cell I (7 + w) = some (nI (cw ρ w)) := by
  unfold fX6_cell
  rw [h.fl hw (by omega), h.fl hw (by omega), show (16 : Int32) = nI 16 from rfl, pk_mul, nI_add, Nat.mul_comm]
  rfl
theorem under_C {I : II} {ρ : Nat → Nat} (h : CR I ρ) (hG : Good ρ) {w : Nat} (hw : w < ρ 2) : fX7_chipsUnder I (7 + w) = some (nI (gR ρ (cw ρ w))) := by
  have hc := ((hG.2.2.2.2.2.1 w hw).cell hG.1).1
  unfold fX7_chipsUnder
  rw [cell_C h hw, bd1, chipsOf_C hc, bd1, show I 3 (cw ρ w) = _ from h.1.2.1 _ hc]
theorem sub_neg (a b : Int32) : a - (-b) = a + b := by rw [Int32.sub_eq_add_neg, Int32.neg_neg]
theorem negle {n : Nat} (hn : n < 2 ^ 31) : -(nI n) ≤ (0 : Int32) := by
  rw [Int32.le_iff_toInt_le, Int32.toInt_neg, nI_toInt hn]
  show (-(n : Int)).bmod _ ≤ 0
  rw [Int.bmod_eq_of_le (by omega) (by omega)]
  omega
theorem pick_C {I : II} {ρ : Nat → Nat} (h : CR I ρ) (hG : Good ρ) {w n : Nat} (hw : w < ρ 2) (h0 : 0 < n) (hn : n ≤ gR ρ (cw ρ w)) : ∃ I', fX7_pickUp I (7 + w) (nI n) = some I' ∧ CR I' (pkR ρ w n) ∧ FC I I' := by
  have hc := ((hG.2.2.2.2.2.1 w hw).cell hG.1).1
  have hb := hG.1.2.2.1 _ hc
  have g2 := hG.2.1
  unfold fX7_pickUp
  rw [cell_C h hw, bd1, under_C h hG hw, bd1, pk_sub hn]
  obtain ⟨J, s1, s2, s3, s4⟩ := setChips_C h hG hc (show gR ρ (cw ρ w) - n ≤ 99 by omega)
  rw [s1, bd1, s3 (7 + w) (by omega) (by omega), h.fl hw (by omega), nI_add, bd1, ifn (fun z => by have := (leN (b := 0) (by omega) (by omega)).mp z; omega), up2_b (by omega), s3 (7 + w) (by omega) (by omega), h.fl hw (by omega), nI_add, bd1]
  have g3 := hG.2.2.1.2
  have k1 := (s2.wk (by rw [stR_n (by omega)]; exact g2) (by rw [stR_n (by omega)]; exact g3) (w := w) (f := 3) (v := ρ (wI w 3) + n) (by rw [stR_n (by omega)]; exact hw) (by omega)).wk (by rw [stR_n (by unfold wI; omega), stR_n (by omega)]; exact g2) (by rw [stR_n (by unfold wI; omega), stR_n (by omega)]; exact g3) (w := w) (f := 7) (v := ρ (wI w 7) + n) (by rw [stR_n (by unfold wI; omega), stR_n (by omega)]; exact hw) (by omega)
  refine ⟨_, rfl, k1, fun a ha => ?_⟩
  rw [up2_n (by omega), up2_n (by omega), s3 a (by omega) (by omega)]
theorem drop_C {I : II} {ρ : Nat → Nat} (h : CR I ρ) (hG : Good ρ) {w n : Nat} (hw : w < ρ 2) (h9 : gR ρ (cw ρ w) + n ≤ 99) (hn : n ≤ ρ (wI w 3)) : ∃ I', fX7_pickUp I (7 + w) (-(nI n)) = some I' ∧ CR I' (drR ρ w n) ∧ FC I I' := by
  have hc := ((hG.2.2.2.2.2.1 w hw).cell hG.1).1
  have g2 := hG.2.1
  have g3 := hG.2.2.1.2
  unfold fX7_pickUp
  rw [cell_C h hw, bd1, under_C h hG hw, bd1, sub_neg, nI_add]
  obtain ⟨J, s1, s2, s3, s4⟩ := setChips_C h hG hc h9
  have e3 : nI (ρ (wI w 3)) + -(nI n) = nI (ρ (wI w 3) - n) := by rw [← Int32.sub_eq_add_neg, pk_sub hn]
  rw [s1, bd1, s3 (7 + w) (by omega) (by omega), h.fl hw (by omega), e3, bd1, ifp (negle (by omega)), up2_b (by omega), s3 (7 + w) (by omega) (by omega), h.fl hw (by omega), sub_neg, nI_add, bd1]
  have k1 := (s2.wk (by rw [stR_n (by omega)]; exact g2) (by rw [stR_n (by omega)]; exact g3) (w := w) (f := 3) (v := ρ (wI w 3) - n) (by rw [stR_n (by omega)]; exact hw) (by omega)).wk (by rw [stR_n (by unfold wI; omega), stR_n (by omega)]; exact g2) (by rw [stR_n (by unfold wI; omega), stR_n (by omega)]; exact g3) (w := w) (f := 8) (v := ρ (wI w 8) + n) (by rw [stR_n (by unfold wI; omega), stR_n (by omega)]; exact hw) (by omega)
  refine ⟨_, rfl, k1, fun a ha => ?_⟩
  rw [up2_n (by omega), up2_n (by omega), s3 a (by omega) (by omega)]
theorem CR.st {I : II} {ρ : Nat → Nat} (h : CR I ρ) (g2 : ρ 2 ≤ 8) {k v : Nat} (hk : k = 6 ∨ k = 7) : CR (up2 I 2 k (nI v)) (stR ρ k v) := by
  obtain ⟨⟨h1, h2, h3, h4, h5⟩, hH⟩ := h
  obtain ⟨a0, a1, a4, a6, a7⟩ := h1
  refine ⟨⟨?_, fun i hi => ?_, ?_, fun t ht => ?_, fun u e hu he => ?_⟩, ?_⟩
  · rw [up2_b (by omega), up2_b (by omega), up2_b (by omega), stR_n (show 0 ≠ k by omega), stR_n (show 1 ≠ k by omega), stR_n (show 2 ≠ k by omega)]
    refine ⟨a0, a1, a4, ?_, ?_⟩
    · rw [up2_at]
      by_cases e : 6 = k
      · rw [if_pos e, ← e, stR_s]
      · rw [if_neg e, stR_n e]; exact a6
    · rw [up2_at]
      by_cases e : 7 = k
      · rw [if_pos e, ← e, stR_s]
      · rw [if_neg e, stR_n e]; exact a7
  · rw [up2_n (by omega), gR_so (by omega) i hi]
    exact h2 i hi
  · rw [up2_n (by omega), stR_n (by omega), stR_n (by omega), stR_n (by omega)]
    exact h3
  · rw [stR_n (by omega)] at ht
    rw [up2_n (by omega), stR_n (by omega)]
    exact h4 t ht
  · rw [stR_n (by omega)] at hu
    rw [up2_n (by omega), stR_n (by unfold wI; omega)]
    exact h5 u e hu he
  · exact HC_congr (hH.fm (fun a _ _ => up2_n (by omega))) (gR_so (by omega))
theorem CR.pl {I : II} {ρ : Nat → Nat} (h : CR I ρ) (g2 : ρ 2 ≤ 8) {v : Nat} : CR (up2 I 5 2 (nI v)) (stR ρ 4 v) := by
  obtain ⟨⟨h1, h2, h3, h4, h5⟩, hH⟩ := h
  refine ⟨⟨?_, fun i hi => ?_, ?_, fun t ht => ?_, fun u e hu he => ?_⟩, ?_⟩
  · rw [up2_n (by omega), stR_n (by omega), stR_n (by omega), stR_n (by omega), stR_n (by omega), stR_n (by omega)]
    exact h1
  · rw [up2_n (by omega), gR_so (by omega) i hi]
    exact h2 i hi
  · show up2 I 5 2 (nI v) 5 1 = _ ∧ up2 I 5 2 (nI v) 5 2 = _ ∧ up2 I 5 2 (nI v) 5 3 = _
    rw [up2_b (by omega), up2_a, up2_b (by omega), stR_n (show 3 ≠ 4 by omega), stR_s, stR_n (show 5 ≠ 4 by omega)]
    exact ⟨h3.1, rfl, h3.2.2⟩
  · rw [stR_n (by omega)] at ht
    rw [up2_n (by omega), stR_n (by omega)]
    exact h4 t ht
  · rw [stR_n (by omega)] at hu
    rw [up2_n (by omega), stR_n (by unfold wI; omega)]
    exact h5 u e hu he
  · exact HC_congr (hH.fm (fun a _ _ => up2_n (by omega))) (gR_so (by omega))
theorem up2_up2 {I : II} {a k : Nat} {v w : Int32} : up2 (up2 I a k v) a k w = up2 I a k w := by
  funext x y
  by_cases e : x = a
  · subst e
    rw [up2_at, up2_at, up2_at]
    by_cases f : y = k
    · rw [if_pos f, if_pos f]
    · rw [if_neg f, if_neg f, if_neg f]
  · rw [up2_n e, up2_n e, up2_n e]
theorem next_C {I : II} {ρ : Nat → Nat} (h : CR I ρ) (hG : Good ρ) : ∃ I', fX5_takeNext I 5 = some (nI (ρ (337 + ρ 4)), I') ∧ CR I' (stR ρ 4 ((ρ 4 + 1) % ρ 3)) ∧ FC I I' := by
  have g3 := hG.2.2.1
  have g4 := hG.2.2.2.1
  have e2 : I 5 2 = nI (ρ 4) := h.1.2.2.1.2.1
  have e1 : I 5 1 = nI (ρ 3) := h.1.2.2.1.1
  have e6 : I 6 (ρ 4) = nI (ρ (337 + ρ 4)) := h.1.2.2.2.1 _ g4
  unfold fX5_takeNext
  rw [e2, ifn (fun z => by have := (nI_ltI (b := 0) (by omega) (by omega)).mp z; omega), ifp (show nI (ρ 4) < (30 : Int32) from (nI_ltI (b := 30) (by omega) (by omega)).mpr (by omega)), ckN (show ρ 4 < 30 by omega) (by omega), nI_1, bd1, up2_a, up2_b (by omega), e1, tnN (show ρ 4 < 2 ^ 31 by omega)]
  by_cases q : ρ 4 + 1 < ρ 3
  · rw [ifp ((nI_ltI (by omega) (by omega)).mpr q)]
    refine ⟨up2 I 5 2 (nI (ρ 4 + 1)), by rw [show I (5 + 1) (ρ 4) = _ from e6], ?_, fun a ha => up2_n (by omega)⟩
    rw [Nat.mod_eq_of_lt q]
    exact h.pl hG.2.1
  · rw [ifn (fun z => q ((nI_ltI (by omega) (by omega)).mp z)), bd1, up2_up2]
    refine ⟨up2 I 5 2 (nI 0), by rw [show I (5 + 1) (ρ 4) = _ from e6]; rfl, ?_, fun a ha => up2_n (by omega)⟩
    rw [show ρ 4 + 1 = ρ 3 by omega, Nat.mod_self]
    exact h.pl hG.2.1
theorem right_C {a b : Nat} (ha : a < 100) (hb : b < 100) : fX7_toTheRight (nI a) (nI b) = some (nI ((a + b) % 4)) := by
  unfold fX7_toTheRight
  rw [nI_add, show rm (nI (a + b)) 4 = nI ((a + b) % 4) from rmN (d := 4) (by omega) (by omega) (by omega)]
theorem turned_C {a x : Nat} (ha : a < 4) (hx : x ≤ 9) : fX7_turned (nI a) (nI x) = some (nI ((a + tn x) % 4)) := by
  have l5 : (nI x = (5 : Int32)) ↔ x = 5 := nI_eq (b := 5) (by omega) (by omega)
  have l6 : (nI x = (6 : Int32)) ↔ x = 6 := nI_eq (b := 6) (by omega) (by omega)
  have l7 : (nI x = (7 : Int32)) ↔ x = 7 := nI_eq (b := 7) (by omega) (by omega)
  have l8 : (nI x = (8 : Int32)) ↔ x = 8 := nI_eq (b := 8) (by omega) (by omega)
  have l9 : (nI x = (9 : Int32)) ↔ x = 9 := nI_eq (b := 9) (by omega) (by omega)
  unfold fX7_turned
  by_cases q5 : x = 5
  · rw [ifp (l5.mpr q5), q5, show fX7_toTheRight (nI a) 1 = _ from right_C (b := 1) (by omega) (by omega)]; rfl
  · rw [ifn (fun z => q5 (l5.mp z))]
    by_cases q6 : x = 6
    · rw [ifp (l6.mpr q6), q6, show fX7_toTheRight (nI a) 1 = _ from right_C (b := 1) (by omega) (by omega)]; rfl
    · rw [ifn (fun z => q6 (l6.mp z))]
      by_cases q7 : x = 7
      · rw [ifp (l7.mpr q7), q7, show fX7_toTheRight (nI a) 3 = _ from right_C (b := 3) (by omega) (by omega)]; rfl
      · rw [ifn (fun z => q7 (l7.mp z))]
        by_cases q8 : x = 8
        · rw [ifp (l8.mpr q8), q8, show fX7_toTheRight (nI a) 3 = _ from right_C (b := 3) (by omega) (by omega)]; rfl
        · rw [ifn (fun z => q8 (l8.mp z))]
          by_cases q9 : x = 9
          · rw [ifp (l9.mpr q9), q9, show fX7_toTheRight (nI a) 2 = _ from right_C (b := 2) (by omega) (by omega)]; rfl
          · rw [ifn (fun z => q9 (l9.mp z))]
            have : tn x = 0 := if_pos (by omega)
            rw [this, Nat.add_zero, Nat.mod_eq_of_lt ha]
def rA (r d : Nat) : Int32 := if d = 0 then nI r - 1 else if d = 2 then nI r + 1 else nI r
theorem rowA_C {I : II} {a d : Nat} (hd : d < 4) : fX7_rowAhead I a (nI d) = some (if d = 0 then I a 0 - 1 else if d = 2 then I a 0 + 1 else I a 0) := by
  unfold fX7_rowAhead
  have hd' : d = 0 ∨ d = 1 ∨ d = 2 ∨ d = 3 := by omega
  rcases hd' with e | e | e | e <;> subst e
  · rw [ifn (fun z => z rfl)]; rfl
  · rw [ifp (by decide), ifp (by decide)]; rfl
  · rw [ifp (by decide), ifn (fun z => z rfl)]; rfl
  · rw [ifp (by decide), ifp (by decide)]; rfl
theorem colA_C {I : II} {a d : Nat} (hd : d < 4) : fX7_columnAhead I a (nI d) = some (if d = 1 then I a 1 + 1 else if d = 3 then I a 1 - 1 else I a 1) := by
  unfold fX7_columnAhead
  have hd' : d = 0 ∨ d = 1 ∨ d = 2 ∨ d = 3 := by omega
  rcases hd' with e | e | e | e <;> subst e
  · rw [ifp (by decide), ifp (by decide)]; rfl
  · rw [ifn (fun z => z rfl)]; rfl
  · rw [ifp (by decide), ifp (by decide)]; rfl
  · rw [ifp (by decide), ifn (fun z => z rfl)]; rfl
theorem fre0 {ρ : Nat → Nat} {c : Nat} (h1 : c / 16 < ρ 0) (h2 : c % 16 < ρ 1) (h3 : ρ 0 ≤ 16) : (Fre ρ c 0 ↔ 1 ≤ c / 16) ∧ (1 ≤ c / 16 → nbr c 0 / 16 = c / 16 - 1 ∧ nbr c 0 % 16 = c % 16) := by
  unfold Fre
  by_cases z : c < 16
  · rw [show nbr c 0 = 256 from if_pos z]; omega
  · rw [show nbr c 0 = c - 16 from if_neg z]; omega
theorem fre1 {ρ : Nat → Nat} {c : Nat} (h1 : c / 16 < ρ 0) (h2 : c % 16 < ρ 1) (h3 : ρ 0 ≤ 16) (h4 : ρ 1 ≤ 16) : (Fre ρ c 1 ↔ c % 16 + 1 < ρ 1) ∧ (c % 16 + 1 < ρ 1 → nbr c 1 / 16 = c / 16 ∧ nbr c 1 % 16 = c % 16 + 1) := by
  unfold Fre
  by_cases z : c % 16 = 15
  · rw [show nbr c 1 = 256 from if_pos z]; omega
  · rw [show nbr c 1 = c + 1 from if_neg z]; omega
theorem fre2 {ρ : Nat → Nat} {c : Nat} (h1 : c / 16 < ρ 0) (h2 : c % 16 < ρ 1) (h3 : ρ 0 ≤ 16) : (Fre ρ c 2 ↔ c / 16 + 1 < ρ 0) ∧ (c / 16 + 1 < ρ 0 → nbr c 2 / 16 = c / 16 + 1 ∧ nbr c 2 % 16 = c % 16) := by
  unfold Fre
  by_cases z : 240 ≤ c
  · rw [show nbr c 2 = 256 from if_pos z]; omega
  · rw [show nbr c 2 = c + 16 from if_neg z]; omega
theorem fre3 {ρ : Nat → Nat} {c : Nat} (h1 : c / 16 < ρ 0) (h2 : c % 16 < ρ 1) (h3 : ρ 0 ≤ 16) : (Fre ρ c 3 ↔ 1 ≤ c % 16) ∧ (1 ≤ c % 16 → nbr c 3 / 16 = c / 16 ∧ nbr c 3 % 16 = c % 16 - 1) := by
  unfold Fre
  by_cases z : c % 16 = 0
  · rw [show nbr c 3 = 256 from if_pos z]; omega
  · rw [show nbr c 3 = c - 1 from if_neg z]; omega
theorem wall_C {I : II} {ρ : Nat → Nat} (h : CR I ρ) (hG : Good ρ) {w d : Nat} (hw : w < ρ 2) (hd : d < 4) : (Fre ρ (cw ρ w) d → fX7_hasWall I (7 + w) (nI d) = some 0) ∧ (¬ Fre ρ (cw ρ w) d → fX7_hasWall I (7 + w) (nI d) = some 1) ∧ (Fre ρ (cw ρ w) d → fX7_rowAhead I (7 + w) (nI d) = some (nI (nbr (cw ρ w) d / 16)) ∧ fX7_columnAhead I (7 + w) (nI d) = some (nI (nbr (cw ρ w) d % 16))) := by
  have hB := hG.1
  have hW := hG.2.2.2.2.2.1 w hw
  have hc := hW.cell hB
  have b1 := hB.1
  have b2 := hB.2.1
  obtain ⟨w1, w2, -⟩ := hW
  have e0 := h.fl hw (f := 0) (by omega)
  have e1 := h.fl hw (f := 1) (by omega)
  have hr := rowA_C (I := I) (a := 7 + w) hd
  have hk := colA_C (I := I) (a := 7 + w) hd
  rw [e0] at hr
  rw [e1] at hk
  obtain ⟨c1, c2, c3, c4, c5⟩ := hc
  rw [← c2] at hr w1
  rw [← c3] at hk w2
  clear hG e0 e1 hw c2 c3
  generalize hcw : cw ρ w = c at *
  -- the next row and column as whole numbers, and whether they lie on the board
  have key : ∀ (x y : Int32), fX7_rowAhead I (7 + w) (nI d) = some x → fX7_columnAhead I (7 + w) (nI d) = some y → (Fre ρ c d → okC (ρ 0) (ρ 1) x y) → (¬ Fre ρ c d → ¬ okC (ρ 0) (ρ 1) x y) → (Fre ρ c d → fX7_hasWall I (7 + w) (nI d) = some 0) ∧ (¬ Fre ρ c d → fX7_hasWall I (7 + w) (nI d) = some 1) := by
    intro x y hx hy g1 g2
    have hh := hasCell_C h.1 hB x y
    unfold fX7_hasWall
    rw [hx, bd1, hy, bd1]
    constructor
    · intro q
      rw [hh.1 (g1 q), bd1, ifp (by decide)]
    · intro q
      rw [hh.2 (g2 q), bd1, ifn (by decide)]
  have m1i : ∀ {a : Nat}, a < 100 → (nI a - 1).toInt = (a : Int) - 1 := fun ha => pk_sub_toInt (b := 1) (by omega) (by omega)
  obtain ⟨b10, b11⟩ := b1
  obtain ⟨b20, b21⟩ := b2
  have k0 := fre0 c4 c5 b11
  have k1 := fre1 c4 c5 b11 b21
  have k2 := fre2 c4 c5 b11
  have k3 := fre3 c4 c5 b11
  generalize hr0 : c / 16 = r at *
  generalize hk0 : c % 16 = k at *
  have tr : (nI r).toInt = (r : Int) := nI_toInt (by omega)
  have tk : (nI k).toInt = (k : Int) := nI_toInt (by omega)
  have tr1 : (nI r + 1).toInt = (r : Int) + 1 := by rw [nI_1, nI_toInt (by omega)]; rfl
  have tk1 : (nI k + 1).toInt = (k : Int) + 1 := by rw [nI_1, nI_toInt (by omega)]; rfl
  have tr2 := m1i (a := r) (by omega)
  have tk2 := m1i (a := k) (by omega)
  have hd' : d = 0 ∨ d = 1 ∨ d = 2 ∨ d = 3 := by omega
  rcases hd' with e | e | e | e <;> subst e
  · have hr2 : fX7_rowAhead I (7 + w) (nI 0) = some (nI r - 1) := hr
    have hk2 : fX7_columnAhead I (7 + w) (nI 0) = some (nI k) := hk
    obtain ⟨f1, f2⟩ := key _ _ hr2 hk2 (by rw [k0.1]; unfold okC; rw [tr2, tk]; omega) (by rw [k0.1]; unfold okC; rw [tr2, tk]; omega)
    refine ⟨f1, f2, fun q => ?_⟩
    rw [k0.1] at q
    rw [hr2, hk2, show nI r - 1 = nI (r - 1) from pk_sub (b := 1) q, (k0.2 q).1, (k0.2 q).2]
    exact ⟨rfl, rfl⟩
  · have hr2 : fX7_rowAhead I (7 + w) (nI 1) = some (nI r) := hr
    have hk2 : fX7_columnAhead I (7 + w) (nI 1) = some (nI k + 1) := hk
    obtain ⟨f1, f2⟩ := key _ _ hr2 hk2 (by rw [k1.1]; unfold okC; rw [tr, tk1]; omega) (by rw [k1.1]; unfold okC; rw [tr, tk1]; omega)
    refine ⟨f1, f2, fun q => ?_⟩
    rw [k1.1] at q
    rw [hr2, hk2, nI_1, (k1.2 q).1, (k1.2 q).2]
    exact ⟨rfl, rfl⟩
  · have hr2 : fX7_rowAhead I (7 + w) (nI 2) = some (nI r + 1) := hr
    have hk2 : fX7_columnAhead I (7 + w) (nI 2) = some (nI k) := hk
    obtain ⟨f1, f2⟩ := key _ _ hr2 hk2 (by rw [k2.1]; unfold okC; rw [tr1, tk]; omega) (by rw [k2.1]; unfold okC; rw [tr1, tk]; omega)
    refine ⟨f1, f2, fun q => ?_⟩
    rw [k2.1] at q
    rw [hr2, hk2, nI_1, (k2.2 q).1, (k2.2 q).2]
    exact ⟨rfl, rfl⟩
  · have hr2 : fX7_rowAhead I (7 + w) (nI 3) = some (nI r) := hr
    have hk2 : fX7_columnAhead I (7 + w) (nI 3) = some (nI k - 1) := hk
    obtain ⟨f1, f2⟩ := key _ _ hr2 hk2 (by rw [k3.1]; unfold okC; rw [tr, tk2]; omega) (by rw [k3.1]; unfold okC; rw [tr, tk2]; omega)
    refine ⟨f1, f2, fun q => ?_⟩
    rw [k3.1] at q
    rw [hr2, hk2, show nI k - 1 = nI (k - 1) from pk_sub (b := 1) q, (k3.2 q).1, (k3.2 q).2]
    exact ⟨rfl, rfl⟩
