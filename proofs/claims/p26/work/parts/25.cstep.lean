/-! the class's steps upon its state -/
theorem mnN {a b : Nat} (ha : a < 2 ^ 31) (hb : b < 2 ^ 31) : mn (nI a) (nI b) = nI (min a b) := by
  unfold mn
  by_cases h : b < a
  · rw [if_pos ((nI_ltI hb ha).mpr h), Nat.min_eq_right (by omega)]
  · rw [if_neg (fun z => h ((nI_ltI hb ha).mp z)), Nat.min_eq_left (by omega)]
theorem act_C {I : II} {ρ : Nat → Nat} (h : CR I ρ) (hG : Good ρ) (hC : CH I (gR ρ)) {w : Nat} (hw : w < ρ 2) : ∃ v I', fX7_pickedBySort I (7 + w) = some v ∧ fX7_pickUp I (7 + w) v = some I' ∧ CR I' (actR ρ w) ∧ FC I I' := by
  have hW := hG.2.2.2.2.2.1 w hw
  have hc := (hW.cell hG.1).1
  have hb := hG.1.2.2.1
  have hgc := hb _ hc
  obtain ⟨-, -, -, w4, w5, w6⟩ := hW
  have e3 := h.fl hw (f := 3) (by omega)
  have e4 := h.fl hw (f := 4) (by omega)
  have e5 := h.fl hw (f := 5) (by omega)
  have z0 : (nI (gR ρ (cw ρ w)) = (0 : Int32)) ↔ gR ρ (cw ρ w) = 0 := eqN (b := 0) (by omega) (by omega)
  have p0 : (nI (ρ (wI w 3)) = (0 : Int32)) ↔ ρ (wI w 3) = 0 := eqN (b := 0) (by omega) (by omega)
  have q0 : (nI (ρ (wI w 5)) = (0 : Int32)) ↔ ρ (wI w 5) = 0 := eqN (b := 0) (by omega) (by omega)
  have q1 : (nI (ρ (wI w 5)) = (1 : Int32)) ↔ ρ (wI w 5) = 1 := eqN (b := 1) (by omega) (by omega)
  have hsub : nI (ρ (wI w 4)) - nI (ρ (wI w 3)) = nI (ρ (wI w 4) - ρ (wI w 3)) := pk_sub w4
  have r0 : (nI (ρ (wI w 4) - ρ (wI w 3)) ≤ (0 : Int32)) ↔ ρ (wI w 4) - ρ (wI w 3) ≤ 0 := le0N (by omega)
  have c2 : ((2 : Int32) < nI (gR ρ (cw ρ w))) ↔ 2 < gR ρ (cw ρ w) := nI_ltI (a := 2) (by omega) (by omega)
  have s99 : (99 : Int32) - nI (gR ρ (cw ρ w)) = nI (99 - gR ρ (cw ρ w)) := pk_sub (a := 99) hgc
  -- what the answers come to
  have non : ∀ {v : Int32}, v = 0 → ∃ I', fX7_pickUp I (7 + w) v = some I' ∧ CR I' ρ ∧ FC I I' := by
    intro v hv
    obtain ⟨I', b1, b2, b3⟩ := drop_C h hG hw (n := 0) (by omega) (by omega)
    rw [dr0] at b2
    exact ⟨I', by rw [hv]; exact b1, b2, b3⟩
  have d1 : ∀ {n : Nat}, n = (if 0 < ρ (wI w 3) ∧ gR ρ (cw ρ w) < 99 then 1 else 0) → ∃ I', fX7_pickUp I (7 + w) (-(nI n)) = some I' ∧ CR I' (if 0 < ρ (wI w 3) ∧ gR ρ (cw ρ w) < 99 then drR ρ w 1 else ρ) ∧ FC I I' := by
    intro n hn
    by_cases q : 0 < ρ (wI w 3) ∧ gR ρ (cw ρ w) < 99
    · rw [if_pos q] at hn ⊢
      rw [hn]
      exact drop_C h hG hw (by omega) (by omega)
    · rw [if_neg q] at hn ⊢
      rw [hn]
      exact non (by decide)
  unfold fX7_pickedBySort actR
  rw [under_C h hG hw, bd1, e3, e4, e5, hsub, s99, show (1 : Int32) = nI 1 from rfl, mnN (by omega) (by omega), mnN (by omega) (by omega), mnN (by omega) (by omega), mnN (by omega) (by omega), mnN (by omega) (by omega)]
  by_cases a0 : gR ρ (cw ρ w) = 0
  · rw [ifn (fun z => z (z0.mpr a0))]
    have hr : ∀ (x y z : Nat → Nat), (if ρ (wI w 5) = 0 then (if ρ (wI w 3) = 0 ∧ 0 < gR ρ (cw ρ w) then x else if 0 < ρ (wI w 3) ∧ 0 < gR ρ (cw ρ w) ∧ gR ρ (cw ρ w) < 99 then drR ρ w 1 else ρ) else if ρ (wI w 5) = 1 then (if (1 ≤ gR ρ (cw ρ w) ∧ gR ρ (cw ρ w) ≤ 2) ∧ ρ (wI w 3) < ρ (wI w 4) then y else if 2 < gR ρ (cw ρ w) ∧ 0 < ρ (wI w 3) then z else ρ) else (if ρ (wI w 3) < ρ (wI w 4) ∧ 0 < gR ρ (cw ρ w) ∧ 0 < Plc (gR ρ) (labF (gR ρ) (cw ρ w)) then x else if 0 < ρ (wI w 3) ∧ 0 < gR ρ (cw ρ w) ∧ gR ρ (cw ρ w) < 99 then drR ρ w 1 else ρ)) = ρ := by
      intro x y z
      rw [if_neg (by omega : ¬ (ρ (wI w 3) = 0 ∧ 0 < gR ρ (cw ρ w))), if_neg (by omega : ¬ (0 < ρ (wI w 3) ∧ 0 < gR ρ (cw ρ w) ∧ gR ρ (cw ρ w) < 99)), if_neg (by omega : ¬ ((1 ≤ gR ρ (cw ρ w) ∧ gR ρ (cw ρ w) ≤ 2) ∧ ρ (wI w 3) < ρ (wI w 4))), if_neg (by omega : ¬ (2 < gR ρ (cw ρ w) ∧ 0 < ρ (wI w 3))), if_neg (by omega : ¬ (ρ (wI w 3) < ρ (wI w 4) ∧ 0 < gR ρ (cw ρ w) ∧ 0 < Plc (gR ρ) (labF (gR ρ) (cw ρ w))))]
      split
      · rfl
      · split <;> rfl
    rw [hr]
    obtain ⟨I', b1, b2, b3⟩ := non (v := 0) rfl
    exact ⟨0, I', rfl, b1, b2, b3⟩
  · rw [ifp (fun z => a0 (z0.mp z))]
    have hpos : 0 < gR ρ (cw ρ w) := by omega
    by_cases k0 : ρ (wI w 5) = 0
    · rw [ifn (fun z => z (q0.mpr k0)), if_pos k0]
      by_cases a1 : ρ (wI w 3) = 0
      · rw [ifn (fun z => z (p0.mpr a1)), if_pos ⟨a1, hpos⟩]
        obtain ⟨I', b1, b2, b3⟩ := pick_C h hG hw (n := 1) (by omega) (by omega)
        exact ⟨_, I', rfl, b1, b2, b3⟩
      · rw [ifp (fun z => a1 (p0.mp z)), if_neg (fun z => a1 z.1)]
        obtain ⟨I', b1, b2, b3⟩ := d1 (n := min 1 (99 - gR ρ (cw ρ w))) (by split <;> omega)
        refine ⟨_, I', rfl, b1, ?_, b3⟩
        by_cases q : gR ρ (cw ρ w) < 99
        · rw [if_pos ⟨by omega, hpos, q⟩]
          rw [if_pos ⟨by omega, q⟩] at b2
          exact b2
        · rw [if_neg (fun z => q z.2.2)]
          rw [if_neg (fun z => q z.2)] at b2
          exact b2
    · rw [ifp (fun z => k0 (q0.mp z)), if_neg k0]
      by_cases k1 : ρ (wI w 5) = 1
      · rw [ifn (fun z => z (q1.mpr k1)), if_pos k1]
        by_cases a2 : 2 < gR ρ (cw ρ w)
        · rw [ifp (c2.mpr a2), if_neg (by omega)]
          obtain ⟨I', b1, b2, b3⟩ := drop_C h hG hw (n := min (ρ (wI w 3)) (99 - gR ρ (cw ρ w))) (by have := Nat.min_le_right (ρ (wI w 3)) (99 - gR ρ (cw ρ w)); omega) (Nat.min_le_left _ _)
          refine ⟨_, I', rfl, b1, ?_, b3⟩
          by_cases q : 0 < ρ (wI w 3)
          · rw [if_pos ⟨a2, q⟩]; exact b2
          · rw [if_neg (fun z => q z.2)]
            rw [show min (ρ (wI w 3)) (99 - gR ρ (cw ρ w)) = 0 by omega, dr0] at b2
            exact b2
        · rw [ifn (fun z => a2 (c2.mp z))]
          by_cases q : ρ (wI w 3) < ρ (wI w 4)
          · rw [if_pos ⟨by omega, q⟩]
            obtain ⟨I', b1, b2, b3⟩ := pick_C h hG hw (n := min (gR ρ (cw ρ w)) (ρ (wI w 4) - ρ (wI w 3))) (by omega) (Nat.min_le_left _ _)
            exact ⟨_, I', rfl, b1, b2, b3⟩
          · rw [if_neg (fun z => q z.2), if_neg (fun z => a2 z.1)]
            obtain ⟨I', b1, b2, b3⟩ := non (v := nI (min (gR ρ (cw ρ w)) (ρ (wI w 4) - ρ (wI w 3)))) (by rw [show min (gR ρ (cw ρ w)) (ρ (wI w 4) - ρ (wI w 3)) = 0 by omega]; rfl)
            exact ⟨_, I', rfl, b1, b2, b3⟩
      · rw [ifp (show ¬ nI (ρ (wI w 5)) = nI 1 from fun z => k1 (q1.mp z)), if_neg k1, cell_C h hw, bd1]
        have hlab := labF_lt hc hpos
        have hm := mF_le (gR ρ)
        have hh : fX0_heapWith I (nI (cw ρ w)) = some (nI (labF (gR ρ) (cw ρ w))) := by
          unfold fX0_heapWith
          rw [ifn (fun z => by have := (nI_ltI (b := 0) (by omega) (by omega)).mp z; omega), ifn (fun z => by have := (leN (a := 256) (by omega) (by omega)).mp z; omega), ckN hc (by omega), tnN (show cw ρ w < 2 ^ 31 by omega), hC.2.1 _ hc, lb_full hc hpos]
        rw [hh, bd1]
        have fin : ∃ I', fX7_pickUp I (7 + w) (-(nI (min (min 1 (ρ (wI w 3))) (99 - gR ρ (cw ρ w))))) = some I' ∧ CR I' (if 0 < ρ (wI w 3) ∧ 0 < gR ρ (cw ρ w) ∧ gR ρ (cw ρ w) < 99 then drR ρ w 1 else ρ) ∧ FC I I' := by
          obtain ⟨I', b1, b2, b3⟩ := d1 (n := min (min 1 (ρ (wI w 3))) (99 - gR ρ (cw ρ w))) (by split <;> omega)
          refine ⟨I', b1, ?_, b3⟩
          by_cases q : 0 < ρ (wI w 3) ∧ gR ρ (cw ρ w) < 99
          · rw [if_pos ⟨q.1, hpos, q.2⟩]
            rw [if_pos q] at b2
            exact b2
          · rw [if_neg (fun z => q ⟨z.1, z.2.2⟩)]
            rw [if_neg q] at b2
            exact b2
        by_cases a1 : ρ (wI w 4) - ρ (wI w 3) ≤ 0
        · rw [ifp (r0.mpr a1), if_neg (by omega)]
          obtain ⟨I', b1, b2, b3⟩ := fin
          exact ⟨_, I', rfl, b1, b2, b3⟩
        · rw [ifn (fun z => a1 (r0.mp z))]
          have gr := great_C hb hC hlab
          by_cases a3 : 0 < Plc (gR ρ) (labF (gR ρ) (cw ρ w))
          · rw [gr.1 a3, bd1, ifn (by decide), if_pos ⟨by omega, hpos, a3⟩]
            obtain ⟨I', b1, b2, b3⟩ := pick_C h hG hw (n := 1) (by omega) (by omega)
            exact ⟨_, I', rfl, b1, b2, b3⟩
          · rw [gr.2 (by omega), bd1, ifp (by decide), if_neg (fun z => a3 z.2.2)]
            obtain ⟨I', b1, b2, b3⟩ := fin
            exact ⟨_, I', rfl, b1, b2, b3⟩
theorem CR.num {I : II} {ρ : Nat → Nat} (h : CR I ρ) (hG : Good ρ) : ∃ I', fX0_numberIn I 3 = some (nI (mF (gR ρ)), I') ∧ CR I' ρ ∧ CH I' (gR ρ) ∧ FC I I' := by
  obtain ⟨I', n1, n2, n3, n4⟩ := numberIn_sp (I := I) (g := gR ρ) (fun c hc => by have := hG.1.2.2.1 c hc; omega) h.1.2.1 h.2
  exact ⟨I', n1, ⟨h.1.fm hG.2.1 (fun a _ _ => n4 a (by omega)), Or.inl ⟨n3, n2⟩⟩, n2, fun a ha => n4 a (by omega)⟩
theorem CR.mo1 {I : II} {ρ : Nat → Nat} (h : CR I ρ) {v : Nat} : CR I (stR ρ 8 v) := by
  obtain ⟨⟨h1, h2, h3, h4, h5⟩, hH⟩ := h
  refine ⟨⟨h1, fun c hc => ?_, h3, fun t ht => ?_, fun u e hu he => ?_⟩, HC_congr hH (gR_so (by omega))⟩
  · rw [gR_so (by omega) c hc]; exact h2 c hc
  · rw [stR_n (by omega)]
    exact h4 t ht
  · rw [stR_n (by unfold wI; omega)]
    exact h5 u e hu he
theorem mxs {a b : Nat} (ha : a < 2 ^ 30) (hb : b < 2 ^ 30) : mx (nI a - nI b) 0 = nI (a - b) ∧ mx (-(nI a - nI b)) 0 = nI (b - a) := by
  have e : -(nI a - nI b) = nI b - nI a := by rw [Int32.neg_sub]
  have key : ∀ x y : Nat, x < 2 ^ 30 → y < 2 ^ 30 → mx (nI x - nI y) 0 = nI (x - y) := by
    intro x y hx hy
    unfold mx
    have t := pk_sub_toInt hx hy
    have l : nI x - nI y < 0 ↔ x < y := by
      rw [Int32.lt_iff_toInt_lt, t, show (0 : Int32).toInt = 0 from by decide]
      omega
    by_cases z : x < y
    · rw [if_pos (l.mpr z), show x - y = 0 by omega]
      rfl
    · rw [if_neg (fun q => z (l.mp q)), pk_sub (by omega)]
  exact ⟨key a b ha hb, by rw [e]; exact key b a hb ha⟩
theorem ahead_C1 {I : II} {ρ : Nat → Nat} (h : CR I ρ) (hG : Good ρ) {w d : Nat} (hw : w < ρ 2) (hd : d < 4) (hf : Fre ρ (cw ρ w) d) : ∃ I', fX7_stepAhead I (7 + w) (nI d) = some I' ∧ CR I' (goR (stR ρ (wI w 2) d) w) ∧ FC I I' := by
  have g2 := hG.2.1
  have g3 := hG.2.2.1.2
  have hw8 : w < 8 := by omega
  have hG0 := hG.di hw8 hd
  have h0 := h.wk g2 g3 hw (f := 2) (v := d) (by omega)
  have hw0 : w < stR ρ (wI w 2) d 2 := by rw [stR_n (by unfold wI; omega)]; exact hw
  have hf0 : Fre (stR ρ (wI w 2) d) (cw (stR ρ (wI w 2) d) w) (stR ρ (wI w 2) d (wI w 2)) := by
    rw [cw_di, stR_s, fre_st (by unfold wI; omega) (by unfold wI; omega)]
    exact hf
  have hE : nbr (cw (stR ρ (wI w 2) d) w) (stR ρ (wI w 2) d (wI w 2)) = nbr (cw ρ w) d := by rw [cw_di, stR_s]
  unfold goR
  rw [hE]
  rw [cw_di, stR_s] at hf0
  generalize hσ : stR ρ (wI w 2) d = σ at *
  have hcσ : cw σ w = cw ρ w := by rw [← hσ, cw_di]
  have wl := (wall_C h0 hG0 hw0 hd).2.2 (by rw [hcσ]; exact hf0)
  rw [hcσ] at wl
  have s2 : σ 2 ≤ 8 := hG0.2.1
  have s3 : σ 3 ≤ 30 := hG0.2.2.1.2
  unfold fX7_stepAhead
  rw [bd1, wl.1, bd1, bd1]
  have hcol : fX7_columnAhead (up2 (up2 I (7 + w) 2 (nI d)) (7 + w) 0 (nI (nbr (cw ρ w) d / 16))) (7 + w) (nI d) = some (nI (nbr (cw ρ w) d % 16)) := by
    have q := wl.2
    rw [colA_C hd] at q ⊢
    rw [up2_b (show 1 ≠ 0 by omega)]
    exact q
  rw [hcol, bd1, bd1]
  generalize he : nbr (cw ρ w) d = e at *
  have h1 := h0.wk s2 s3 hw0 (f := 0) (v := e / 16) (by omega)
  have t : ∀ {τ : Nat → Nat} {f v j : Nat}, j < 9 → stR τ (wI w f) v j = τ j := fun hj => stR_n (by unfold wI; omega)
  have h2 := h1.wk (by rw [t (by omega)]; exact s2) (by rw [t (by omega)]; exact s3) (by rw [t (by omega)]; exact hw0) (f := 1) (v := e % 16) (by omega)
  have e6 : up2 (up2 (up2 I (7 + w) 2 (nI d)) (7 + w) 0 (nI (e / 16))) (7 + w) 1 (nI (e % 16)) (7 + w) 6 + 1 = nI (σ (wI w 6) + 1) := by
    rw [h2.fl (w := w) (f := 6) (by rw [t (by omega), t (by omega)]; exact hw0) (by omega), stR_n (show wI w 6 ≠ wI w 1 by unfold wI; omega), stR_n (show wI w 6 ≠ wI w 0 by unfold wI; omega), nI_1]
  rw [e6, bd1]
  have h3 := (h2.wk (by rw [t (by omega), t (by omega)]; exact s2) (by rw [t (by omega), t (by omega)]; exact s3) (by rw [t (by omega), t (by omega)]; exact hw0) (f := 6) (v := σ (wI w 6) + 1) (by omega)).mo1 (v := σ 8 + 1)
  change CR _ (moR σ w e) at h3
  have hG1 := hG0.mo (e := e) hw0 (by rw [← hσ, stR_n (by unfold wI; omega)]; rw [← he]; exact hf.2.1) (by rw [← hσ, stR_n (by unfold wI; omega)]; rw [← he]; exact hf.2.2)
  have hw1 : w < moR σ w e 2 := by rw [mo_lo (by omega)]; exact hw0
  obtain ⟨J, n1, n2, n3, n4⟩ := h3.num hG1
  rw [n1, bd1]
  obtain ⟨v, K, p1, p2, p3, p4⟩ := act_C n2 hG1 n3 hw1
  have hG2 := hG1.act hw1
  show ∃ I', ((fX7_pickedBySort J (7 + w)).bind fun v8 => (fX7_pickUp J (7 + w) v8).bind _) = some I' ∧ _
  rw [p1, bd1, p2, bd1]
  obtain ⟨L, m1, m2, m3, m4⟩ := p3.num hG2
  rw [m1, bd1]
  have b1 := mF_le (gR (moR σ w e))
  have b2 := mF_le (gR (actR (moR σ w e) w))
  have hmm : mF (gR (moR σ w e)) = mF (gR σ) := mF_congr (fun c hc => by rw [gR_mo hc])
  obtain ⟨x1, x2⟩ := mxs (a := mF (gR (actR (moR σ w e) w))) (b := mF (gR (moR σ w e))) (by omega) (by omega)
  show ∃ I', ((some (up2 L 2 7 (L 2 7 + mx (nI (mF (gR (actR (moR σ w e) w))) - nI (mF (gR (moR σ w e)))) 0))).bind fun I11 => (some (up2 I11 2 6 (I11 2 6 + mx (-(nI (mF (gR (actR (moR σ w e) w))) - nI (mF (gR (moR σ w e))))) 0))).bind fun I12 => some I12) = some I' ∧ _
  rw [x1, x2, hmm, show L 2 7 = _ from m2.1.1.2.2.2.2, nI_add, bd1, up2_b (by omega), show L 2 6 = _ from m2.1.1.2.2.2.1, nI_add, bd1]
  have a2 : actR (moR σ w e) w 2 ≤ 8 := hG2.2.1
  have y1 := m2.st a2 (k := 7) (v := actR (moR σ w e) w 7 + (mF (gR (actR (moR σ w e) w)) - mF (gR σ))) (Or.inr rfl)
  have y2 := y1.st (by rw [stR_n (by omega)]; exact a2) (k := 6) (v := actR (moR σ w e) w 6 + (mF (gR σ) - mF (gR (actR (moR σ w e) w)))) (Or.inl rfl)
  have ec : ∀ (τ : Nat → Nat) (x y : Nat), stR (stR τ 7 x) 6 y = stR (stR τ 6 y) 7 x := by
    intro τ x y
    funext j
    by_cases q6 : j = 6
    · rw [q6, stR_s, stR_n (by omega), stR_s]
    · rw [stR_n q6]
      by_cases q7 : j = 7
      · rw [q7, stR_s, stR_s]
      · rw [stR_n q7, stR_n q7, stR_n q6]
  rw [ec] at y2
  refine ⟨_, rfl, y2, fun a ha => ?_⟩
  rw [up2_n (by omega), up2_n (by omega), m4 a ha, p4 a ha, n4 a ha, up2_n (by omega), up2_n (by omega), up2_n (by omega), up2_n (by omega)]
theorem makeStep_C {I : II} {ρ : Nat → Nat} (h : CR I ρ) (hG : Good ρ) {w : Nat} (hw : w < ρ 2) : ∃ I', fX7_makeStep I (7 + w) = some I' ∧ CR I' (stepR ρ w) ∧ FC I I' := by
  have g2 := hG.2.1
  have hw8 : w < 8 := by omega
  have hW := hG.2.2.2.2.2.1 w hw
  have hc := hW.cell hG.1
  have hd4 := hW.2.2.1
  have g7 := hG.2.2.2.2.2.2.1 _ hG.2.2.2.1
  obtain ⟨J, n1, n2, n3⟩ := next_C h hG
  have hG4 : Good (stR ρ 4 ((ρ 4 + 1) % ρ 3)) := hG.st (Or.inr (Or.inr ⟨rfl, Nat.mod_lt _ (by have := hG.2.2.1; omega)⟩))
  have hw4 : w < stR ρ 4 ((ρ 4 + 1) % ρ 3) 2 := by rw [stR_n (by omega)]; exact hw
  unfold fX7_makeStep
  rw [n1, bd1, h.fl hw (by omega)]
  simp only []
  rw [turned_C hd4 g7, bd1]
  have hd1 : d1R ρ w < 4 := Nat.mod_lt _ (by omega)
  change ∃ I', fX7_makeStep_L20 2000 (fun z7 => (fX7_stepAhead J (7 + w) z7).bind fun v8 => some v8) (7 + w) J (nI (d1R ρ w)) 0 = some I' ∧ _
  have go : ∀ d, d < 4 → Fre ρ (cw ρ w) d → d = dirR ρ (cw ρ w) (d1R ρ w) → ∃ I', ((fX7_stepAhead J (7 + w) (nI d)).bind fun v8 => some v8) = some I' ∧ CR I' (stepR ρ w) ∧ FC I I' := by
    intro d hd hf he
    obtain ⟨K, a1, a2, a3⟩ := ahead_C1 n2 hG4 hw4 hd (by rw [cw_4, fre_st (by omega) (by omega)]; exact hf)
    rw [he] at a2
    exact ⟨K, by rw [a1, bd1], a2, n3.tr a3⟩
  have look : ∀ (k : Nat) (d : Nat) (x : Nat), d < 4 → x < 3 →
      (Fre ρ (cw ρ w) d → fX7_makeStep_L20 (k + 1) (fun z7 => (fX7_stepAhead J (7 + w) z7).bind fun v8 => some v8) (7 + w) J (nI d) (nI x) = (fX7_stepAhead J (7 + w) (nI d)).bind fun v8 => some v8) ∧
      (¬ Fre ρ (cw ρ w) d → fX7_makeStep_L20 (k + 1) (fun z7 => (fX7_stepAhead J (7 + w) z7).bind fun v8 => some v8) (7 + w) J (nI d) (nI x) = fX7_makeStep_L20 k (fun z7 => (fX7_stepAhead J (7 + w) z7).bind fun v8 => some v8) (7 + w) J (nI ((d + 1) % 4)) (nI (x + 1))) := by
    intro k d x hd hx
    have wl := wall_C n2 hG4 hw4 hd
    rw [cw_4, fre_st (by omega) (by omega)] at wl
    have hx3 : ¬ (3 : Int32) ≤ nI x := fun z => by have := (leN (a := 3) (by omega) (by omega)).mp z; omega
    constructor
    · intro hf
      show (if (3 : Int32) ≤ nI x then _ else (fX7_hasWall J (7 + w) (nI d)).bind fun v4 => _) = _
      rw [ifn hx3, wl.1 hf, bd1, ifp rfl]
    · intro hf
      show (if (3 : Int32) ≤ nI x then _ else (fX7_hasWall J (7 + w) (nI d)).bind fun v4 => _) = _
      rw [ifn hx3, wl.2.1 hf, bd1, ifn (by decide), show fX7_toTheRight (nI d) 1 = _ from right_C (b := 1) (by omega) (by omega), bd1, nI_1]
  obtain ⟨l1, l2⟩ := look 1999 _ 0 hd1 (by omega)
  by_cases q1 : Fre ρ (cw ρ w) (d1R ρ w)
  · rw [show (0 : Int32) = nI 0 from rfl, l1 q1]
    exact go _ hd1 q1 (show _ = dirR _ _ _ from (if_pos q1).symm)
  · rw [show (0 : Int32) = nI 0 from rfl, l2 q1]
    obtain ⟨l3, l4⟩ := look 1998 ((d1R ρ w + 1) % 4) 1 (Nat.mod_lt _ (by omega)) (by omega)
    by_cases q2 : Fre ρ (cw ρ w) ((d1R ρ w + 1) % 4)
    · rw [l3 q2]
      exact go _ (Nat.mod_lt _ (by omega)) q2 (show _ = dirR _ _ _ from ((if_neg q1).trans (if_pos q2)).symm)
    · rw [l4 q2]
      have e2 : ((d1R ρ w + 1) % 4 + 1) % 4 = (d1R ρ w + 2) % 4 := by omega
      rw [e2]
      have q3 := fre_op hG.1 hc.1 hc.2.2.2.1 hc.2.2.2.2 hd1 q1
      rw [(look 1997 ((d1R ρ w + 2) % 4) 2 (Nat.mod_lt _ (by omega)) (by omega)).1 q3]
      exact go _ (Nat.mod_lt _ (by omega)) q3 (show _ = dirR _ _ _ from ((if_neg q1).trans (if_neg q2)).symm)
theorem walkerAt_C {I : II} {ρ : Nat → Nat} (h : I 2 4 = nI (ρ 2)) (g2 : ρ 2 ≤ 8) {w : Nat} (hw : w < ρ 2) : fX4_walkerAt I 2 (nI w) = some (some (7 + w)) := by
  unfold fX4_walkerAt
  rw [h, ifn (fun z => by have := (nI_ltI (b := 0) (by omega) (by omega)).mp z; omega), ifn (fun z => by have := (leN (by omega) (by omega)).mp z; omega), ifp (show nI w < (8 : Int32) from (nI_ltI (b := 8) (by omega) (by omega)).mpr (by omega)), ckN (show w < 8 by omega) (by omega), tnN (show w < 2 ^ 31 by omega)]
theorem makeRounds_C {I : II} {ρ : Nat → Nat} (h : CR I ρ) (hG : Good ρ) {k : Nat} (hk : k < 1000) : ∃ I', fX7_makeRounds I (nI k) = some I' ∧ CR I' (rds ρ k) ∧ FC I I' := by
  -- one round
  have one : ∀ (τ : Nat → Nat) (J : II) (ct : II → Option II) (m : Nat), Good τ → CR J τ → (∀ K, CR K (rdR τ) → FC J K → ∃ I', ct K = some I' ∧ CR I' (rds ρ k) ∧ FC I I') →
      ∃ I', fX7_makeRounds_L9 2000 ct (nI k) (nI m) 0 J = some I' ∧ CR I' (rds ρ k) ∧ FC I I' := by
    intro τ J ct m hT hJ hct
    have lp : ∀ (n x : Nat) (K : II) (fu : Nat), x + n = τ 2 → n < fu → CR K (rnR τ x) → FC J K → ∃ I', fX7_makeRounds_L9 fu ct (nI k) (nI m) (nI x) K = some I' ∧ CR I' (rds ρ k) ∧ FC I I' := by
      have h8 := hT.2.1
      intro n
      induction n with
      | zero =>
        intro x K fu hx hf hK hF
        obtain ⟨fu, rfl⟩ : ∃ m, fu = m + 1 := ⟨fu - 1, by omega⟩
        have g := rn_g hT x (by omega)
        show ∃ I', (if K 2 4 ≤ nI x then ct K else _) = some I' ∧ _
        rw [hK.1.1.2.2.1, g.2 2 (by omega) (by omega), ifp ((leN (by omega) (by omega)).mpr (by omega))]
        refine hct K ?_ hF
        unfold rdR
        rw [show τ 2 = x by omega]
        exact hK
      | succ n ih =>
        intro x K fu hx hf hK hF
        obtain ⟨fu, rfl⟩ : ∃ m, fu = m + 1 := ⟨fu - 1, by omega⟩
        have g := rn_g hT x (by omega)
        have hw : x < rnR τ x 2 := by rw [g.2 2 (by omega) (by omega)]; omega
        obtain ⟨K', s1, s2, s3⟩ := makeStep_C hK g.1 hw
        have wa := walkerAt_C hK.1.1.2.2.1 (by rw [g.2 2 (by omega) (by omega)]; exact h8) hw
        show ∃ I', (if K 2 4 ≤ nI x then ct K else (fX4_walkerAt K 2 (nI x)).bind fun v3 => (match v3 with | none => fX7_makeRounds_L9 fu ct (nI k) (nI m) (nI x + 1) K | some a4 => (fX7_makeStep K a4).bind fun v5 => fX7_makeRounds_L9 fu ct (nI k) (nI m) (nI x + 1) v5)) = some I' ∧ _
        rw [hK.1.1.2.2.1, g.2 2 (by omega) (by omega), ifn (fun y => by have := (leN (by omega) (by omega)).mp y; omega), wa, bd1]
        simp only []
        rw [s1, bd1, nI_1]
        exact ih (x + 1) K' fu (by omega) (by omega) s2 (hF.tr s3)
    exact lp (τ 2) 0 J 2000 (by omega) (by have := hT.2.1; omega) hJ FC.rf
  have lp : ∀ (n m : Nat) (K : II) (fu : Nat), m + n = k → n < fu → CR K (rds ρ m) → FC I K → ∃ I', fX7_makeRounds_L2 fu (fun I7 => some I7) (nI k) (nI m) K = some I' ∧ CR I' (rds ρ k) ∧ FC I I' := by
    intro n
    induction n with
    | zero =>
      intro m K fu hm hf hK hF
      obtain ⟨fu, rfl⟩ : ∃ m, fu = m + 1 := ⟨fu - 1, by omega⟩
      show ∃ I', (if nI k ≤ nI m then some K else _) = some I' ∧ _
      rw [ifp ((leN (by omega) (by omega)).mpr (by omega))]
      rw [show m = k by omega] at hK
      exact ⟨K, rfl, hK, hF⟩
    | succ n ih =>
      intro m K fu hm hf hK hF
      obtain ⟨fu, rfl⟩ : ∃ m, fu = m + 1 := ⟨fu - 1, by omega⟩
      show ∃ I', (if nI k ≤ nI m then some K else fX7_makeRounds_L9 2000 (fun I6 => fX7_makeRounds_L2 fu (fun I7 => some I7) (nI k) (nI m + 1) I6) (nI k) (nI m) 0 K) = some I' ∧ _
      rw [ifn (fun y => by have := (leN (by omega) (by omega)).mp y; omega), nI_1]
      exact one (rds ρ m) K _ m (rds_g hG m).1 hK (fun L hL hF2 => ih (m + 1) L fu (by omega) (by omega) hL (hF.tr hF2))
  exact lp k 0 I 2000 (by omega) (by omega) h FC.rf
