/-! the reference's steps upon its row -/
def FM1 (I I' : II) : Prop := (∀ a, (a < 134 ∨ a = 136 ∨ a = 137 ∨ a = 138 ∨ a = 139 ∨ 145 < a) → I' a = I a) ∧ ∀ j, j ≠ 7 → I' 134 j = I 134 j
theorem FM1.rf {I : II} : FM1 I I := ⟨fun _ _ => rfl, fun _ _ => rfl⟩
theorem FM1.tr {I J K : II} (h1 : FM1 I J) (h2 : FM1 J K) : FM1 I K := ⟨fun a ha => (h2.1 a ha).trans (h1.1 a ha), fun j hj => (h2.2 j hj).trans (h1.2 j hj)⟩
theorem FM0.w {I I' : II} (h : FM0 I I') : FM1 I I' := ⟨fun a ha => h.1 a (by omega), h.2⟩
theorem FM1.up {I : II} {k : Nat} {v : Int32} : FM1 I (up2 I 135 k v) := ⟨fun a ha => up2_n (by omega), fun j _ => by rw [up2_n (show 134 ≠ 135 by omega)]⟩
theorem MR.up {I : II} {ρ : Nat → Nat} {k v : Nat} (h : MR I ρ) : MR (up2 I 135 k (nI v)) (stR ρ k v) := by
  intro j hj
  rw [up2_at]
  by_cases e : j = k
  · rw [if_pos e, e, stR_s]
  · rw [if_neg e, stR_n e]
    exact h j hj
theorem add0 (n : Nat) : nI n + 0 = nI n := by
  rw [show (0 : Int32) = nI 0 from rfl, nI_add]
  rfl
theorem wi_e (w f : Nat) : (265 : Int32) + 9 * nI w + nI f = nI (wI w f) := by
  rw [show (265 : Int32) = nI 265 from rfl, show (9 : Int32) = nI 9 from rfl, pk_mul, nI_add, nI_add]
  rfl
theorem m_of {I : II} {ρ : Nat → Nat} (h : MR I ρ) {w : Nat} (hw : w < 8) (f : Nat) (hf : f < 9) : fX9_of I (nI w) (nI f) = some (nI (ρ (wI w f))) := by
  have := wI_lt hw hf
  unfold fX9_of
  rw [wi_e, ckN (show wI w f < 367 by omega) (by omega), tnN (show wI w f < 2 ^ 31 by omega), h _ (by omega)]
theorem m_lay {I : II} {w : Nat} (hw : w < 8) (f : Nat) (hf : f < 9) (v : Int32) : fX9_lay I (nI w) (nI f) v = some (up2 I 135 (wI w f) v) := by
  have := wI_lt hw hf
  unfold fX9_lay
  rw [wi_e, ckN (show wI w f < 367 by omega) (by omega), tnN (show wI w f < 2 ^ 31 by omega)]
  rfl
theorem m_cell {I : II} {ρ : Nat → Nat} (h : MR I ρ) {w : Nat} (hw : w < 8) : fX9_cellOf I (nI w) = some (nI (cw ρ w)) := by
  unfold fX9_cellOf
  rw [show fX9_of I (nI w) 0 = _ from m_of h hw 0 (by omega), bd1, show fX9_of I (nI w) 1 = _ from m_of h hw 1 (by omega), bd1, show (16 : Int32) = nI 16 from rfl, pk_mul, nI_add]
  rfl
theorem e9 (c : Nat) : (9 : Int32) + nI c = nI (9 + c) := nI_add 9 c
theorem m_pick {I : II} {ρ : Nat → Nat} (h : MR I ρ) {w n : Nat} (hw : w < 8) (hc : cw ρ w < 256) (hn : n ≤ gR ρ (cw ρ w)) : ∃ I', fX9_pick I (nI w) (nI n) = some I' ∧ MR I' (pkR ρ w n) ∧ FM1 I I' := by
  have h1 : ∀ v, MR (up2 I 135 (9 + cw ρ w) (nI v)) (stR ρ (9 + cw ρ w) v) := fun v => h.up
  have n3 : wI w 3 ≠ 9 + cw ρ w := by unfold wI; omega
  have n7 : wI w 7 ≠ 9 + cw ρ w := by unfold wI; omega
  have n73 : wI w 7 ≠ wI w 3 := by unfold wI; omega
  unfold fX9_pick
  rw [m_cell h hw, bd1, e9, ckN (show 9 + cw ρ w < 367 by omega) (by omega), ckN (show 9 + cw ρ w < 367 by omega) (by omega), bd1, tnN (show 9 + cw ρ w < 2 ^ 31 by omega), h _ (show 9 + cw ρ w < 367 by omega), show nI (ρ (9 + cw ρ w)) - nI n = nI (gR ρ (cw ρ w) - n) from pk_sub hn]
  have a1 := m_of (h1 (gR ρ (cw ρ w) - n)) hw 3 (by omega)
  rw [stR_n n3] at a1
  rw [show fX9_of (up2 I 135 (9 + cw ρ w) (nI (gR ρ (cw ρ w) - n))) (nI w) 3 = _ from a1, bd1, nI_add, show fX9_lay (up2 I 135 (9 + cw ρ w) (nI (gR ρ (cw ρ w) - n))) (nI w) 3 (nI (ρ (wI w 3) + n)) = _ from m_lay hw 3 (by omega) _, bd1]
  have h2 := (h1 (gR ρ (cw ρ w) - n)).up (k := wI w 3) (v := ρ (wI w 3) + n)
  have a2 := m_of h2 hw 7 (by omega)
  rw [stR_n n73, stR_n n7] at a2
  rw [show fX9_of (up2 (up2 I 135 (9 + cw ρ w) (nI (gR ρ (cw ρ w) - n))) 135 (wI w 3) (nI (ρ (wI w 3) + n))) (nI w) 7 = _ from a2, bd1, nI_add, show fX9_lay (up2 (up2 I 135 (9 + cw ρ w) (nI (gR ρ (cw ρ w) - n))) 135 (wI w 3) (nI (ρ (wI w 3) + n))) (nI w) 7 (nI (ρ (wI w 7) + n)) = _ from m_lay hw 7 (by omega) _, bd1]
  exact ⟨_, rfl, h2.up, FM1.up.tr (FM1.up.tr FM1.up)⟩
theorem m_drop {I : II} {ρ : Nat → Nat} (h : MR I ρ) {w n : Nat} (hw : w < 8) (hc : cw ρ w < 256) (hn : n ≤ ρ (wI w 3)) : ∃ I', fX9_drop I (nI w) (nI n) = some I' ∧ MR I' (drR ρ w n) ∧ FM1 I I' := by
  have h1 : ∀ v, MR (up2 I 135 (9 + cw ρ w) (nI v)) (stR ρ (9 + cw ρ w) v) := fun v => h.up
  have n3 : wI w 3 ≠ 9 + cw ρ w := by unfold wI; omega
  have n7 : wI w 8 ≠ 9 + cw ρ w := by unfold wI; omega
  have n73 : wI w 8 ≠ wI w 3 := by unfold wI; omega
  unfold fX9_drop
  rw [m_cell h hw, bd1, e9, ckN (show 9 + cw ρ w < 367 by omega) (by omega), ckN (show 9 + cw ρ w < 367 by omega) (by omega), bd1, tnN (show 9 + cw ρ w < 2 ^ 31 by omega), h _ (show 9 + cw ρ w < 367 by omega), nI_add]
  have a1 := m_of (h1 (ρ (9 + cw ρ w) + n)) hw 3 (by omega)
  rw [stR_n n3] at a1
  rw [show fX9_of (up2 I 135 (9 + cw ρ w) (nI (ρ (9 + cw ρ w) + n))) (nI w) 3 = _ from a1, bd1, pk_sub hn, show fX9_lay (up2 I 135 (9 + cw ρ w) (nI (ρ (9 + cw ρ w) + n))) (nI w) 3 (nI (ρ (wI w 3) - n)) = _ from m_lay hw 3 (by omega) _, bd1]
  have h2 := (h1 (ρ (9 + cw ρ w) + n)).up (k := wI w 3) (v := ρ (wI w 3) - n)
  have a2 := m_of h2 hw 8 (by omega)
  rw [stR_n n73, stR_n n7] at a2
  rw [show fX9_of (up2 (up2 I 135 (9 + cw ρ w) (nI (ρ (9 + cw ρ w) + n))) 135 (wI w 3) (nI (ρ (wI w 3) - n))) (nI w) 8 = _ from a2, bd1, nI_add, show fX9_lay (up2 (up2 I 135 (9 + cw ρ w) (nI (ρ (9 + cw ρ w) + n))) 135 (wI w 3) (nI (ρ (wI w 3) - n))) (nI w) 8 (nI (ρ (wI w 8) + n)) = _ from m_lay hw 8 (by omega) _, bd1]
  exact ⟨_, rfl, h2.up, FM1.up.tr (FM1.up.tr FM1.up)⟩
theorem leN {a b : Nat} (ha : a < 2 ^ 31) (hb : b < 2 ^ 31) : (nI a ≤ nI b) ↔ a ≤ b := nI_leI ha hb
theorem lesser_sp {a b : Nat} (ha : a < 2 ^ 31) (hb : b < 2 ^ 31) : fX9_lesser (nI a) (nI b) = some (nI (min a b)) := by
  unfold fX9_lesser
  by_cases h : b ≤ a
  · rw [ifp ((leN hb ha).mpr h), Nat.min_eq_right h]
  · rw [ifn (fun z => h ((leN hb ha).mp z)), Nat.min_eq_left (by omega)]
theorem m_turn {I : II} {ρ : Nat → Nat} (h : MR I ρ) (hG : Good ρ) : ∃ I', fX9_nextTurn I = some (nI (tn (ρ (337 + ρ 4))), I') ∧ MR I' (stR ρ 4 ((ρ 4 + 1) % ρ 3)) ∧ FM1 I I' := by
  obtain ⟨hB, g2, g3, g4, g5, g6, g7, g8⟩ := hG
  have ht := g7 (ρ 4) g4
  unfold fX9_nextTurn
  rw [h 4 (by omega), h 3 (by omega), show (337 : Int32) + nI (ρ 4) = nI (337 + ρ 4) from nI_add 337 _, ckN (show 337 + ρ 4 < 367 by omega) (by omega), tnN (show 337 + ρ 4 < 2 ^ 31 by omega), h _ (show 337 + ρ 4 < 367 by omega), nI_1, rmN (by omega) (by omega) (by omega)]
  rw [ck_t (show nz (nI (ρ 3)) = true from decide_eq_true (nI_ne0 (by omega) (by omega))), bd1]
  generalize hx : ρ (337 + ρ 4) = x at ht ⊢
  have l5 : ((5 : Int32) ≤ nI x) ↔ 5 ≤ x := leN (a := 5) (by omega) (by omega)
  have l7 : ((7 : Int32) ≤ nI x) ↔ 7 ≤ x := leN (a := 7) (by omega) (by omega)
  have l9 : ((9 : Int32) ≤ nI x) ↔ 9 ≤ x := leN (a := 9) (by omega) (by omega)
  simp only [l5, l7, l9]
  refine ⟨up2 I 135 4 (nI ((ρ 4 + 1) % ρ 3)), ?_, h.up, FM1.up⟩
  have t1 : x < 5 → tn x = 0 := fun z => if_pos z
  have t2 : ¬ x < 5 → x < 7 → tn x = 1 := fun z y => (if_neg z).trans (if_pos y)
  have t3 : ¬ x < 7 → x < 9 → tn x = 3 := fun z y => (if_neg (show ¬ x < 5 by omega)).trans ((if_neg z).trans (if_pos y))
  have t4 : ¬ x < 9 → tn x = 2 := fun z => (if_neg (show ¬ x < 5 by omega)).trans ((if_neg (show ¬ x < 7 by omega)).trans (if_neg z))
  by_cases a5 : 5 ≤ x
  · rw [ifp a5]
    by_cases a7 : 7 ≤ x
    · rw [ifp a7]
      by_cases a9 : 9 ≤ x
      · rw [ifp a9, t4 (by omega)]
        rfl
      · rw [ifn a9, t3 (by omega) (by omega)]
        rfl
    · rw [ifn a7, t2 (by omega) (by omega)]
      rfl
  · rw [ifn a5, t1 (by omega)]
    rfl
theorem le0N {n : Nat} (h : n < 2 ^ 31) : (nI n ≤ (0 : Int32)) ↔ n ≤ 0 := nI_leI (b := 0) h (by omega)
theorem eqN {a b : Nat} (ha : a < 2 ^ 31) (hb : b < 2 ^ 31) : (nI a = nI b) ↔ a = b := nI_eq ha hb
/-- what is dropped one by one, in three of the sorts -/
theorem m_act {I : II} {ρ : Nat → Nat} (h : MR I ρ) (hG : Good ρ) {w : Nat} (hw : w < ρ 2) : ∃ I', fX9_actBySort I (nI w) = some I' ∧ MR I' (actR ρ w) ∧ FM1 I I' := by
  have hw8 : w < 8 := by have := hG.2.1; omega
  have hW := hG.2.2.2.2.2.1 w hw
  have hc := hW.cell hG.1
  have hgc := hG.1.2.2.1 _ hc.1
  obtain ⟨-, -, -, w4, w5, w6⟩ := hW
  have s0 : ∀ {n : Nat}, (nI n = (0 : Int32)) ↔ n = 0 ∨ 2 ^ 31 ≤ n ∧ nI n = 0 := fun {n} => by
    by_cases hn : n < 2 ^ 31
    · rw [show (0 : Int32) = nI 0 from rfl, nI_eq hn (by omega)]; omega
    · constructor
      · intro z; exact Or.inr ⟨by omega, z⟩
      · rintro (z | z)
        · omega
        · exact z.2
  have p0 : (nI (ρ (wI w 3)) = (0 : Int32)) ↔ ρ (wI w 3) = 0 := eqN (b := 0) (by omega) (by omega)
  have q0 : (nI (ρ (wI w 5)) = (0 : Int32)) ↔ ρ (wI w 5) = 0 := eqN (b := 0) (by omega) (by omega)
  have q1 : (nI (ρ (wI w 5)) = (1 : Int32)) ↔ ρ (wI w 5) = 1 := eqN (b := 1) (by omega) (by omega)
  have c0 : (nI (gR ρ (cw ρ w)) ≤ (0 : Int32)) ↔ gR ρ (cw ρ w) ≤ 0 := le0N (by omega)
  have c2 : (nI (gR ρ (cw ρ w)) ≤ (2 : Int32)) ↔ gR ρ (cw ρ w) ≤ 2 := leN (b := 2) (by omega) (by omega)
  have c99 : ((99 : Int32) ≤ nI (gR ρ (cw ρ w))) ↔ 99 ≤ gR ρ (cw ρ w) := leN (a := 99) (by omega) (by omega)
  have p1 : (nI (ρ (wI w 3)) ≤ (0 : Int32)) ↔ ρ (wI w 3) ≤ 0 := le0N (by omega)
  have r0 : (nI (ρ (wI w 4) - ρ (wI w 3)) ≤ (0 : Int32)) ↔ ρ (wI w 4) - ρ (wI w 3) ≤ 0 := le0N (by omega)
  have hsub : nI (ρ (wI w 4)) - nI (ρ (wI w 3)) = nI (ρ (wI w 4) - ρ (wI w 3)) := pk_sub w4
  -- dropping one chip, or nothing
  have drop1 : ∀ (J : II), MR J ρ → FM1 I J → (¬ (0 < ρ (wI w 3) ∧ 0 < gR ρ (cw ρ w) ∧ gR ρ (cw ρ w) < 99) ∨ True) → ∃ I', (if nI (ρ (wI w 3)) ≤ (0 : Int32) then some J else (if nI (gR ρ (cw ρ w)) ≤ 0 then some J else (if (99 : Int32) ≤ nI (gR ρ (cw ρ w)) then some J else (fX9_drop J (nI w) 1).bind fun v11 => some v11))) = some I' ∧ MR I' (if 0 < ρ (wI w 3) ∧ 0 < gR ρ (cw ρ w) ∧ gR ρ (cw ρ w) < 99 then drR ρ w 1 else ρ) ∧ FM1 I I' := by
    intro J hJ hF _
    by_cases a1 : ρ (wI w 3) ≤ 0
    · rw [ifp (p1.mpr a1), if_neg (by omega)]
      exact ⟨J, rfl, hJ, hF⟩
    · rw [ifn (fun z => a1 (p1.mp z))]
      by_cases a2 : gR ρ (cw ρ w) ≤ 0
      · rw [ifp (c0.mpr a2), if_neg (by omega)]
        exact ⟨J, rfl, hJ, hF⟩
      · rw [ifn (fun z => a2 (c0.mp z))]
        by_cases a3 : 99 ≤ gR ρ (cw ρ w)
        · rw [ifp (c99.mpr a3), if_neg (by omega)]
          exact ⟨J, rfl, hJ, hF⟩
        · rw [ifn (fun z => a3 (c99.mp z)), if_pos (by omega)]
          obtain ⟨I', b1, b2, b3⟩ := m_drop hJ (n := 1) hw8 hc.1 (by omega)
          rw [show fX9_drop J (nI w) 1 = _ from b1, bd1]
          exact ⟨I', rfl, b2, hF.tr b3⟩
  unfold fX9_actBySort
  rw [m_cell h hw8, bd1, e9, ckN (show 9 + cw ρ w < 367 by omega) (by omega), tnN (show 9 + cw ρ w < 2 ^ 31 by omega), show fX9_of I (nI w) 3 = _ from m_of h hw8 3 (by omega), bd1, show fX9_of I (nI w) 4 = _ from m_of h hw8 4 (by omega), bd1, show fX9_of I (nI w) 5 = _ from m_of h hw8 5 (by omega), bd1, h _ (show 9 + cw ρ w < 367 by omega), hsub]
  change ∃ I', (if nI (ρ (wI w 5)) = 0 then (if ¬ nI (ρ (wI w 3)) = 0 then fX9_actBySort_J81 I (nI w) (nI (gR ρ (cw ρ w))) (nI (ρ (wI w 3))) else (if nI (gR ρ (cw ρ w)) ≤ 0 then fX9_actBySort_J81 I (nI w) (nI (gR ρ (cw ρ w))) (nI (ρ (wI w 3))) else (fX9_pick I (nI w) 1).bind fun v13 => some v13)) else _) = some I' ∧ _
  unfold actR
  by_cases k0 : ρ (wI w 5) = 0
  · rw [ifp (q0.mpr k0), if_pos k0]
    have hd := drop1 I h FM1.rf (Or.inr trivial)
    by_cases a1 : ρ (wI w 3) = 0
    · rw [ifn (fun z => z (p0.mpr a1))]
      by_cases a2 : gR ρ (cw ρ w) ≤ 0
      · rw [ifp (c0.mpr a2), if_neg (by omega)]
        exact hd
      · rw [ifn (fun z => a2 (c0.mp z)), if_pos (by omega)]
        obtain ⟨I', b1, b2, b3⟩ := m_pick h (n := 1) hw8 hc.1 (by omega)
        rw [show fX9_pick I (nI w) 1 = _ from b1, bd1]
        exact ⟨I', rfl, b2, b3⟩
    · rw [ifp (fun z => a1 (p0.mp z)), if_neg (fun z => a1 z.1)]
      exact hd
  · rw [ifn (fun z => k0 (q0.mp z)), if_neg k0]
    by_cases k1 : ρ (wI w 5) = 1
    · rw [ifp (q1.mpr k1), if_pos k1, show fX9_in (nI (ρ (9 + cw ρ w))) 1 2 = some (if (1 : Int32) ≤ nI (gR ρ (cw ρ w)) ∧ nI (gR ρ (cw ρ w)) ≤ 2 then 1 else 0) from in_sp _ _ _, bd1]
      have c1 : ((1 : Int32) ≤ nI (gR ρ (cw ρ w))) ↔ 1 ≤ gR ρ (cw ρ w) := leN (a := 1) (by omega) (by omega)
      have hd : ∃ I', fX9_actBySort_J132 I (nI w) (nI (gR ρ (cw ρ w))) (nI (ρ (wI w 3))) = some I' ∧ MR I' (if 2 < gR ρ (cw ρ w) ∧ 0 < ρ (wI w 3) then drR ρ w (min (ρ (wI w 3)) (99 - gR ρ (cw ρ w))) else ρ) ∧ FM1 I I' := by
        unfold fX9_actBySort_J132
        by_cases a1 : gR ρ (cw ρ w) ≤ 2
        · rw [ifp (c2.mpr a1), if_neg (by omega)]
          exact ⟨I, rfl, h, FM1.rf⟩
        · rw [ifn (fun z => a1 (c2.mp z))]
          by_cases a2 : ρ (wI w 3) ≤ 0
          · rw [ifp (p1.mpr a2), if_neg (by omega)]
            exact ⟨I, rfl, h, FM1.rf⟩
          · rw [ifn (fun z => a2 (p1.mp z)), if_pos (by omega), show (99 : Int32) - nI (gR ρ (cw ρ w)) = nI (99 - gR ρ (cw ρ w)) from pk_sub (a := 99) hgc, lesser_sp (by omega) (by omega), bd1]
            obtain ⟨I', b1, b2, b3⟩ := m_drop h (n := min (ρ (wI w 3)) (99 - gR ρ (cw ρ w))) hw8 hc.1 (Nat.min_le_left _ _)
            rw [b1, bd1]
            exact ⟨I', rfl, b2, b3⟩
      by_cases a1 : 1 ≤ gR ρ (cw ρ w) ∧ gR ρ (cw ρ w) ≤ 2
      · rw [ifn (fun z => b01.mp z ⟨c1.mpr a1.1, c2.mpr a1.2⟩)]
        by_cases a2 : ρ (wI w 4) - ρ (wI w 3) ≤ 0
        · rw [ifp (r0.mpr a2), if_neg (by omega)]
          exact hd
        · rw [ifn (fun z => a2 (r0.mp z)), if_pos (by omega), show nI (ρ (9 + cw ρ w)) = nI (gR ρ (cw ρ w)) from rfl, lesser_sp (by omega) (by omega), bd1]
          obtain ⟨I', b1, b2, b3⟩ := m_pick h (n := min (gR ρ (cw ρ w)) (ρ (wI w 4) - ρ (wI w 3))) hw8 hc.1 (Nat.min_le_left _ _)
          rw [b1, bd1]
          exact ⟨I', rfl, b2, b3⟩
      · rw [ifp (b01.mpr (fun z => a1 ⟨c1.mp z.1, c2.mp z.2⟩)), if_neg (fun z => a1 z.1)]
        exact hd
    · rw [ifn (fun z => k1 (q1.mp z)), if_neg k1]
      obtain ⟨J, f1, f2, f3⟩ := findHeaps_sp h hG.1
      have hJ := h.fm f3
      have hd := drop1 J hJ f3.w (Or.inr trivial)
      rw [f1, bd1]
      by_cases a1 : ρ (wI w 4) - ρ (wI w 3) ≤ 0
      · rw [ifp (r0.mpr a1), if_neg (by omega)]
        exact hd
      · rw [ifn (fun z => a1 (r0.mp z)), show nI (ρ (9 + cw ρ w)) = nI (gR ρ (cw ρ w)) from rfl]
        by_cases a2 : gR ρ (cw ρ w) ≤ 0
        · rw [ifp (c0.mpr a2), if_neg (by omega)]
          exact hd
        · have hlab := labF_lt hc.1 (show 0 < gR ρ (cw ρ w) by omega)
          have hPl := Plc_lt hlab
          have hm := mF_le (gR ρ)
          rw [ifn (fun z => a2 (c0.mp z)), m_cell hJ hw8, bd1, ckN hc.1 (by omega), tnN (show cw ρ w < 2 ^ 31 by omega), f2.2.1 _ hc.1, lb_full hc.1 (by omega), place_M hG.1.2.2.1 f2 hlab, bd1]
          by_cases a3 : Plc (gR ρ) (labF (gR ρ) (cw ρ w)) ≤ 0
          · rw [ifp ((le0N (by omega)).mpr a3), if_neg (by omega)]
            exact hd
          · rw [ifn (fun z => a3 ((le0N (by omega)).mp z)), if_pos (by omega)]
            obtain ⟨I', b1, b2, b3⟩ := m_pick hJ (n := 1) hw8 hc.1 (by omega)
            rw [show fX9_pick J (nI w) 1 = _ from b1, bd1]
            exact ⟨I', rfl, b2, f3.w.tr b3⟩
