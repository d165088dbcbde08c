/-! turns, walkers, boards -/
theorem CR.tu {I I' : II} {ρ ρ' : Nat → Nat} (h : CR I ρ) (g2 : ρ 2 ≤ 8) (hf : ∀ a, a ≠ 5 → a ≠ 6 → I' a = I a) (hρ : ∀ j, j < 337 → j ≠ 3 → j ≠ 4 → j ≠ 5 → ρ' j = ρ j) (t1 : I' 5 1 = nI (ρ' 3)) (t2 : I' 5 2 = nI (ρ' 4)) (t3 : I' 5 3 = nI (ρ' 5)) (t4 : ∀ t, t < ρ' 3 → I' 6 t = nI (ρ' (337 + t))) : CR I' ρ' := by
  obtain ⟨⟨h1, h2, h3, h4, h5⟩, hH⟩ := h
  refine ⟨⟨?_, fun i hi => ?_, ⟨t1, t2, t3⟩, t4, fun u e hu he => ?_⟩, ?_⟩
  · rw [hf 2 (by omega) (by omega), hρ 0 (by omega) (by omega) (by omega) (by omega), hρ 1 (by omega) (by omega) (by omega) (by omega), hρ 2 (by omega) (by omega) (by omega) (by omega), hρ 6 (by omega) (by omega) (by omega) (by omega), hρ 7 (by omega) (by omega) (by omega) (by omega)]
    exact h1
  · rw [hf _ (by omega) (by omega)]
    unfold gR
    rw [hρ _ (by omega) (by omega) (by omega) (by omega)]
    exact h2 i hi
  · rw [hρ 2 (by omega) (by omega) (by omega) (by omega)] at hu
    rw [hf _ (by omega) (by omega), hρ _ (by unfold wI; omega) (by unfold wI; omega) (by unfold wI; omega) (by unfold wI; omega)]
    exact h5 u e hu he
  · exact HC_congr (hH.fm (fun a _ _ => hf a (by omega) (by omega))) (fun c hc => hρ _ (by omega) (by omega) (by omega) (by omega))
theorem Good.tu {ρ ρ' : Nat → Nat} (h : Good ρ) (hρ : ∀ j, j < 337 → j ≠ 3 → j ≠ 4 → j ≠ 5 → ρ' j = ρ j) (t1 : 1 ≤ ρ' 3 ∧ ρ' 3 ≤ 30) (t2 : ρ' 4 < ρ' 3) (t3 : ρ' 5 ≤ 1) (t4 : ∀ t, t < ρ' 3 → ρ' (337 + t) ≤ 9) : Good ρ' := by
  obtain ⟨⟨b1, b2, b3, b4⟩, g2, g3, g4, g5, g6, g7, g8⟩ := h
  have o : ∀ j, j < 337 → j ≠ 3 → j ≠ 4 → j ≠ 5 → ρ' j = ρ j := hρ
  have og : ∀ c, c < 256 → gR ρ' c = gR ρ c := fun c hc => o _ (by omega) (by omega) (by omega) (by omega)
  have ow : ∀ u f, u < 8 → f < 9 → ρ' (wI u f) = ρ (wI u f) := fun u f hu hf => o _ (by unfold wI; omega) (by unfold wI; omega) (by unfold wI; omega) (by unfold wI; omega)
  have o2 := o 2 (by omega) (by omega) (by omega) (by omega)
  refine ⟨⟨?_, ?_, fun i hi => ?_, fun i hi hcc => ?_⟩, ?_, t1, t2, t3, fun u hu => ?_, t4, ?_⟩
  · rw [o 0 (by omega) (by omega) (by omega) (by omega)]; exact b1
  · rw [o 1 (by omega) (by omega) (by omega) (by omega)]; exact b2
  · rw [og i hi]; exact b3 i hi
  · rw [o 0 (by omega) (by omega) (by omega) (by omega), o 1 (by omega) (by omega) (by omega) (by omega)] at hcc
    rw [og i hi]; exact b4 i hi hcc
  · rw [o2]; exact g2
  · rw [o2] at hu
    have w0 := g6 u hu
    unfold Wk at w0 ⊢
    rw [o 0 (by omega) (by omega) (by omega) (by omega), o 1 (by omega) (by omega) (by omega) (by omega), ow u 0 (by omega) (by omega), ow u 1 (by omega) (by omega), ow u 2 (by omega) (by omega), ow u 3 (by omega) (by omega), ow u 4 (by omega) (by omega), ow u 5 (by omega) (by omega)]
    exact w0
  · rw [o 8 (by omega) (by omega) (by omega) (by omega), o2, g8]
    refine sm_congr _ (fun u hu => ?_)
    exact (ow u 6 (by omega) (by omega)).symm
/-- a further turn -/
def atR (ρ : Nat → Nat) (s x : Nat) : Nat → Nat := stR (stR (stR (stR ρ (337 + s) x) 3 (s + 1)) 5 0) 4 0
theorem at_0 {ρ : Nat → Nat} {s x : Nat} : atR ρ s x 3 = s + 1 ∧ atR ρ s x 4 = 0 ∧ atR ρ s x 5 = 0 ∧ (∀ t, atR ρ s x (337 + t) = if t = s then x else ρ (337 + t)) ∧ ∀ j, j < 337 → j ≠ 3 → j ≠ 4 → j ≠ 5 → atR ρ s x j = ρ j := by
  unfold atR
  refine ⟨?_, ?_, ?_, fun t => ?_, fun j h1 h2 h3 h4 => ?_⟩
  · rw [stR_n (by omega), stR_n (by omega), stR_s]
  · rw [stR_s]
  · rw [stR_n (by omega), stR_s]
  · rw [stR_n (by omega), stR_n (by omega), stR_n (by omega)]
    by_cases e : t = s
    · rw [if_pos e, e, stR_s]
    · rw [if_neg e, stR_n (by omega)]
  · rw [stR_n (by omega), stR_n (by omega), stR_n (by omega), stR_n (by omega)]
theorem e337 (c : Nat) : (337 : Int32) + nI c = nI (337 + c) := nI_add 337 c
theorem op_addTurn (v : Int32) : OpS (fun I P => fX8_addTurn I P v) (fun J => fX9_addTurn J v) := by
  intro A I P J hG hC hM
  have g2 := hG.1.2.1
  have g3 := hG.1.2.2.1
  have g5 := hG.1.2.2.2.2.1
  show ∃ a I1 P1 J1 A', fX8_addTurn I P v = some (a, I1, P1) ∧ fX9_addTurn J v = some (a, J1) ∧ _
  unfold fX8_addTurn fX9_addTurn
  rw [isB_sp]
  rcases rng v 0 9 (by omega) (by omega) with ⟨m, -, hm, rfl, e3⟩ | ⟨-, e3⟩
  · rw [show fX9_in (nI m) 0 9 = _ from e3, bd1, bd1, if1, if1, show I 5 1 = _ from hC.1.1.2.2.1.1, hM.1 3 (by omega)]
    by_cases a2 : A.1 3 = 30
    · rw [ifn (show ¬ nI (A.1 3) < (30 : Int32) from fun z => by have := (nI_ltI (b := 30) (by omega) (by omega)).mp z; omega), ifn (show ¬ ¬ nI (A.1 3) = (30 : Int32) from fun z => z (by rw [a2]; rfl))]
      exact refuse hG hC hM _
    · rw [ifp (show nI (A.1 3) < (30 : Int32) from (nI_ltI (b := 30) (by omega) (by omega)).mpr (by omega)), ifp (show ¬ nI (A.1 3) = (30 : Int32) from fun z => a2 ((eqN (b := 30) (by omega) (by omega)).mp z))]
      obtain ⟨I1, P1, J1, r1, r2, r3, r4, r6, -, r5⟩ := doIt hG hC hM
      rw [r1, r2, bd1, bd1]
      simp only []
      -- from a known size on
      have key : ∀ (s : Nat) (K : II), s < 30 → s ≤ A.1 3 → (∀ a, a ≠ 5 → K a = I1 a) → K 5 1 = nI s → K 5 3 = 0 → ∃ a I2 P2 J2 A', ((fX5_append_J17 K 5 (nI m)).bind fun v5 => some ((v5 5 1), v5, P1)) = some (a, I2, P2) ∧ fX9_addTurn_J51 J1 (nI m) (nI s) = some (a, J2) ∧ GI A' ∧ CI I2 P2 A' ∧ MI J2 A' ∧ FrC I I2 ∧ FrM J J2 := by
        intro s K hs hs3 k1 k2 k3
        unfold fX5_append_J17 fX9_addTurn_J51
        rw [k2, ifn (show ¬ nI s < (0 : Int32) from fun z => by have := (nI_ltI (b := 0) (by omega) (by omega)).mp z; omega), ifn (show ¬ (30 : Int32) ≤ nI s from nle (a := 30) (by omega) (by omega) (by omega)), ckN hs (by omega), tnN (show s < 2 ^ 31 by omega), bd1, up2_n (show (5 : Nat) ≠ 5 + 1 by omega), k2, nI_1, bd1, bd1, bd1, up2_b (by omega), up2_a, e337, ckN (show 337 + s < 367 by omega) (by omega), tnN (show 337 + s < 2 ^ 31 by omega), bd1, bd1, bd1, bd1]
        obtain ⟨a3, a4, a5, a6, a7⟩ := at_0 (ρ := A.1) (s := s) (x := m)
        have hGn : Good (atR A.1 s m) := hG.1.tu a7 (by rw [a3]; omega) (by rw [a3, a4]; omega) (by rw [a5]; omega) (fun t ht => by
          rw [a3] at ht
          rw [a6]
          split
          · exact hm
          · exact hG.1.2.2.2.2.2.2.1 t (by omega))
        obtain ⟨J3, d1, d2, d3, d4, d5, d6⟩ := r5 (atR A.1 s m) (up2 (up2 (up2 K (5 + 1) s (nI m)) 5 1 (nI (s + 1))) 5 2 0) (up2 (up2 (up2 (up2 J1 135 (337 + s) (nI m)) 135 3 (nI (s + 1))) 135 5 0) 135 4 0) (nI (s + 1)) hGn
          (fun a ha => by rw [up2_n (by omega), up2_n (by omega), up2_n (by omega), k1 a (by omega)])
          (r3.tu g2 (fun a ha hb => by rw [up2_n (by omega), up2_n (by omega), up2_n (by omega), k1 a ha]) a7 (by rw [up2_b (by omega), up2_a, a3]) (by rw [up2_a, a4]; rfl) (by rw [up2_b (by omega), up2_b (by omega), up2_n (by omega), k3, a5]; rfl) (fun t ht => by
            rw [a3] at ht
            rw [up2_n (by omega), up2_n (by omega), up2_at, a6]
            by_cases e : t = s
            · rw [if_pos e, if_pos e]
            · rw [if_neg e, if_neg e, k1 6 (by omega)]
              exact r3.1.2.2.2.1 t (by omega)))
          (FM1.up.tr (FM1.up.tr (FM1.up.tr FM1.up))) (m_up (m_up (r4.up.up) rfl) rfl)
        rw [d1, bd1]
        exact ⟨_, _, P1, J3, _, rfl, rfl, d2, d3, d4, d5, d6⟩
      have e5 : I1 5 3 = nI (A.1 5) := r3.1.2.2.1.2.2
      have e51 : I1 5 1 = nI (A.1 3) := r3.1.2.2.1.1
      unfold fX5_append
      rw [e5, r4 5 (by omega), r4 3 (by omega)]
      by_cases q : A.1 5 = 0
      · rw [q, ifp (show nI 0 = (0 : Int32) from rfl), ifp (show ¬ nI 0 = (1 : Int32) by decide)]
        exact key (A.1 3) I1 (by omega) (Nat.le_refl _) (fun _ _ => rfl) e51 (by rw [e5, q]; rfl)
      · have q1 : A.1 5 = 1 := by omega
        rw [q1, ifn (show ¬ nI 1 = (0 : Int32) by decide), ifn (show ¬ ¬ nI 1 = (1 : Int32) by decide), bd1, bd1]
        exact key 0 (up2 (up2 I1 5 1 0) 5 3 0) (by omega) (by omega) (fun a ha => by rw [up2_n ha, up2_n ha]) (by rw [up2_b (by omega), up2_a]; rfl) up2_a
  · rw [show fX9_in v 0 9 = _ from e3, bd1, bd1, if0, if0]
    exact refuse hG hC hM _
theorem op_clearTurns : OpS (fun I P => fX8_clearTurns I P) (fun J => fX9_clearTurns J) := by
  intro A I P J hG hC hM
  have g2 := hG.1.2.1
  have g3 := hG.1.2.2.1
  show ∃ a I1 P1 J1 A', fX8_clearTurns I P = some (a, I1, P1) ∧ fX9_clearTurns J = some (a, J1) ∧ _
  unfold fX8_clearTurns fX9_clearTurns fX5_begin
  obtain ⟨I1, P1, J1, r1, r2, r3, r4, r6, -, r5⟩ := doIt hG hC hM
  rw [r1, r2, bd1, bd1]
  simp only []
  rw [bd1, bd1, bd1, bd1, bd1, bd1, bd1, bd1, bd1, r4 3 (by omega)]
  have a3 : ∀ j, stR (stR (stR (stR A.1 337 0) 3 1) 5 1) 4 0 j = if j = 4 then 0 else if j = 5 then 1 else if j = 3 then 1 else if j = 337 then 0 else A.1 j := fun _ => rfl
  have a7 : ∀ j, j < 337 → j ≠ 3 → j ≠ 4 → j ≠ 5 → stR (stR (stR (stR A.1 337 0) 3 1) 5 1) 4 0 j = A.1 j := by
    intro j h1 h2 h3 h4
    rw [a3, if_neg (by omega), if_neg (by omega), if_neg (by omega), if_neg (by omega)]
  generalize hρ : stR (stR (stR (stR A.1 337 0) 3 1) 5 1) 4 0 = ρ' at a3 a7
  have b3 : ρ' 3 = 1 := by rw [a3]; rfl
  have b4 : ρ' 4 = 0 := by rw [a3]; rfl
  have b5 : ρ' 5 = 1 := by rw [a3]; rfl
  have b6 : ρ' 337 = 0 := by rw [a3]; rfl
  obtain ⟨J3, d1, d2, d3, d4, d5, d6⟩ := r5 ρ' (up2 (up2 (up2 (up2 I1 (5 + 1) 0 0) 5 1 1) 5 2 0) 5 3 1) (up2 (up2 (up2 (up2 J1 135 337 0) 135 3 1) 135 5 1) 135 4 0) (nI (A.1 3)) (hG.1.tu a7 (by rw [b3]; omega) (by rw [b3, b4]; omega) (by rw [b5]; omega) (fun t ht => by rw [b3] at ht; rw [show t = 0 by omega, b6]; omega))
    (fun a ha => by rw [up2_n (by omega), up2_n (by omega), up2_n (by omega), up2_n (by omega)])
    (r3.tu g2 (fun a ha hb => by rw [up2_n (by omega), up2_n (by omega), up2_n (by omega), up2_n (by omega)]) a7 (by rw [b3]; rfl) (by rw [b4]; rfl) (by rw [b5]; rfl) (fun t ht => by rw [b3] at ht; rw [show t = 0 by omega, b6]; rfl))
    (FM1.up.tr (FM1.up.tr (FM1.up.tr FM1.up))) (by rw [← hρ]; exact m_up (m_up (m_up (m_up r4 rfl) rfl) rfl) rfl)
  rw [d1, bd1, show I 5 1 = _ from hC.1.1.2.2.1.1]
  exact ⟨_, _, P1, J3, _, rfl, rfl, d2, d3, d4, d5, d6⟩
