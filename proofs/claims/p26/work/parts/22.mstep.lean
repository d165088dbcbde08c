/-! a step of the reference's, and its rounds, upon the row -/
noncomputable def mgR (ρ r : Nat → Nat) : Nat → Nat := stR (stR r 6 (r 6 + (mF (gR ρ) - mF (gR r)))) 7 (r 7 + (mF (gR r) - mF (gR ρ)))
noncomputable def goR (ρ : Nat → Nat) (w : Nat) : Nat → Nat := mgR ρ (actR (moR ρ w (nbr (cw ρ w) (ρ (wI w 2)))) w)
theorem Good.go {ρ : Nat → Nat} {w : Nat} (h : Good ρ) (hw : w < ρ 2) (hf : Fre ρ (cw ρ w) (ρ (wI w 2))) : Good (goR ρ w) := by
  have h1 := h.mo hw hf.2.1 hf.2.2
  have h2 := h1.act (by rw [mo_lo (by omega)]; exact hw)
  exact (h2.st (Or.inl rfl)).st (Or.inr (Or.inl rfl))
theorem mg_lo {ρ r : Nat → Nat} {j : Nat} (h6 : j ≠ 6) (h7 : j ≠ 7) : mgR ρ r j = r j := by
  unfold mgR
  rw [stR_n h7, stR_n h6]
theorem go_lo {ρ : Nat → Nat} {w j : Nat} (h : Good ρ) (hw : w < ρ 2) (hf : Fre ρ (cw ρ w) (ρ (wI w 2))) (hj : j < 6) : goR ρ w j = ρ j := by
  unfold goR
  rw [mg_lo (by omega) (by omega), act_lo (h.mo hw hf.2.1 hf.2.2) (by rw [mo_lo (by omega)]; exact hw) (by omega), mo_lo (by omega)]
noncomputable def dirR (ρ : Nat → Nat) (c d : Nat) : Nat := if Fre ρ c d then d else if Fre ρ c ((d + 1) % 4) then (d + 1) % 4 else (d + 2) % 4
theorem fre_op {ρ : Nat → Nat} (hB : Bd ρ) {c d : Nat} (hc : c < 256) (hr : c / 16 < ρ 0) (hcc : c % 16 < ρ 1) (hd : d < 4) (hn : ¬ Fre ρ c d) : Fre ρ c ((d + 2) % 4) := by
  have b1 := hB.1
  have b2 := hB.2.1
  have n0 : (c < 16 ∧ nbr c 0 = 256) ∨ (16 ≤ c ∧ nbr c 0 = c - 16) := by
    by_cases z : c < 16
    · exact Or.inl ⟨z, if_pos z⟩
    · exact Or.inr ⟨by omega, if_neg z⟩
  have n1 : (c % 16 = 15 ∧ nbr c 1 = 256) ∨ (c % 16 ≠ 15 ∧ nbr c 1 = c + 1) := by
    by_cases z : c % 16 = 15
    · exact Or.inl ⟨z, if_pos z⟩
    · exact Or.inr ⟨by omega, if_neg z⟩
  have n2 : (240 ≤ c ∧ nbr c 2 = 256) ∨ (c < 240 ∧ nbr c 2 = c + 16) := by
    by_cases z : 240 ≤ c
    · exact Or.inl ⟨z, if_pos z⟩
    · exact Or.inr ⟨by omega, if_neg z⟩
  have n3 : (c % 16 = 0 ∧ nbr c 3 = 256) ∨ (c % 16 ≠ 0 ∧ nbr c 3 = c - 1) := by
    by_cases z : c % 16 = 0
    · exact Or.inl ⟨z, if_pos z⟩
    · exact Or.inr ⟨by omega, if_neg z⟩
  unfold Fre at hn ⊢
  have hd' : d = 0 ∨ d = 1 ∨ d = 2 ∨ d = 3 := by omega
  rcases hd' with e | e | e | e <;> subst e
  · show nbr c 2 < 256 ∧ nbr c 2 / 16 < ρ 0 ∧ nbr c 2 % 16 < ρ 1
    omega
  · show nbr c 3 < 256 ∧ nbr c 3 / 16 < ρ 0 ∧ nbr c 3 % 16 < ρ 1
    omega
  · show nbr c 0 < 256 ∧ nbr c 0 / 16 < ρ 0 ∧ nbr c 0 % 16 < ρ 1
    omega
  · show nbr c 1 < 256 ∧ nbr c 1 / 16 < ρ 0 ∧ nbr c 1 % 16 < ρ 1
    omega
theorem dirR_sp {ρ : Nat → Nat} (hB : Bd ρ) {c d : Nat} (hc : c < 256) (hr : c / 16 < ρ 0) (hcc : c % 16 < ρ 1) (hd : d < 4) : Fre ρ c (dirR ρ c d) ∧ dirR ρ c d < 4 := by
  unfold dirR
  by_cases h1 : Fre ρ c d
  · rw [if_pos h1]; exact ⟨h1, hd⟩
  · rw [if_neg h1]
    by_cases h2 : Fre ρ c ((d + 1) % 4)
    · rw [if_pos h2]; exact ⟨h2, by omega⟩
    · rw [if_neg h2]; exact ⟨fre_op hB hc hr hcc hd h1, by omega⟩
noncomputable def d1R (ρ : Nat → Nat) (w : Nat) : Nat := (ρ (wI w 2) + tn (ρ (337 + ρ 4))) % 4
noncomputable def rotR (ρ : Nat → Nat) (w : Nat) : Nat → Nat := stR (stR ρ 4 ((ρ 4 + 1) % ρ 3)) (wI w 2) (dirR ρ (cw ρ w) (d1R ρ w))
noncomputable def stepR (ρ : Nat → Nat) (w : Nat) : Nat → Nat := goR (rotR ρ w) w
theorem cw_di {ρ : Nat → Nat} {w v : Nat} : cw (stR ρ (wI w 2) v) w = cw ρ w := by
  unfold cw
  rw [stR_n (wI_ne (by omega) (by omega) (by omega)), stR_n (wI_ne (by omega) (by omega) (by omega))]
theorem cw_4 {ρ : Nat → Nat} {w v : Nat} : cw (stR ρ 4 v) w = cw ρ w := by
  unfold cw
  rw [stR_n (by unfold wI; omega), stR_n (by unfold wI; omega)]
theorem fre_st {ρ : Nat → Nat} {k v c d : Nat} (h0 : k ≠ 0) (h1 : k ≠ 1) : Fre (stR ρ k v) c d ↔ Fre ρ c d := by
  unfold Fre
  rw [stR_n (Ne.symm h0), stR_n (Ne.symm h1)]
theorem Good.rot {ρ : Nat → Nat} {w : Nat} (h : Good ρ) (hw : w < ρ 2) : Good (rotR ρ w) ∧ Fre (rotR ρ w) (cw (rotR ρ w) w) (rotR ρ w (wI w 2)) := by
  have hc := (h.2.2.2.2.2.1 w hw).cell h.1
  have hw8 : w < 8 := by have := h.2.1; omega
  have hd := dirR_sp h.1 hc.1 hc.2.2.2.1 hc.2.2.2.2 (d := d1R ρ w) (Nat.mod_lt _ (by omega))
  have g3 := h.2.2.1
  refine ⟨(h.st (Or.inr (Or.inr ⟨rfl, Nat.mod_lt _ (by omega)⟩))).di hw8 hd.2, ?_⟩
  unfold rotR
  rw [cw_di, cw_4, stR_s, fre_st (by unfold wI; omega) (by unfold wI; omega), fre_st (by omega) (by omega)]
  exact hd.1
theorem rot_lo {ρ : Nat → Nat} {w j : Nat} (h4 : j ≠ 4) (hj : j < 265) : rotR ρ w j = ρ j := by
  unfold rotR
  rw [stR_n (by unfold wI; omega), stR_n h4]
theorem Good.step {ρ : Nat → Nat} {w : Nat} (h : Good ρ) (hw : w < ρ 2) : Good (stepR ρ w) := by
  have h1 := h.rot hw
  exact h1.1.go (by rw [rot_lo (by omega) (by omega)]; exact hw) h1.2
theorem step_lo {ρ : Nat → Nat} {w j : Nat} (h : Good ρ) (hw : w < ρ 2) (hj : j < 6) (h4 : j ≠ 4) : stepR ρ w j = ρ j := by
  have h1 := h.rot hw
  unfold stepR
  rw [go_lo h1.1 (by rw [rot_lo (by omega) (by omega)]; exact hw) h1.2 hj, rot_lo h4 (by omega)]
noncomputable def rnR (ρ : Nat → Nat) : Nat → (Nat → Nat)
  | 0 => ρ
  | k + 1 => stepR (rnR ρ k) k
theorem rn_g {ρ : Nat → Nat} (h : Good ρ) : ∀ k, k ≤ ρ 2 → Good (rnR ρ k) ∧ ∀ j, j < 6 → j ≠ 4 → rnR ρ k j = ρ j
  | 0, _ => ⟨h, fun _ _ _ => rfl⟩
  | k + 1, hk => by
    obtain ⟨h1, h2⟩ := rn_g h k (by omega)
    have hw : k < rnR ρ k 2 := by rw [h2 2 (by omega) (by omega)]; omega
    exact ⟨h1.step hw, fun j hj h4 => (step_lo h1 hw hj h4).trans (h2 j hj h4)⟩
noncomputable def rdR (ρ : Nat → Nat) : Nat → Nat := rnR ρ (ρ 2)
theorem Good.rd {ρ : Nat → Nat} (h : Good ρ) : Good (rdR ρ) := (rn_g h (ρ 2) (Nat.le_refl _)).1
theorem rd_lo {ρ : Nat → Nat} (h : Good ρ) {j : Nat} (hj : j < 6) (h4 : j ≠ 4) : rdR ρ j = ρ j := (rn_g h (ρ 2) (Nat.le_refl _)).2 j hj h4
noncomputable def rds (ρ : Nat → Nat) : Nat → (Nat → Nat)
  | 0 => ρ
  | k + 1 => rdR (rds ρ k)
noncomputable def stps (ρ : Nat → Nat) (w : Nat) : Nat → (Nat → Nat)
  | 0 => ρ
  | k + 1 => stepR (stps ρ w k) w
theorem rds_g {ρ : Nat → Nat} (h : Good ρ) : ∀ k, Good (rds ρ k) ∧ ∀ j, j < 6 → j ≠ 4 → rds ρ k j = ρ j
  | 0 => ⟨h, fun _ _ _ => rfl⟩
  | k + 1 => ⟨(rds_g h k).1.rd, fun j hj h4 => (rd_lo (rds_g h k).1 hj h4).trans ((rds_g h k).2 j hj h4)⟩
theorem stps_g {ρ : Nat → Nat} (h : Good ρ) {w : Nat} (hw : w < ρ 2) : ∀ k, Good (stps ρ w k) ∧ ∀ j, j < 6 → j ≠ 4 → stps ρ w k j = ρ j
  | 0 => ⟨h, fun _ _ _ => rfl⟩
  | k + 1 => by
    obtain ⟨h1, h2⟩ := stps_g h hw k
    have hw' : w < stps ρ w k 2 := by rw [h2 2 (by omega) (by omega)]; exact hw
    exact ⟨h1.step hw', fun j hj h4 => (step_lo h1 hw' hj h4).trans (h2 j hj h4)⟩
