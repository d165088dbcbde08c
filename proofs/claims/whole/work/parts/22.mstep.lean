/-! a step of the reference's, and its rounds, upon the row -/
noncomputable def mgR (ρ r : Nat → Nat) : Nat → Nat := stR (stR r 6 (r 6 + (mF (gR ρ) - mF (gR r)))) 7 (r 7 + (mF (gR r) - mF (gR ρ)))
noncomputable def goR (ρ : Nat → Nat) (w : Nat) : Nat → Nat := mgR ρ (actR (moR ρ w (nbr (cw ρ w) (ρ (wI w 2)))) w)
theorem Good.go {ρ : Nat → Nat} {w : Nat} (h : Good ρ) (hw : w < ρ 2) (hf : Fre ρ (cw ρ w) (ρ (wI w 2))) : Good (goR ρ w) := by
  have h1 := h.mo hw hf.2.1 hf.2.2
  have h2 := h1.act (by rw [mo_lo (by omega)]; exact hw)
  exact (h2.st (Or.inl rfl)).st (Or.inr (Or.inl rfl))
theorem mg_lo {ρ r : Nat → Nat} {j : Nat} (h6 : j ≠ 6) (h7 : j ≠ 7) : mgR ρ r j = r j := by
  unfold mgR
  rw [stR_n h7, stR_n h6]
theorem go_lo {ρ : Nat → Nat} {w j : Nat} (h : Good ρ) (hw : w < ρ 2) (hf : Fre ρ (cw ρ w) (ρ (wI w 2))) (hj : j < 6) : goR ρ w j = ρ j := by
  unfold goR
  rw [mg_lo (by omega) (by omega), act_lo (h.mo hw hf.2.1 hf.2.2) (by rw [mo_lo (by omega)]; exact hw) (by omega), mo_lo (by omega)]
theorem m_up {I : II} {ρ : Nat → Nat} (h : MR I ρ) {k v : Nat} {z : Int32} (hz : z = nI v) : MR (up2 I 135 k z) (stR ρ k v) := by rw [hz]; exact h.up
theorem m_go {I : II} {ρ : Nat → Nat} (h : MR I ρ) (hG : Good ρ) {w : Nat} (hw : w < ρ 2) (hf : Fre ρ (cw ρ w) (ρ (wI w 2))) : ∃ I', fX9_goAhead I (nI w) = some I' ∧ MR I' (goR ρ w) ∧ FM1 I I' := by
  have hw8 : w < 8 := by have := hG.2.1; omega
  have hW := hG.2.2.2.2.2.1 w hw
  have hc := hW.cell hG.1
  obtain ⟨J, f1, f2, f3⟩ := findHeaps_sp h hG.1
  have hJ := h.fm f3
  unfold fX9_goAhead
  have hs : fX9_stepped J (nI (cw ρ w)) (nI (ρ (wI w 2))) = some (nI (nbr (cw ρ w) (ρ (wI w 2)))) := by
    rcases step_sp hJ hG.1 hc.1 hc.2.2.2.1 hc.2.2.2.2 hW.2.2.1 with q | q
    · exact q.2.2.2
    · exfalso
      have := hf.1
      have := hf.2
      omega
  rw [f1, bd1, m_cell hJ hw8, bd1, show fX9_of J (nI w) 2 = _ from m_of hJ hw8 2 (by omega), bd1, hs, bd1]
  have hef := hf.1
  generalize he : nbr (cw ρ w) (ρ (wI w 2)) = e at hs hef ⊢
  rw [show nI e / 16 = nI (e / 16) from pk_div (d := 16) (by omega) (by omega) (by omega), show rm (nI e) 16 = nI (e % 16) from rmN (d := 16) (by omega) (by omega) (by omega)]
  have h0 : MR (up2 J 135 (wI w 0) (nI (e / 16))) (stR ρ (wI w 0) (e / 16)) := hJ.up
  have h1 : MR (up2 (up2 J 135 (wI w 0) (nI (e / 16))) 135 (wI w 1) (nI (e % 16))) (stR (stR ρ (wI w 0) (e / 16)) (wI w 1) (e % 16)) := h0.up
  rw [show fX9_lay J (nI w) 0 (nI (e / 16)) = _ from m_lay hw8 0 (by omega) _, bd1, show fX9_lay _ (nI w) 1 (nI (e % 16)) = _ from m_lay hw8 1 (by omega) _, bd1]
  have a6 := m_of h1 hw8 6 (by omega)
  rw [stR_n (show wI w 6 ≠ wI w 1 by unfold wI; omega), stR_n (show wI w 6 ≠ wI w 0 by unfold wI; omega)] at a6
  rw [show fX9_of _ (nI w) 6 = _ from a6, bd1, nI_1, show fX9_lay _ (nI w) 6 _ = _ from m_lay hw8 6 (by omega) _, bd1]
  have h2 := h1.up (k := wI w 6) (v := ρ (wI w 6) + 1)
  have e8 : (up2 (up2 (up2 J 135 (wI w 0) (nI (e / 16))) 135 (wI w 1) (nI (e % 16))) 135 (wI w 6) (nI (ρ (wI w 6) + 1))) 135 8 + 1 = nI (ρ 8 + 1) := by
    rw [h2 8 (by omega), stR_n (show 8 ≠ wI w 6 by unfold wI; omega), stR_n (show 8 ≠ wI w 1 by unfold wI; omega), stR_n (show 8 ≠ wI w 0 by unfold wI; omega), nI_1]
  have h3 : MR (up2 (up2 (up2 (up2 J 135 (wI w 0) (nI (e / 16))) 135 (wI w 1) (nI (e % 16))) 135 (wI w 6) (nI (ρ (wI w 6) + 1))) 135 8 (nI (ρ 8 + 1))) (moR ρ w e) := h2.up
  rw [e8, bd1]
  have hG1 := hG.mo (e := e) hw (by have := hf.2.1; rw [he] at this; exact this) (by have := hf.2.2; rw [he] at this; exact this)
  have hw2 : w < moR ρ w e 2 := by rw [mo_lo (by omega)]; exact hw
  obtain ⟨K, k1, k2, k3⟩ := m_act h3 hG1 hw2
  have hG2 := hG1.act hw2
  rw [k1, bd1]
  obtain ⟨M, n1, n2, n3⟩ := findHeaps_sp k2 hG2.1
  have hM := k2.fm n3
  have hF : FM1 I M := f3.w.tr (FM1.up.tr (FM1.up.tr (FM1.up.tr (FM1.up.tr (k3.tr n3.w)))))
  have b1 := mF_le (gR ρ)
  have b2 := mF_le (gR (actR (moR ρ w e) w))
  rw [n1, bd1, f2.1, n2.1]
  have hgo : goR ρ w = mgR ρ (actR (moR ρ w e) w) := by unfold goR; rw [he]
  rw [hgo]
  unfold mgR
  have hr : ∃ v, v = mF (gR ρ) - mF (gR (actR (moR ρ w e) w)) := ⟨_, rfl⟩
  obtain ⟨v, hv⟩ := hr
  have hj : fX9_goAhead_J107 M (nI (mF (gR ρ))) 6 (M 135 6) (nI v) = some (up2 (up2 M 135 6 (nI (actR (moR ρ w e) w 6 + v))) 135 7 (nI (actR (moR ρ w e) w 7 + (mF (gR (actR (moR ρ w e) w)) - mF (gR ρ))))) := by
    unfold fX9_goAhead_J107
    rw [show ix (6 : Int32) 367 = true from rfl, ck_t rfl, show (6 : Int32).toNatClampNeg = 6 from rfl, hM 6 (by omega), nI_add, bd1, up2_n (show 134 ≠ 135 by omega), up2_b (show 7 ≠ 6 by omega), n2.1, hM 7 (by omega)]
    by_cases z : mF (gR (actR (moR ρ w e) w)) ≤ mF (gR ρ)
    · rw [ifp ((leN (by omega) (by omega)).mpr z), add0, show mF (gR (actR (moR ρ w e) w)) - mF (gR ρ) = 0 by omega]
      rfl
    · rw [ifn (fun y => z ((leN (by omega) (by omega)).mp y)), pk_sub (by omega), nI_add]
      rfl
  have fin : MR (up2 (up2 M 135 6 (nI (actR (moR ρ w e) w 6 + v))) 135 7 (nI (actR (moR ρ w e) w 7 + (mF (gR (actR (moR ρ w e) w)) - mF (gR ρ))))) (stR (stR (actR (moR ρ w e) w) 6 (actR (moR ρ w e) w 6 + v)) 7 (actR (moR ρ w e) w 7 + (mF (gR (actR (moR ρ w e) w)) - mF (gR ρ)))) := hM.up.up
  rw [hv] at hj fin
  refine ⟨_, ?_, fin, hF.tr (FM1.up.tr FM1.up)⟩
  by_cases z : mF (gR ρ) ≤ mF (gR (actR (moR ρ w e) w))
  · rw [ifp ((leN (by omega) (by omega)).mpr z), ← hj, show mF (gR ρ) - mF (gR (actR (moR ρ w e) w)) = 0 by omega]
    rfl
  · rw [ifn (fun y => z ((leN (by omega) (by omega)).mp y)), pk_sub (by omega), ← hj]
/-- the direction, turned to the right until the next cell is on the board -/
noncomputable def dirR (ρ : Nat → Nat) (c d : Nat) : Nat := if Fre ρ c d then d else if Fre ρ c ((d + 1) % 4) then (d + 1) % 4 else (d + 2) % 4
theorem fre_op {ρ : Nat → Nat} (hB : Bd ρ) {c d : Nat} (hc : c < 256) (hr : c / 16 < ρ 0) (hcc : c % 16 < ρ 1) (hd : d < 4) (hn : ¬ Fre ρ c d) : Fre ρ c ((d + 2) % 4) := by
  have b1 := hB.1
  have b2 := hB.2.1
  have n0 : (c < 16 ∧ nbr c 0 = 256) ∨ (16 ≤ c ∧ nbr c 0 = c - 16) := by
    by_cases z : c < 16
    · exact Or.inl ⟨z, if_pos z⟩
    · exact Or.inr ⟨by omega, if_neg z⟩
  have n1 : (c % 16 = 15 ∧ nbr c 1 = 256) ∨ (c % 16 ≠ 15 ∧ nbr c 1 = c + 1) := by
    by_cases z : c % 16 = 15
    · exact Or.inl ⟨z, if_pos z⟩
    · exact Or.inr ⟨by omega, if_neg z⟩
  have n2 : (240 ≤ c ∧ nbr c 2 = 256) ∨ (c < 240 ∧ nbr c 2 = c + 16) := by
    by_cases z : 240 ≤ c
    · exact Or.inl ⟨z, if_pos z⟩
    · exact Or.inr ⟨by omega, if_neg z⟩
  have n3 : (c % 16 = 0 ∧ nbr c 3 = 256) ∨ (c % 16 ≠ 0 ∧ nbr c 3 = c - 1) := by
    by_cases z : c % 16 = 0
    · exact Or.inl ⟨z, if_pos z⟩
    · exact Or.inr ⟨by omega, if_neg z⟩
  unfold Fre at hn ⊢
  have hd' : d = 0 ∨ d = 1 ∨ d = 2 ∨ d = 3 := by omega
  rcases hd' with e | e | e | e <;> subst e
  · show nbr c 2 < 256 ∧ nbr c 2 / 16 < ρ 0 ∧ nbr c 2 % 16 < ρ 1
    omega
  · show nbr c 3 < 256 ∧ nbr c 3 / 16 < ρ 0 ∧ nbr c 3 % 16 < ρ 1
    omega
  · show nbr c 0 < 256 ∧ nbr c 0 / 16 < ρ 0 ∧ nbr c 0 % 16 < ρ 1
    omega
  · show nbr c 1 < 256 ∧ nbr c 1 / 16 < ρ 0 ∧ nbr c 1 % 16 < ρ 1
    omega
theorem dirR_sp {ρ : Nat → Nat} (hB : Bd ρ) {c d : Nat} (hc : c < 256) (hr : c / 16 < ρ 0) (hcc : c % 16 < ρ 1) (hd : d < 4) : Fre ρ c (dirR ρ c d) ∧ dirR ρ c d < 4 := by
  unfold dirR
  by_cases h1 : Fre ρ c d
  · rw [if_pos h1]; exact ⟨h1, hd⟩
  · rw [if_neg h1]
    by_cases h2 : Fre ρ c ((d + 1) % 4)
    · rw [if_pos h2]; exact ⟨h2, by omega⟩
    · rw [if_neg h2]; exact ⟨fre_op hB hc hr hcc hd h1, by omega⟩
noncomputable def d1R (ρ : Nat → Nat) (w : Nat) : Nat := (ρ (wI w 2) + tn (ρ (337 + ρ 4))) % 4
noncomputable def rotR (ρ : Nat → Nat) (w : Nat) : Nat → Nat := stR (stR ρ 4 ((ρ 4 + 1) % ρ 3)) (wI w 2) (dirR ρ (cw ρ w) (d1R ρ w))
noncomputable def stepR (ρ : Nat → Nat) (w : Nat) : Nat → Nat := goR (rotR ρ w) w
theorem cw_di {ρ : Nat → Nat} {w v : Nat} : cw (stR ρ (wI w 2) v) w = cw ρ w := by
  unfold cw
  rw [stR_n (wI_ne (by omega) (by omega) (by omega)), stR_n (wI_ne (by omega) (by omega) (by omega))]
theorem cw_4 {ρ : Nat → Nat} {w v : Nat} : cw (stR ρ 4 v) w = cw ρ w := by
  unfold cw
  rw [stR_n (by unfold wI; omega), stR_n (by unfold wI; omega)]
theorem fre_st {ρ : Nat → Nat} {k v c d : Nat} (h0 : k ≠ 0) (h1 : k ≠ 1) : Fre (stR ρ k v) c d ↔ Fre ρ c d := by
  unfold Fre
  rw [stR_n (Ne.symm h0), stR_n (Ne.symm h1)]
theorem Good.rot {ρ : Nat → Nat} {w : Nat} (h : Good ρ) (hw : w < ρ 2) : Good (rotR ρ w) ∧ Fre (rotR ρ w) (cw (rotR ρ w) w) (rotR ρ w (wI w 2)) := by
  have hc := (h.2.2.2.2.2.1 w hw).cell h.1
  have hw8 : w < 8 := by have := h.2.1; omega
  have hd := dirR_sp h.1 hc.1 hc.2.2.2.1 hc.2.2.2.2 (d := d1R ρ w) (Nat.mod_lt _ (by omega))
  have g3 := h.2.2.1
  refine ⟨(h.st (Or.inr (Or.inr ⟨rfl, Nat.mod_lt _ (by omega)⟩))).di hw8 hd.2, ?_⟩
  unfold rotR
  rw [cw_di, cw_4, stR_s, fre_st (by unfold wI; omega) (by unfold wI; omega), fre_st (by omega) (by omega)]
  exact hd.1
theorem rot_lo {ρ : Nat → Nat} {w j : Nat} (h4 : j ≠ 4) (hj : j < 265) : rotR ρ w j = ρ j := by
  unfold rotR
  rw [stR_n (by unfold wI; omega), stR_n h4]
theorem Good.step {ρ : Nat → Nat} {w : Nat} (h : Good ρ) (hw : w < ρ 2) : Good (stepR ρ w) := by
  have h1 := h.rot hw
  exact h1.1.go (by rw [rot_lo (by omega) (by omega)]; exact hw) h1.2
theorem step_lo {ρ : Nat → Nat} {w j : Nat} (h : Good ρ) (hw : w < ρ 2) (hj : j < 6) (h4 : j ≠ 4) : stepR ρ w j = ρ j := by
  have h1 := h.rot hw
  unfold stepR
  rw [go_lo h1.1 (by rw [rot_lo (by omega) (by omega)]; exact hw) h1.2 hj, rot_lo h4 (by omega)]
theorem stp_fre {I : II} {ρ : Nat → Nat} (h : MR I ρ) (hB : Bd ρ) {c d : Nat} (hc : c < 256) (hr : c / 16 < ρ 0) (hcc : c % 16 < ρ 1) (hd : d < 4) : (Fre ρ c d → fX9_stepped I (nI c) (nI d) = some (nI (nbr c d))) ∧ (¬ Fre ρ c d → fX9_stepped I (nI c) (nI d) = some (-5)) := by
  unfold Fre
  rcases step_sp h hB hc hr hcc hd with q | q
  · exact ⟨fun _ => q.2.2.2, fun n => absurd ⟨q.1, q.2.1, q.2.2.1⟩ n⟩
  · exact ⟨fun n => by exfalso; omega, fun _ => q.2⟩
theorem m_step {I : II} {ρ : Nat → Nat} (h : MR I ρ) (hG : Good ρ) {w : Nat} (hw : w < ρ 2) : ∃ I', fX9_step I (nI w) = some I' ∧ MR I' (stepR ρ w) ∧ FM1 I I' := by
  have hw8 : w < 8 := by have := hG.2.1; omega
  have hW := hG.2.2.2.2.2.1 w hw
  have hc := hW.cell hG.1
  have hr := hG.rot hw
  have hd4 := hW.2.2.1
  have htn : tn (ρ (337 + ρ 4)) < 4 := by unfold tn; (repeat' split) <;> omega
  obtain ⟨J, t1, t2, t3⟩ := m_turn h hG
  unfold fX9_step
  rw [show fX9_of I (nI w) 2 = _ from m_of h hw8 2 (by omega), bd1, t1, bd1]
  simp only []
  rw [nI_add, show rm (nI (ρ (wI w 2) + tn (ρ (337 + ρ 4)))) 4 = nI (d1R ρ w) from rmN (d := 4) (by omega) (by omega) (by omega), show fX9_lay J (nI w) 2 _ = _ from m_lay hw8 2 (by omega) _, bd1]
  have hd1 : d1R ρ w < 4 := Nat.mod_lt _ (by omega)
  -- one look ahead
  have look : ∀ (k : Nat) (K : II) (d : Nat), d < 4 → MR K (stR (stR ρ 4 ((ρ 4 + 1) % ρ 3)) (wI w 2) d) → FM1 I K →
      (Fre ρ (cw ρ w) d → fX9_step_L19 (k + 1) (fun I10 => (fX9_goAhead I10 (nI w)).bind fun v11 => some v11) (nI w) K = (fX9_goAhead K (nI w)).bind fun v11 => some v11) ∧
      (¬ Fre ρ (cw ρ w) d → ∃ K', fX9_step_L19 (k + 1) (fun I10 => (fX9_goAhead I10 (nI w)).bind fun v11 => some v11) (nI w) K = fX9_step_L19 k (fun I10 => (fX9_goAhead I10 (nI w)).bind fun v11 => some v11) (nI w) K' ∧ MR K' (stR (stR ρ 4 ((ρ 4 + 1) % ρ 3)) (wI w 2) ((d + 1) % 4)) ∧ FM1 I K') := by
    intro k K d hd hK hF
    have hBK : Bd (stR (stR ρ 4 ((ρ 4 + 1) % ρ 3)) (wI w 2) d) := ((hG.st (Or.inr (Or.inr ⟨rfl, Nat.mod_lt _ (by have := hG.2.2.1; omega)⟩))).di hw8 hd).1
    have s0 := stp_fre hK hBK hc.1 (by rw [stR_n (by unfold wI; omega), stR_n (by omega)]; exact hc.2.2.2.1) (by rw [stR_n (by unfold wI; omega), stR_n (by omega)]; exact hc.2.2.2.2) hd
    rw [fre_st (by unfold wI; omega) (by unfold wI; omega), fre_st (by omega) (by omega)] at s0
    have c0 := m_cell hK hw8
    rw [cw_di, cw_4] at c0
    have d0 := m_of hK hw8 2 (by omega)
    rw [stR_s] at d0
    constructor
    · intro hf
      show ((fX9_cellOf K (nI w)).bind fun v4 => (fX9_of K (nI w) 2).bind fun v5 => _) = _
      rw [c0, bd1, show fX9_of K (nI w) 2 = _ from d0, bd1, s0.1 hf, bd1, ifp (nI_nneg (by have := hf.1; omega))]
    · intro hf
      refine ⟨up2 K 135 (wI w 2) (nI ((d + 1) % 4)), ?_, ?_, hF.tr FM1.up⟩
      · show ((fX9_cellOf K (nI w)).bind fun v4 => (fX9_of K (nI w) 2).bind fun v5 => _) = _
        rw [c0, bd1, show fX9_of K (nI w) 2 = _ from d0, bd1, s0.2 hf, bd1, ifn (by decide), bd1, nI_1, show rm (nI (d + 1)) 4 = nI ((d + 1) % 4) from rmN (d := 4) (by omega) (by omega) (by omega), show fX9_lay K (nI w) 2 _ = _ from m_lay hw8 2 (by omega) _, bd1]
      · have := hK.up (k := wI w 2) (v := (d + 1) % 4)
        rw [stR_tw] at this
        exact this
  have go : ∀ (K : II), MR K (rotR ρ w) → FM1 I K → ∃ I', ((fX9_goAhead K (nI w)).bind fun v11 => some v11) = some I' ∧ MR I' (stepR ρ w) ∧ FM1 I I' := by
    intro K hK hF
    obtain ⟨I', g1, g2, g3⟩ := m_go hK hr.1 (by rw [rot_lo (by omega) (by omega)]; exact hw) hr.2
    exact ⟨I', by rw [g1, bd1], g2, hF.tr g3⟩
  have hr0 : rotR ρ w = stR (stR ρ 4 ((ρ 4 + 1) % ρ 3)) (wI w 2) (dirR ρ (cw ρ w) (d1R ρ w)) := rfl
  have hK1 := t2.up (k := wI w 2) (v := d1R ρ w)
  obtain ⟨l1, l2⟩ := look 1999 _ _ hd1 hK1 (t3.tr FM1.up)
  by_cases q1 : Fre ρ (cw ρ w) (d1R ρ w)
  · have hd : dirR ρ (cw ρ w) (d1R ρ w) = d1R ρ w := if_pos q1
    rw [hd] at hr0
    rw [l1 q1]
    exact go _ (by rw [hr0]; exact hK1) (t3.tr FM1.up)
  · obtain ⟨K2, m1, m2, m3⟩ := l2 q1
    rw [m1]
    obtain ⟨l3, l4⟩ := look 1998 K2 ((d1R ρ w + 1) % 4) (Nat.mod_lt _ (by omega)) m2 m3
    by_cases q2 : Fre ρ (cw ρ w) ((d1R ρ w + 1) % 4)
    · have hd : dirR ρ (cw ρ w) (d1R ρ w) = (d1R ρ w + 1) % 4 := (if_neg q1).trans (if_pos q2)
      rw [hd] at hr0
      rw [l3 q2]
      exact go _ (by rw [hr0]; exact m2) m3
    · obtain ⟨K3, m4, m5, m6⟩ := l4 q2
      rw [m4]
      have hd : dirR ρ (cw ρ w) (d1R ρ w) = (d1R ρ w + 2) % 4 := (if_neg q1).trans (if_neg q2)
      have e2 : ((d1R ρ w + 1) % 4 + 1) % 4 = (d1R ρ w + 2) % 4 := by omega
      rw [e2] at m5
      rw [hd] at hr0
      have q3 := fre_op hG.1 hc.1 hc.2.2.2.1 hc.2.2.2.2 hd1 q1
      rw [(look 1997 K3 ((d1R ρ w + 2) % 4) (Nat.mod_lt _ (by omega)) m5 m6).1 q3]
      exact go _ (by rw [hr0]; exact m5) m6
/-- the first k walkers, one after the other -/
noncomputable def rnR (ρ : Nat → Nat) : Nat → (Nat → Nat)
  | 0 => ρ
  | k + 1 => stepR (rnR ρ k) k
theorem rn_g {ρ : Nat → Nat} (h : Good ρ) : ∀ k, k ≤ ρ 2 → Good (rnR ρ k) ∧ ∀ j, j < 6 → j ≠ 4 → rnR ρ k j = ρ j
  | 0, _ => ⟨h, fun _ _ _ => rfl⟩
  | k + 1, hk => by
    obtain ⟨h1, h2⟩ := rn_g h k (by omega)
    have hw : k < rnR ρ k 2 := by rw [h2 2 (by omega) (by omega)]; omega
    exact ⟨h1.step hw, fun j hj h4 => (step_lo h1 hw hj h4).trans (h2 j hj h4)⟩
noncomputable def rdR (ρ : Nat → Nat) : Nat → Nat := rnR ρ (ρ 2)
theorem Good.rd {ρ : Nat → Nat} (h : Good ρ) : Good (rdR ρ) := (rn_g h (ρ 2) (Nat.le_refl _)).1
theorem rd_lo {ρ : Nat → Nat} (h : Good ρ) {j : Nat} (hj : j < 6) (h4 : j ≠ 4) : rdR ρ j = ρ j := (rn_g h (ρ 2) (Nat.le_refl _)).2 j hj h4
theorem m_round {I : II} {ρ : Nat → Nat} (h : MR I ρ) (hG : Good ρ) : ∃ I', fX9_oneRound I = some I' ∧ MR I' (rdR ρ) ∧ FM1 I I' := by
  have h8 := hG.2.1
  have lp : ∀ (n k : Nat) (K : II) (fu : Nat), k + n = ρ 2 → n < fu → MR K (rnR ρ k) → FM1 I K → ∃ I', fX9_oneRound_L2 fu (fun I3 => some I3) (nI k) K = some I' ∧ MR I' (rdR ρ) ∧ FM1 I I' := by
    intro n
    induction n with
    | zero =>
      intro k K fu hk hf hK hF
      obtain ⟨fu, rfl⟩ : ∃ m, fu = m + 1 := ⟨fu - 1, by omega⟩
      have g := rn_g hG k (by omega)
      refine ⟨K, ?_, ?_, hF⟩
      · show (if K 135 2 ≤ nI k then some K else _) = _
        rw [hK 2 (by omega), g.2 2 (by omega) (by omega), ifp ((leN (by omega) (by omega)).mpr (by omega))]
      · unfold rdR
        rw [show ρ 2 = k by omega]
        exact hK
    | succ n ih =>
      intro k K fu hk hf hK hF
      obtain ⟨fu, rfl⟩ : ∃ m, fu = m + 1 := ⟨fu - 1, by omega⟩
      have g := rn_g hG k (by omega)
      obtain ⟨K', s1, s2, s3⟩ := m_step hK g.1 (w := k) (by rw [g.2 2 (by omega) (by omega)]; omega)
      show ∃ I', (if K 135 2 ≤ nI k then some K else (fX9_step K (nI k)).bind fun v2 => fX9_oneRound_L2 fu (fun I3 => some I3) (nI k + 1) v2) = some I' ∧ _
      rw [hK 2 (by omega), g.2 2 (by omega) (by omega), ifn (fun y => by have := (leN (by omega) (by omega)).mp y; omega), s1, bd1, nI_1]
      exact ih (k + 1) K' fu (by omega) (by omega) s2 (hF.tr s3)
  exact lp (ρ 2) 0 I 2000 (by omega) (by omega) h FM1.rf
noncomputable def rds (ρ : Nat → Nat) : Nat → (Nat → Nat)
  | 0 => ρ
  | k + 1 => rdR (rds ρ k)
noncomputable def stps (ρ : Nat → Nat) (w : Nat) : Nat → (Nat → Nat)
  | 0 => ρ
  | k + 1 => stepR (stps ρ w k) w
theorem rds_g {ρ : Nat → Nat} (h : Good ρ) : ∀ k, Good (rds ρ k) ∧ ∀ j, j < 6 → j ≠ 4 → rds ρ k j = ρ j
  | 0 => ⟨h, fun _ _ _ => rfl⟩
  | k + 1 => ⟨(rds_g h k).1.rd, fun j hj h4 => (rd_lo (rds_g h k).1 hj h4).trans ((rds_g h k).2 j hj h4)⟩
theorem stps_g {ρ : Nat → Nat} (h : Good ρ) {w : Nat} (hw : w < ρ 2) : ∀ k, Good (stps ρ w k) ∧ ∀ j, j < 6 → j ≠ 4 → stps ρ w k j = ρ j
  | 0 => ⟨h, fun _ _ _ => rfl⟩
  | k + 1 => by
    obtain ⟨h1, h2⟩ := stps_g h hw k
    have hw' : w < stps ρ w k 2 := by rw [h2 2 (by omega) (by omega)]; exact hw
    exact ⟨h1.step hw', fun j hj h4 => (step_lo h1 hw' hj h4).trans (h2 j hj h4)⟩
