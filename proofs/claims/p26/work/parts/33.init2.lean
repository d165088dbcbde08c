/-! the further constructors -/
def FR (b : Nat) (Ly : LL) (I : II) (P : PP) (Ly' : LL) (I' : II) (P' : PP) : Prop := ∀ k, k < b → Ly' k = Ly k ∧ I' k = I k ∧ P' k = P k
def ST (b : Nat) (Ly' : LL) (I' : II) (P' : PP) : Prop :=
  (Ly' b = .inl 4 ∧ Ly' (b + 1) = .inr (0, 256) ∧ Ly' (b + 2) = .inr (3, 8) ∧ Ly' (b + 3) = .inl 5 ∧ Ly' (b + 4) = .inr (0, 30) ∧ ∀ j, j < 8 → Ly' (b + 5 + j) = .inl 6) ∧
  (P' b 2 = some (b + 1) ∧ P' b 3 = some (b + 2) ∧ P' b 5 = some (b + 3) ∧ P' (b + 3) 0 = some (b + 4) ∧ ∀ j, j < 8 → P' (b + 2) j = some (b + 5 + j)) ∧
  (I' b 0 = 8 ∧ I' b 1 = 8 ∧ I' b 4 = 0 ∧ I' b 6 = 0 ∧ I' b 7 = 0) ∧ (∀ c, I' (b + 1) c = 0) ∧ (I' (b + 3) 1 = 1 ∧ I' (b + 3) 2 = 0 ∧ I' (b + 3) 3 = 1) ∧ ∀ t, I' (b + 4) t = 0
theorem SPo.st {b : Nat} {Ly : LL} {I : II} {P : PP} {r : Option AV} {n' : Nat} {Ly' : LL} {I' : II} {P' : PP} (h : SPo b Ly I P r n' Ly' I' P') : r = none ∧ n' = b + 13 ∧ FR b Ly I P Ly' I' P' ∧ ST b Ly' I' P' := ⟨h.1, h.2.1, h.2.2.1, h.2.2.2⟩
theorem ST.fr {b : Nat} {L1 L2 : LL} {I1 I2 : II} {P1 P2 : PP} (h : ST b L1 I1 P1) (hf : ∀ k, b ≤ k → k < b + 13 → L2 k = L1 k ∧ I2 k = I1 k ∧ P2 k = P1 k) : ST b L2 I2 P2 := by
  obtain ⟨⟨a1, a2, a3, a4, a5, a6⟩, ⟨p1, p2, p3, p4, p5⟩, h3, h5, h6, h7⟩ := h
  have f0 := hf b (by omega) (by omega)
  have f1 := hf (b + 1) (by omega) (by omega)
  have f2 := hf (b + 2) (by omega) (by omega)
  have f3 := hf (b + 3) (by omega) (by omega)
  have f4 := hf (b + 4) (by omega) (by omega)
  refine ⟨⟨?_, ?_, ?_, ?_, ?_, fun j hj => ?_⟩, ⟨?_, ?_, ?_, ?_, fun j hj => ?_⟩, ?_, fun c => ?_, ?_, fun t => ?_⟩
  · rw [f0.1]; exact a1
  · rw [f1.1]; exact a2
  · rw [f2.1]; exact a3
  · rw [f3.1]; exact a4
  · rw [f4.1]; exact a5
  · rw [(hf (b + 5 + j) (by omega) (by omega)).1]; exact a6 j hj
  · rw [f0.2.2]; exact p1
  · rw [f0.2.2]; exact p2
  · rw [f0.2.2]; exact p3
  · rw [f3.2.2]; exact p4
  · rw [f2.2.2]; exact p5 j hj
  · rw [f0.2.1]; exact h3
  · rw [f1.2.1]; exact h5 c
  · rw [f3.2.1]; exact h6
  · rw [f4.2.1]; exact h7 t
def HPo (b : Nat) (Ly : LL) (I : II) (P : PP) : PQ := fun r n' Ly' I' P' => r = none ∧ n' = b + 6 ∧ FR b Ly I P Ly' I' P' ∧ (Ly' b = .inl 0 ∧ Ly' (b + 1) = .inr (0, 128) ∧ Ly' (b + 2) = .inr (0, 128) ∧ Ly' (b + 3) = .inr (0, 128) ∧ Ly' (b + 4) = .inr (0, 256) ∧ Ly' (b + 5) = .inr (0, 256)) ∧ (P' b 0 = some (b + 1) ∧ P' b 1 = some (b + 2) ∧ P' b 2 = some (b + 3) ∧ P' b 3 = some (b + 4) ∧ P' b 4 = some (b + 5)) ∧ I' b 6 = 1
set_option maxHeartbeats 4000000 in
theorem c_X0_init {b : Nat} {Ly : LL} {I : II} {P : PP} (hl : Ly b = .inl 0) (l : Launch) (s0 : Nat) (D : va_G) (DA : Nat → ClassId) : Ct l s0 D DA mX0_init [.inr (some b)] 5 896 (b + 1) Ly I P (HPo b Ly I P) := ct_of (by decide +kernel) (Nat.le_of_ble_eq_true rfl) (fun X F hr hi => by
  refine s_aload_n F dX0_init_0 rfl ?_
  refine s_objInit F dX0_init_1 lkX0_3 (by decide) (by decide) ?_
  refine s_aload_n F dX0_init_4 rfl ?_
  refine s_sipush (v := 128) F dX0_init_5 (by decide) ?_
  refine s_newa (t := 0) (len := 128) (at0 := .int) (ty := .int) F dX0_init_8 rfl rfl (by omega) (fun _ => rfl) ac_int (fun C h => by cases h) (by decide) (by decide) (by decide) (by decide) (by decide) ?_
  refine s_putF F (hi rfl) dX0_init_10 flX0_9 (by simp [upL, hl, Nat.add_assoc]) (by omega) rfl rfl rfl ?_
  refine s_aload_n F dX0_init_13 rfl ?_
  refine s_sipush (v := 128) F dX0_init_14 (by decide) ?_
  refine s_newa (t := 0) (len := 128) (at0 := .int) (ty := .int) F dX0_init_17 rfl rfl (by omega) (fun _ => rfl) ac_int (fun C h => by cases h) (by decide) (by decide) (by decide) (by decide) (by decide) ?_
  refine s_putF F (hi rfl) dX0_init_19 flX0_15 (by simp [upL, hl, Nat.add_assoc]) (by omega) rfl rfl rfl ?_
  refine s_aload_n F dX0_init_22 rfl ?_
  refine s_sipush (v := 128) F dX0_init_23 (by decide) ?_
  refine s_newa (t := 0) (len := 128) (at0 := .int) (ty := .int) F dX0_init_26 rfl rfl (by omega) (fun _ => rfl) ac_int (fun C h => by cases h) (by decide) (by decide) (by decide) (by decide) (by decide) ?_
  refine s_putF F (hi rfl) dX0_init_28 flX0_18 (by simp [upL, hl, Nat.add_assoc]) (by omega) rfl rfl rfl ?_
  refine s_aload_n F dX0_init_31 rfl ?_
  refine s_sipush (v := 256) F dX0_init_32 (by decide) ?_
  refine s_newa (t := 0) (len := 256) (at0 := .int) (ty := .int) F dX0_init_35 rfl rfl (by omega) (fun _ => rfl) ac_int (fun C h => by cases h) (by decide) (by decide) (by decide) (by decide) (by decide) ?_
  refine s_putF F (hi rfl) dX0_init_37 flX0_21 (by simp [upL, hl, Nat.add_assoc]) (by omega) rfl rfl rfl ?_
  refine s_aload_n F dX0_init_40 rfl ?_
  refine s_sipush (v := 256) F dX0_init_41 (by decide) ?_
  refine s_newa (t := 0) (len := 256) (at0 := .int) (ty := .int) F dX0_init_44 rfl rfl (by omega) (fun _ => rfl) ac_int (fun C h => by cases h) (by decide) (by decide) (by decide) (by decide) (by decide) ?_
  refine s_putF F (hi rfl) dX0_init_46 flX0_24 (by simp [upL, hl, Nat.add_assoc]) (by omega) rfl rfl rfl ?_
  refine s_aload_n F dX0_init_49 rfl ?_
  refine s_iconst (v := 0) F dX0_init_50 (by decide) ?_
  refine s_putI F dX0_init_51 flX0_27 (by simp [upL, hl, Nat.add_assoc]) (by omega) rfl rfl ⟨rfl, rfl⟩ ?_
  refine s_aload_n F dX0_init_54 rfl ?_
  refine s_iconst (v := 1) F dX0_init_55 (by decide) ?_
  refine s_putI F dX0_init_56 flX0_31 (by simp [upL, hl, Nat.add_assoc]) (by omega) rfl rfl (by exact ⟨rfl, rfl⟩) ?_
  refine s_vret F hr dX0_init_59 (by decide) (by decide) ⟨rfl, rfl, fun k hk => ?_, ⟨?_, ?_, ?_, ?_, ?_, ?_⟩, ⟨?_, ?_, ?_, ?_, ?_⟩, ?_⟩
  · have q0 : k ≠ b := by omega
    have q1 : k ≠ b + 1 := by omega
    have q2 : k ≠ b + 1 + 1 := by omega
    have q3 : k ≠ b + 1 + 1 + 1 := by omega
    have q4 : k ≠ b + 1 + 1 + 1 + 1 := by omega
    have q5 : k ≠ b + 1 + 1 + 1 + 1 + 1 := by omega
    simp only [upL_n q1, upL_n q2, upL_n q3, upL_n q4, upL_n q5, up2_n q0, nwI_n q1, nwI_n q2, nwI_n q3, nwI_n q4, nwI_n q5, upP_n q0, nwP_n q1, nwP_n q2, nwP_n q3, nwP_n q4, nwP_n q5, and_self]
  · simp [upL, hl, Nat.add_assoc]
  · simp [upL, Nat.add_assoc]
  · simp [upL, Nat.add_assoc]
  · simp [upL, Nat.add_assoc]
  · simp [upL, Nat.add_assoc]
  · simp [upL, Nat.add_assoc]
  · simp [upP, nwP, Nat.add_assoc]
  · simp [upP, nwP, Nat.add_assoc]
  · simp [upP, nwP, Nat.add_assoc]
  · simp [upP, nwP, Nat.add_assoc]
  · simp [upP, nwP, Nat.add_assoc]
  · simp [up2, Nat.add_assoc])
def LPo (b : Nat) (Ly : LL) (I : II) (P : PP) : PQ := fun r n' Ly' I' P' => r = none ∧ n' = b + 4 ∧ FR b Ly I P Ly' I' P' ∧ (Ly' b = .inl 2 ∧ Ly' (b + 1) = .inr (1, 40) ∧ Ly' (b + 2) = .inr (1, 40) ∧ Ly' (b + 3) = .inr (0, 40)) ∧ (P' b 0 = some (b + 1) ∧ P' b 2 = some (b + 2) ∧ P' b 3 = some (b + 3)) ∧ I' b 1 = 0
set_option maxHeartbeats 4000000 in
theorem c_X2_init {b : Nat} {Ly : LL} {I : II} {P : PP} (hl : Ly b = .inl 2) (l : Launch) (s0 : Nat) (D : va_G) (DA : Nat → ClassId) : Ct l s0 D DA mX2_init [.inr (some b)] 3 120 (b + 1) Ly I P (LPo b Ly I P) := ct_of (by decide +kernel) (Nat.le_of_ble_eq_true rfl) (fun X F hr hi => by
  refine s_aload_n F dX2_init_0 rfl ?_
  refine s_objInit F dX2_init_1 lkX2_3 (by decide) (by decide) ?_
  refine s_aload_n F dX2_init_4 rfl ?_
  refine s_bipush (v := 40) F dX2_init_5 (by decide) ?_
  refine s_newa (t := 1) (len := 40) (at0 := .char) (ty := .char) F dX2_init_7 rfl rfl (by omega) (fun _ => rfl) ac_char (fun C h => by cases h) (by decide) (by decide) (by decide) (by decide) (by decide) ?_
  refine s_putF F (hi rfl) dX2_init_9 flX2_9 (by simp [upL, hl, Nat.add_assoc]) (by omega) rfl rfl rfl ?_
  refine s_aload_n F dX2_init_12 rfl ?_
  refine s_iconst (v := 0) F dX2_init_13 (by decide) ?_
  refine s_putI F dX2_init_14 flX2_15 (by simp [upL, hl, Nat.add_assoc]) (by omega) rfl rfl ⟨rfl, rfl⟩ ?_
  refine s_aload_n F dX2_init_17 rfl ?_
  refine s_bipush (v := 40) F dX2_init_18 (by decide) ?_
  refine s_newa (t := 1) (len := 40) (at0 := .char) (ty := .char) F dX2_init_20 rfl rfl (by omega) (fun _ => rfl) ac_char (fun C h => by cases h) (by decide) (by decide) (by decide) (by decide) (by decide) ?_
  refine s_putF F (hi rfl) dX2_init_22 flX2_19 (by simp [upL, hl, Nat.add_assoc]) (by omega) rfl rfl rfl ?_
  refine s_aload_n F dX2_init_25 rfl ?_
  refine s_bipush (v := 40) F dX2_init_26 (by decide) ?_
  refine s_newa (t := 0) (len := 40) (at0 := .int) (ty := .int) F dX2_init_28 rfl rfl (by omega) (fun _ => rfl) ac_int (fun C h => by cases h) (by decide) (by decide) (by decide) (by decide) (by decide) ?_
  refine s_putF F (hi rfl) dX2_init_30 flX2_22 (by simp [upL, hl, Nat.add_assoc]) (by omega) rfl rfl rfl ?_
  refine s_aload_n F dX2_init_33 rfl ?_
  refine s_iconst (v := 0) F dX2_init_34 (by decide) ?_
  refine s_putI F dX2_init_35 flX2_26 (by simp [upL, hl, Nat.add_assoc]) (by omega) rfl rfl ⟨rfl, rfl⟩ ?_
  refine s_aload_n F dX2_init_38 rfl ?_
  refine s_iconst (v := 0) F dX2_init_39 (by decide) ?_
  refine s_putI F dX2_init_40 flX2_29 (by simp [upL, hl, Nat.add_assoc]) (by omega) rfl rfl (by exact ⟨rfl, rfl⟩) ?_
  refine s_vret F hr dX2_init_43 (by decide) (by decide) ⟨rfl, rfl, fun k hk => ?_, ⟨?_, ?_, ?_, ?_⟩, ⟨?_, ?_, ?_⟩, ?_⟩
  · have q0 : k ≠ b := by omega
    have q1 : k ≠ b + 1 := by omega
    have q2 : k ≠ b + 1 + 1 := by omega
    have q3 : k ≠ b + 1 + 1 + 1 := by omega
    simp only [upL_n q1, upL_n q2, upL_n q3, up2_n q0, nwI_n q1, nwI_n q2, nwI_n q3, upP_n q0, nwP_n q1, nwP_n q2, nwP_n q3, and_self]
  · simp [upL, hl, Nat.add_assoc]
  · simp [upL, Nat.add_assoc]
  · simp [upL, Nat.add_assoc]
  · simp [upL, Nat.add_assoc]
  · simp [upP, nwP, Nat.add_assoc]
  · simp [upP, nwP, Nat.add_assoc]
  · simp [upP, nwP, Nat.add_assoc]
  · simp [up2, nwI, Nat.add_assoc])
def TPo (b : Nat) (Ly : LL) (I : II) (P : PP) : PQ := fun r n' Ly' I' P' => r = none ∧ n' = b + 14 ∧ FR b Ly I P Ly' I' P' ∧ Ly' b = .inl 3 ∧ P' b 0 = some (b + 1) ∧ I' b 1 = 0 ∧ ST (b + 1) Ly' I' P'
set_option maxHeartbeats 4000000 in
theorem c_X3_init {b : Nat} {Ly : LL} {I : II} {P : PP} (hl : Ly b = .inl 3) (l : Launch) (s0 : Nat) (D : va_G) (DA : Nat → ClassId) : Ct l s0 D DA mX3_init [.inr (some b)] 13 378 (b + 1) Ly I P (TPo b Ly I P) := ct_of (by decide +kernel) (Nat.le_of_ble_eq_true rfl) (fun X F hr hi => by
  refine s_aload_n F dX3_init_0 rfl ?_
  refine s_objInit F dX3_init_1 lkX3_1 (by decide) (by decide) ?_
  refine s_aload_n F dX3_init_4 rfl ?_
  refine s_new F dX3_init_5 lnX3_7 (by decide) (by decide) ?_
  refine s_dup F dX3_init_8 ?_
  refine s_callI (av := []) F dX3_init_9 (fun l s0 D DA => c_X4_init upL_a l s0 D DA) rfl lkX3_9 okX4_init rfl (Nat.le_of_ble_eq_true rfl) (by decide) (by decide) (by decide) (fun _ _ _ _ _ h => h.2.1) (fun r n' Ly' I' P' hpo => ?_)
  obtain ⟨rfl, rfl, hf, hst⟩ := hpo.st
  have fb := hf b (by omega)
  have hl' : Ly' b = .inl 3 := by rw [fb.1, upL_n (by omega)]; exact hl
  refine s_putF F (hi rfl) dX3_init_12 flX3_10 hl' (by omega) rfl rfl rfl ?_
  refine s_aload_n F dX3_init_15 rfl ?_
  refine s_iconst (v := 0) F dX3_init_16 (by decide) ?_
  refine s_putI F dX3_init_17 flX3_16 hl' (by omega) rfl rfl (by exact ⟨rfl, rfl⟩) ?_
  refine s_vret F hr dX3_init_20 (by decide) (by decide) ⟨rfl, by omega, fun k hk => ?_, hl', upP_a, up2_a, hst.fr (fun k h1 h2 => ?_)⟩
  · have f := hf k (by omega)
    rw [f.1, upL_n (by omega), up2_n (by omega), f.2.1, nwI_n (by omega), upP_n (by omega), f.2.2, nwP_n (by omega)]
    exact ⟨rfl, rfl, rfl⟩
  · rw [up2_n (by omega), upP_n (by omega)]
    exact ⟨rfl, rfl, rfl⟩)
def WPo (b : Nat) (Ly : LL) (I : II) (P : PP) : PQ := fun r n' Ly' I' P' => r = none ∧ n' = b + 20 ∧ FR b Ly I P Ly' I' P' ∧ Ly' b = .inl 7 ∧ (P' b 0 = some (b + 1) ∧ P' b 1 = some (b + 14)) ∧ ST (b + 1) Ly' I' P' ∧ (Ly' (b + 14) = .inl 0 ∧ Ly' (b + 14 + 1) = .inr (0, 128) ∧ Ly' (b + 14 + 2) = .inr (0, 128) ∧ Ly' (b + 14 + 3) = .inr (0, 128) ∧ Ly' (b + 14 + 4) = .inr (0, 256) ∧ Ly' (b + 14 + 5) = .inr (0, 256)) ∧ (P' (b + 14) 0 = some (b + 14 + 1) ∧ P' (b + 14) 1 = some (b + 14 + 2) ∧ P' (b + 14) 2 = some (b + 14 + 3) ∧ P' (b + 14) 3 = some (b + 14 + 4) ∧ P' (b + 14) 4 = some (b + 14 + 5)) ∧ I' (b + 14) 6 = 1
set_option maxHeartbeats 4000000 in
theorem c_X7_init {b : Nat} {Ly : LL} {I : II} {P : PP} (hl : Ly b = .inl 7) (l : Launch) (s0 : Nat) (D : va_G) (DA : Nat → ClassId) : Ct l s0 D DA mX7_init [.inr (some b)] 19 1281 (b + 1) Ly I P (WPo b Ly I P) := ct_of (by decide +kernel) (Nat.le_of_ble_eq_true rfl) (fun X F hr hi => by
  refine s_aload_n F dX7_init_0 rfl ?_
  refine s_objInit F dX7_init_1 lkX7_3 (by decide) (by decide) ?_
  refine s_aload_n F dX7_init_4 rfl ?_
  refine s_new F dX7_init_5 lnX7_9 (by decide) (by decide) ?_
  refine s_dup F dX7_init_8 ?_
  refine s_callI (av := []) F dX7_init_9 (fun l s0 D DA => c_X4_init upL_a l s0 D DA) rfl lkX7_11 okX4_init rfl (Nat.le_of_ble_eq_true rfl) (by decide) (by decide) (by decide) (fun _ _ _ _ _ h => h.2.1) (fun r n' Ly' I' P' hpo => ?_)
  obtain ⟨rfl, rfl, hf, hst⟩ := hpo.st
  have fb := hf b (by omega)
  have hl' : Ly' b = .inl 7 := by rw [fb.1, upL_n (by omega)]; exact hl
  refine s_putF F (hi rfl) dX7_init_12 flX7_12 hl' (by omega) rfl rfl rfl ?_
  refine s_aload_n F dX7_init_15 rfl ?_
  refine s_new F dX7_init_16 lnX7_18 (by decide) (by decide) ?_
  refine s_dup F dX7_init_19 ?_
  refine s_callIN (av := []) F dX7_init_20 (fun l s0 D DA => c_X0_init upL_a l s0 D DA) rfl lkX7_20 okX0_init rfl (Nat.le_of_ble_eq_true rfl) (by decide) (by decide) (by decide) (fun _ _ _ _ _ h => h.2.1) (fun r n2 Ly2 I2 P2 hpo2 => ?_)
  obtain ⟨rfl, rfl, hg, hh1, hh2, hh3⟩ := hpo2
  rw [show b + 1 + 13 = b + 14 from rfl] at *
  have gb := hg b (by omega)
  have hl2 : Ly2 b = .inl 7 := by rw [gb.1, upL_n (by omega)]; exact hl'
  refine s_putF F (hi rfl) dX7_init_23 flX7_21 hl2 (by omega) rfl rfl rfl ?_
  refine s_vret F hr dX7_init_26 (by decide) (by decide) ⟨rfl, rfl, fun k hk => ?_, hl2, ⟨?_, upP_a⟩, hst.fr (fun k h1 h2 => ?_), hh1, ?_, hh3⟩
  · have f := hf k (by omega)
    have g := hg k (by omega)
    rw [g.1, upL_n (by omega), f.1, upL_n (by omega), g.2.1, nwI_n (by omega), f.2.1, nwI_n (by omega), upP_n (by omega), g.2.2, nwP_n (by omega), upP_n (by omega), f.2.2, nwP_n (by omega)]
    exact ⟨rfl, rfl, rfl⟩
  · rw [upP_b (by omega), gb.2.2, nwP_n (by omega), upP_a]
  · have g := hg k (by omega)
    rw [g.1, upL_n (by omega), g.2.1, nwI_n (by omega), upP_n (by omega), g.2.2, nwP_n (by omega), upP_n (by omega)]
    exact ⟨rfl, rfl, rfl⟩
  · rw [upP_n (by omega)]
    exact hh2)
