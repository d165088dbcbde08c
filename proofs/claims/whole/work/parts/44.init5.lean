/-! the reference's constructor -/
def MPo (Ly : LL) (I : II) (P : PP) : PQ := fun r n' Ly' I' P' => r = none ∧ n' = 149 ∧ FR 134 Ly I P Ly' I' P' ∧ Ly' 134 = .inl 9 ∧ (Ly' 135 = .inr (0, 367) ∧ Ly' 136 = .inr (0, 367) ∧ Ly' 137 = .inr (0, 1835) ∧ Ly' 138 = .inr (0, 734) ∧ Ly' 139 = .inr (2, 2) ∧ Ly' 140 = .inr (0, 256) ∧ Ly' 141 = .inr (0, 128) ∧ Ly' 142 = .inr (0, 128) ∧ Ly' 143 = .inr (0, 128) ∧ Ly' 144 = .inr (0, 128) ∧ Ly' 145 = .inr (0, 256) ∧ Ly' 146 = .inr (1, 40) ∧ Ly' 147 = .inr (1, 40) ∧ Ly' 148 = .inr (0, 40)) ∧ PM P' ∧ (∀ k, I' 135 k = if k = 5 then 1 else if k = 3 then 1 else if k = 1 then 8 else if k = 0 then 8 else 0) ∧ (∀ j, I' 139 j = 0) ∧ I' 134 = I 134
set_option maxHeartbeats 4000000 in
set_option maxRecDepth 100000 in
theorem c_X9_init {Ly : LL} {I : II} {P : PP} (hl : Ly 134 = .inl 9) (l : Launch) (s0 : Nat) (D : va_G) (DA : Nat → ClassId) : Ct l s0 D DA mX9_init [.inr (some 134)] 14 4449 135 Ly I P (MPo Ly I P) := ct_of (by decide +kernel) (Nat.le_of_ble_eq_true rfl) (fun X F hr hi => by
  refine s_aload_n F dX9_init_0 rfl ?_
  refine s_objInit F dX9_init_1 lkX9_1 (by decide) (by decide) ?_
  refine s_aload_n F dX9_init_4 rfl ?_
  refine s_sipush (v := 367) F dX9_init_5 (by decide) ?_
  refine s_newa (t := 0) (len := 367) (at0 := .int) (ty := .int) F dX9_init_8 rfl rfl (by omega) (fun _ => rfl) ac_int (fun C h => by cases h) (by decide) (by decide) (by decide) (by decide) (by decide) ?_
  refine s_putF F (hi rfl) dX9_init_10 flX9_7 (by rw [upL_n (by omega)]; exact hl) (by omega) rfl rfl rfl ?_
  refine s_aload_n F dX9_init_13 rfl ?_
  refine s_sipush (v := 367) F dX9_init_14 (by decide) ?_
  refine s_newa (t := 0) (len := 367) (at0 := .int) (ty := .int) F dX9_init_17 rfl rfl (by omega) (fun _ => rfl) ac_int (fun C h => by cases h) (by decide) (by decide) (by decide) (by decide) (by decide) ?_
  refine s_putF F (hi rfl) dX9_init_19 flX9_13 (by rw [upL_n (by omega), upL_n (by omega)]; exact hl) (by omega) rfl rfl rfl ?_
  refine s_aload_n F dX9_init_22 rfl ?_
  refine s_sipush (v := 1835) F dX9_init_23 (by decide) ?_
  refine s_newa (t := 0) (len := 1835) (at0 := .int) (ty := .int) F dX9_init_26 rfl rfl (by omega) (fun _ => rfl) ac_int (fun C h => by cases h) (by decide) (by decide) (by decide) (by decide) (by decide) ?_
  refine s_putF F (hi rfl) dX9_init_28 flX9_16 (by rw [upL_n (by omega), upL_n (by omega), upL_n (by omega)]; exact hl) (by omega) rfl rfl rfl ?_
  refine s_aload_n F dX9_init_31 rfl ?_
  refine s_sipush (v := 734) F dX9_init_32 (by decide) ?_
  refine s_newa (t := 0) (len := 734) (at0 := .int) (ty := .int) F dX9_init_35 rfl rfl (by omega) (fun _ => rfl) ac_int (fun C h => by cases h) (by decide) (by decide) (by decide) (by decide) (by decide) ?_
  refine s_putF F (hi rfl) dX9_init_37 flX9_19 (by rw [upL_n (by omega), upL_n (by omega), upL_n (by omega), upL_n (by omega)]; exact hl) (by omega) rfl rfl rfl ?_
  refine s_aload_n F dX9_init_40 rfl ?_
  refine s_iconst (v := 2) F dX9_init_41 (by decide) ?_
  refine s_newa (t := 2) (len := 2) (at0 := .boolean) (ty := .boolean) F dX9_init_42 rfl rfl (by omega) (fun _ => rfl) ac_boolean (fun C h => by cases h) (by decide) (by decide) (by decide) (by decide) (by decide) ?_
  refine s_putF F (hi rfl) dX9_init_44 flX9_22 (by rw [upL_n (by omega), upL_n (by omega), upL_n (by omega), upL_n (by omega), upL_n (by omega)]; exact hl) (by omega) rfl rfl rfl ?_
  refine s_aload_n F dX9_init_47 rfl ?_
  refine s_sipush (v := 256) F dX9_init_48 (by decide) ?_
  refine s_newa (t := 0) (len := 256) (at0 := .int) (ty := .int) F dX9_init_51 rfl rfl (by omega) (fun _ => rfl) ac_int (fun C h => by cases h) (by decide) (by decide) (by decide) (by decide) (by decide) ?_
  refine s_putF F (hi rfl) dX9_init_53 flX9_26 (by rw [upL_n (by omega), upL_n (by omega), upL_n (by omega), upL_n (by omega), upL_n (by omega), upL_n (by omega)]; exact hl) (by omega) rfl rfl rfl ?_
  refine s_aload_n F dX9_init_56 rfl ?_
  refine s_sipush (v := 128) F dX9_init_57 (by decide) ?_
  refine s_newa (t := 0) (len := 128) (at0 := .int) (ty := .int) F dX9_init_60 rfl rfl (by omega) (fun _ => rfl) ac_int (fun C h => by cases h) (by decide) (by decide) (by decide) (by decide) (by decide) ?_
  refine s_putF F (hi rfl) dX9_init_62 flX9_29 (by rw [upL_n (by omega), upL_n (by omega), upL_n (by omega), upL_n (by omega), upL_n (by omega), upL_n (by omega), upL_n (by omega)]; exact hl) (by omega) rfl rfl rfl ?_
  refine s_aload_n F dX9_init_65 rfl ?_
  refine s_sipush (v := 128) F dX9_init_66 (by decide) ?_
  refine s_newa (t := 0) (len := 128) (at0 := .int) (ty := .int) F dX9_init_69 rfl rfl (by omega) (fun _ => rfl) ac_int (fun C h => by cases h) (by decide) (by decide) (by decide) (by decide) (by decide) ?_
  refine s_putF F (hi rfl) dX9_init_71 flX9_32 (by rw [upL_n (by omega), upL_n (by omega), upL_n (by omega), upL_n (by omega), upL_n (by omega), upL_n (by omega), upL_n (by omega), upL_n (by omega)]; exact hl) (by omega) rfl rfl rfl ?_
  refine s_aload_n F dX9_init_74 rfl ?_
  refine s_sipush (v := 128) F dX9_init_75 (by decide) ?_
  refine s_newa (t := 0) (len := 128) (at0 := .int) (ty := .int) F dX9_init_78 rfl rfl (by omega) (fun _ => rfl) ac_int (fun C h => by cases h) (by decide) (by decide) (by decide) (by decide) (by decide) ?_
  refine s_putF F (hi rfl) dX9_init_80 flX9_35 (by rw [upL_n (by omega), upL_n (by omega), upL_n (by omega), upL_n (by omega), upL_n (by omega), upL_n (by omega), upL_n (by omega), upL_n (by omega), upL_n (by omega)]; exact hl) (by omega) rfl rfl rfl ?_
  refine s_aload_n F dX9_init_83 rfl ?_
  refine s_sipush (v := 128) F dX9_init_84 (by decide) ?_
  refine s_newa (t := 0) (len := 128) (at0 := .int) (ty := .int) F dX9_init_87 rfl rfl (by omega) (fun _ => rfl) ac_int (fun C h => by cases h) (by decide) (by decide) (by decide) (by decide) (by decide) ?_
  refine s_putF F (hi rfl) dX9_init_89 flX9_38 (by rw [upL_n (by omega), upL_n (by omega), upL_n (by omega), upL_n (by omega), upL_n (by omega), upL_n (by omega), upL_n (by omega), upL_n (by omega), upL_n (by omega), upL_n (by omega)]; exact hl) (by omega) rfl rfl rfl ?_
  refine s_aload_n F dX9_init_92 rfl ?_
  refine s_sipush (v := 256) F dX9_init_93 (by decide) ?_
  refine s_newa (t := 0) (len := 256) (at0 := .int) (ty := .int) F dX9_init_96 rfl rfl (by omega) (fun _ => rfl) ac_int (fun C h => by cases h) (by decide) (by decide) (by decide) (by decide) (by decide) ?_
  refine s_putF F (hi rfl) dX9_init_98 flX9_41 (by rw [upL_n (by omega), upL_n (by omega), upL_n (by omega), upL_n (by omega), upL_n (by omega), upL_n (by omega), upL_n (by omega), upL_n (by omega), upL_n (by omega), upL_n (by omega), upL_n (by omega)]; exact hl) (by omega) rfl rfl rfl ?_
  refine s_aload_n F dX9_init_101 rfl ?_
  refine s_bipush (v := 40) F dX9_init_102 (by decide) ?_
  refine s_newa (t := 1) (len := 40) (at0 := .char) (ty := .char) F dX9_init_104 rfl rfl (by omega) (fun _ => rfl) ac_char (fun C h => by cases h) (by decide) (by decide) (by decide) (by decide) (by decide) ?_
  refine s_putF F (hi rfl) dX9_init_106 flX9_44 (by rw [upL_n (by omega), upL_n (by omega), upL_n (by omega), upL_n (by omega), upL_n (by omega), upL_n (by omega), upL_n (by omega), upL_n (by omega), upL_n (by omega), upL_n (by omega), upL_n (by omega), upL_n (by omega)]; exact hl) (by omega) rfl rfl rfl ?_
  refine s_aload_n F dX9_init_109 rfl ?_
  refine s_bipush (v := 40) F dX9_init_110 (by decide) ?_
  refine s_newa (t := 1) (len := 40) (at0 := .char) (ty := .char) F dX9_init_112 rfl rfl (by omega) (fun _ => rfl) ac_char (fun C h => by cases h) (by decide) (by decide) (by decide) (by decide) (by decide) ?_
  refine s_putF F (hi rfl) dX9_init_114 flX9_48 (by rw [upL_n (by omega), upL_n (by omega), upL_n (by omega), upL_n (by omega), upL_n (by omega), upL_n (by omega), upL_n (by omega), upL_n (by omega), upL_n (by omega), upL_n (by omega), upL_n (by omega), upL_n (by omega), upL_n (by omega)]; exact hl) (by omega) rfl rfl rfl ?_
  refine s_aload_n F dX9_init_117 rfl ?_
  refine s_bipush (v := 40) F dX9_init_118 (by decide) ?_
  refine s_newa (t := 0) (len := 40) (at0 := .int) (ty := .int) F dX9_init_120 rfl rfl (by omega) (fun _ => rfl) ac_int (fun C h => by cases h) (by decide) (by decide) (by decide) (by decide) (by decide) ?_
  refine s_putF F (hi rfl) dX9_init_122 flX9_51 (by rw [upL_n (by omega), upL_n (by omega), upL_n (by omega), upL_n (by omega), upL_n (by omega), upL_n (by omega), upL_n (by omega), upL_n (by omega), upL_n (by omega), upL_n (by omega), upL_n (by omega), upL_n (by omega), upL_n (by omega), upL_n (by omega)]; exact hl) (by omega) rfl rfl rfl ?_
  have hLz : (upL (upL (upL (upL (upL (upL (upL (upL (upL (upL (upL (upL (upL (upL Ly 135 (.inr (0, 367))) 136 (.inr (0, 367))) 137 (.inr (0, 1835))) 138 (.inr (0, 734))) 139 (.inr (2, 2))) 140 (.inr (0, 256))) 141 (.inr (0, 128))) 142 (.inr (0, 128))) 143 (.inr (0, 128))) 144 (.inr (0, 128))) 145 (.inr (0, 256))) 146 (.inr (1, 40))) 147 (.inr (1, 40))) 148 (.inr (0, 40))) 134 = .inl 9 := by rw [upL_n (by omega), upL_n (by omega), upL_n (by omega), upL_n (by omega), upL_n (by omega), upL_n (by omega), upL_n (by omega), upL_n (by omega), upL_n (by omega), upL_n (by omega), upL_n (by omega), upL_n (by omega), upL_n (by omega), upL_n (by omega)]; exact hl
  have hLr : (upL (upL (upL (upL (upL (upL (upL (upL (upL (upL (upL (upL (upL (upL Ly 135 (.inr (0, 367))) 136 (.inr (0, 367))) 137 (.inr (0, 1835))) 138 (.inr (0, 734))) 139 (.inr (2, 2))) 140 (.inr (0, 256))) 141 (.inr (0, 128))) 142 (.inr (0, 128))) 143 (.inr (0, 128))) 144 (.inr (0, 128))) 145 (.inr (0, 256))) 146 (.inr (1, 40))) 147 (.inr (1, 40))) 148 (.inr (0, 40))) 135 = .inr (0, 367) := by rw [upL_n (by omega), upL_n (by omega), upL_n (by omega), upL_n (by omega), upL_n (by omega), upL_n (by omega), upL_n (by omega), upL_n (by omega), upL_n (by omega), upL_n (by omega), upL_n (by omega), upL_n (by omega), upL_n (by omega), upL_a]
  have hPz : (upP (nwP (upP (nwP (upP (nwP (upP (nwP (upP (nwP (upP (nwP (upP (nwP (upP (nwP (upP (nwP (upP (nwP (upP (nwP (upP (nwP (upP (nwP (upP (nwP P 135) 134 0 (some 135)) 136) 134 1 (some 136)) 137) 134 2 (some 137)) 138) 134 4 (some 138)) 139) 134 5 (some 139)) 140) 134 6 (some 140)) 141) 134 8 (some 141)) 142) 134 9 (some 142)) 143) 134 10 (some 143)) 144) 134 11 (some 144)) 145) 134 12 (some 145)) 146) 134 14 (some 146)) 147) 134 16 (some 147)) 148) 134 17 (some 148)) 134 0 = some 135 := by
    rw [upP_b (by omega), nwP_n (by omega), upP_b (by omega), nwP_n (by omega), upP_b (by omega), nwP_n (by omega), upP_b (by omega), nwP_n (by omega), upP_b (by omega), nwP_n (by omega), upP_b (by omega), nwP_n (by omega), upP_b (by omega), nwP_n (by omega), upP_b (by omega), nwP_n (by omega), upP_b (by omega), nwP_n (by omega), upP_b (by omega), nwP_n (by omega), upP_b (by omega), nwP_n (by omega), upP_b (by omega), nwP_n (by omega), upP_b (by omega), nwP_n (by omega), upP_a]
  refine s_aload_n F dX9_init_125 rfl ?_
  refine s_getR (o := some 135) F dX9_init_126 flX9_7 hLz (by omega) rfl hPz ?_
  refine s_iconst (v := 0) F dX9_init_129 (by decide) ?_
  refine s_bipush (v := 8) F dX9_init_130 (by decide) ?_
  refine s_iast F dX9_init_132 (len := 367) hLr (by omega) (vp_lit 0 rfl) ?_
  refine s_aload_n F dX9_init_133 rfl ?_
  refine s_getR (o := some 135) F dX9_init_134 flX9_7 hLz (by omega) rfl hPz ?_
  refine s_iconst (v := 1) F dX9_init_137 (by decide) ?_
  refine s_bipush (v := 8) F dX9_init_138 (by decide) ?_
  refine s_iast F dX9_init_140 (len := 367) hLr (by omega) (vp_lit 1 rfl) ?_
  refine s_aload_n F dX9_init_141 rfl ?_
  refine s_getR (o := some 135) F dX9_init_142 flX9_7 hLz (by omega) rfl hPz ?_
  refine s_iconst (v := 3) F dX9_init_145 (by decide) ?_
  refine s_iconst (v := 1) F dX9_init_146 (by decide) ?_
  refine s_iast F dX9_init_147 (len := 367) hLr (by omega) (vp_lit 3 rfl) ?_
  refine s_aload_n F dX9_init_148 rfl ?_
  refine s_getR (o := some 135) F dX9_init_149 flX9_7 hLz (by omega) rfl hPz ?_
  refine s_iconst (v := 5) F dX9_init_152 (by decide) ?_
  refine s_iconst (v := 1) F dX9_init_153 (by decide) ?_
  refine s_iast F dX9_init_154 (len := 367) hLr (by omega) (vp_lit 5 rfl) ?_
  refine s_vret F hr dX9_init_155 (by decide) (by decide) ⟨rfl, rfl, ?_, hLz, ?_, ?_, ?_, ?_, ?_⟩
  · intro k hk
    refine ⟨?_, ?_, ?_⟩
    · rw [upL_n (by omega), upL_n (by omega), upL_n (by omega), upL_n (by omega), upL_n (by omega), upL_n (by omega), upL_n (by omega), upL_n (by omega), upL_n (by omega), upL_n (by omega), upL_n (by omega), upL_n (by omega), upL_n (by omega), upL_n (by omega)]
    · rw [up2_n (by omega), up2_n (by omega), up2_n (by omega), up2_n (by omega), nwI_n (by omega), nwI_n (by omega), nwI_n (by omega), nwI_n (by omega), nwI_n (by omega), nwI_n (by omega), nwI_n (by omega), nwI_n (by omega), nwI_n (by omega), nwI_n (by omega), nwI_n (by omega), nwI_n (by omega), nwI_n (by omega), nwI_n (by omega)]
    · rw [upP_n (by omega), nwP_n (by omega), upP_n (by omega), nwP_n (by omega), upP_n (by omega), nwP_n (by omega), upP_n (by omega), nwP_n (by omega), upP_n (by omega), nwP_n (by omega), upP_n (by omega), nwP_n (by omega), upP_n (by omega), nwP_n (by omega), upP_n (by omega), nwP_n (by omega), upP_n (by omega), nwP_n (by omega), upP_n (by omega), nwP_n (by omega), upP_n (by omega), nwP_n (by omega), upP_n (by omega), nwP_n (by omega), upP_n (by omega), nwP_n (by omega), upP_n (by omega), nwP_n (by omega)]
  · refine ⟨?_, ?_, ?_, ?_, ?_, ?_, ?_, ?_, ?_, ?_, ?_, ?_, ?_, ?_⟩
    all_goals simp [upL]
  · refine ⟨?_, ?_, ?_, ?_, ?_, ?_, ?_, ?_, ?_, ?_, ?_, ?_, ?_, ?_⟩
    all_goals simp [upP, nwP]
  · intro k
    rw [show (5 : Int32).toNatClampNeg = 5 from rfl, show (3 : Int32).toNatClampNeg = 3 from rfl, show (1 : Int32).toNatClampNeg = 1 from rfl, show (0 : Int32).toNatClampNeg = 0 from rfl, up2_at, up2_at, up2_at, up2_at]
    rw [nwI_n (by omega), nwI_n (by omega), nwI_n (by omega), nwI_n (by omega), nwI_n (by omega), nwI_n (by omega), nwI_n (by omega), nwI_n (by omega), nwI_n (by omega), nwI_n (by omega), nwI_n (by omega), nwI_n (by omega), nwI_n (by omega), nwI_a]
  · intro j
    rw [up2_n (by omega), up2_n (by omega), up2_n (by omega), up2_n (by omega), nwI_n (by omega), nwI_n (by omega), nwI_n (by omega), nwI_n (by omega), nwI_n (by omega), nwI_n (by omega), nwI_n (by omega), nwI_n (by omega), nwI_n (by omega), nwI_a]
  · rw [up2_n (by omega), up2_n (by omega), up2_n (by omega), up2_n (by omega), nwI_n (by omega), nwI_n (by omega), nwI_n (by omega), nwI_n (by omega), nwI_n (by omega), nwI_n (by omega), nwI_n (by omega), nwI_n (by omega), nwI_n (by omega), nwI_n (by omega), nwI_n (by omega), nwI_n (by omega), nwI_n (by omega), nwI_n (by omega)])
