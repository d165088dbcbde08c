/-! the constructors -/
theorem upL_a {Ly : LL} {n : Nat} {x : Nat ⊕ (Nat × Nat)} : upL Ly n x n = x := if_pos rfl
theorem upL_n {Ly : LL} {n k : Nat} {x : Nat ⊕ (Nat × Nat)} (h : k ≠ n) : upL Ly n x k = Ly k := if_neg h
theorem nwI_a {I : II} {n j : Nat} : nwI I n n j = 0 := by simp [nwI]
theorem nwI_n {I : II} {n k : Nat} (h : k ≠ n) : nwI I n k = I k := if_neg h
theorem nwP_n {P : PP} {n k : Nat} (h : k ≠ n) : nwP P n k = P k := if_neg h
theorem upP_a {P : PP} {a k : Nat} {v : Option Nat} : upP P a k v a k = v := by simp [upP]
theorem upP_b {P : PP} {a k j : Nat} {v : Option Nat} (h : j ≠ k) : upP P a k v a j = P a j := by simp [upP, h]
set_option maxHeartbeats 4000000 in
theorem c_X6_init {n b : Nat} {Ly : LL} {I : II} {P : PP} (l : Launch) (s0 : Nat) (D : va_G) (DA : Nat → ClassId) : Ct l s0 D DA mX6_init [.inr (some b)] 0 0 n Ly I P (PoD none n Ly I P) := ct_of (by decide +kernel) (Nat.le_of_ble_eq_true rfl) (fun X F hr _ => by
  refine s_aload_n F dX6_init_0 rfl ?_
  refine s_objInit F dX6_init_1 lkX6_3 (Nat.le_refl _) (by decide) ?_
  exact s_vret F hr dX6_init_4 (Nat.le_refl _) (Nat.le_refl _) ⟨rfl, rfl, rfl, rfl, rfl⟩)
set_option maxHeartbeats 4000000 in
theorem c_X5_init {b : Nat} {Ly : LL} {I : II} {P : PP} (hl : Ly b = .inl 5) (l : Launch) (s0 : Nat) (D : va_G) (DA : Nat → ClassId) : Ct l s0 D DA mX5_init [.inr (some b)] 1 30 (b + 1) Ly I P (PoD none (b + 2) (upL Ly (b + 1) (.inr (0, 30))) (up2 (up2 (up2 (nwI I (b + 1)) b 1 1) b 2 0) b 3 1) (upP (nwP P (b + 1)) b 0 (some (b + 1)))) := ct_of (by decide +kernel) (Nat.le_of_ble_eq_true rfl) (fun X F hr hi => by
  have hl' : upL Ly (b + 1) (.inr (0, 30)) b = .inl 5 := by rw [upL_n (by omega)]; exact hl
  refine s_aload_n F dX5_init_0 rfl ?_
  refine s_objInit F dX5_init_1 lkX5_3 (Nat.le_refl _) (by decide) ?_
  refine s_aload_n F dX5_init_4 rfl ?_
  refine s_bipush (v := 30) F dX5_init_5 (by decide) ?_
  refine s_newa (t := 0) (len := 30) (at0 := .int) (ty := .int) F dX5_init_7 rfl rfl (by omega) (fun _ => rfl) ac_int (fun C h => by cases h) (by decide) (by decide) (by decide) (Nat.le_refl _) (Nat.le_refl _) ?_
  refine s_putF F (hi rfl) dX5_init_9 flX5_9 hl' (by omega) rfl rfl rfl ?_
  refine s_aload_n F dX5_init_12 rfl ?_
  refine s_iconst (v := 1) F dX5_init_13 (by decide) ?_
  refine s_putI F dX5_init_14 flX5_15 hl' (by omega) rfl rfl ⟨rfl, rfl⟩ ?_
  refine s_aload_n F dX5_init_17 rfl ?_
  refine s_iconst (v := 0) F dX5_init_18 (by decide) ?_
  refine s_putI F dX5_init_19 flX5_19 hl' (by omega) rfl rfl ⟨rfl, rfl⟩ ?_
  refine s_aload_n F dX5_init_22 rfl ?_
  refine s_iconst (v := 1) F dX5_init_23 (by decide) ?_
  refine s_putI F dX5_init_24 flX5_22 hl' (by omega) rfl rfl (by exact ⟨rfl, rfl⟩) ?_
  exact s_vret F hr dX5_init_27 (Nat.le_refl _) (Nat.le_refl _) ⟨rfl, rfl, rfl, rfl, rfl⟩)
def LI4 (b x : Nat) (Ly : LL) (I : II) (P : PP) (Ly' : LL) (I' : II) (P' : PP) : Prop :=
  (∀ k, k < b → Ly' k = Ly k ∧ I' k = I k ∧ P' k = P k) ∧ (Ly' b = .inl 4 ∧ Ly' (b + 1) = .inr (0, 256) ∧ Ly' (b + 2) = .inr (3, 8) ∧ Ly' (b + 3) = .inl 5 ∧ Ly' (b + 4) = .inr (0, 30) ∧ ∀ j, j < x → Ly' (b + 5 + j) = .inl 6) ∧
  (P' b 2 = some (b + 1) ∧ P' b 3 = some (b + 2) ∧ P' b 5 = some (b + 3) ∧ P' (b + 3) 0 = some (b + 4) ∧ ∀ j, j < x → P' (b + 2) j = some (b + 5 + j)) ∧
  (I' b 0 = 8 ∧ I' b 1 = 8 ∧ I' b 4 = 0 ∧ I' b 6 = 0 ∧ I' b 7 = 0) ∧ (∀ c, I' (b + 1) c = 0) ∧ (I' (b + 3) 1 = 1 ∧ I' (b + 3) 2 = 0 ∧ I' (b + 3) 3 = 1) ∧ ∀ t, I' (b + 4) t = 0
def SPo (b : Nat) (Ly : LL) (I : II) (P : PP) : PQ := fun r n' Ly' I' P' => r = none ∧ n' = b + 13 ∧ LI4 b 8 Ly I P Ly' I' P'
set_option maxHeartbeats 4000000 in
theorem w_X4_loop {X : Cx} {b : Nat} {Ly : LL} {I : II} {P : PP} (F : Fx X RX4 cX4_init 2 2 12 370) (hr : Fr X none (SPo b Ly I P) 12 370) : ∀ (m x : Nat) (Ly1 : LL) (I1 : II) (P1 : PP), x + m = 8 → LI4 b x Ly I P Ly1 I1 P1 → G X 2 (4 + x) (298 + 9 * x) (b + 5 + x) Ly1 62 [some (.inr (some b)), some (.inl (nI x))] [] I1 P1 := by
  intro m
  induction m with
  | zero =>
    intro x Ly1 I1 P1 hx h
    refine s_iload_n F dX4_init_62 rfl ?_
    refine s_bipush (v := 8) F dX4_init_63 (by decide) ?_
    refine s_icmp_ge (tgt := 87) F dX4_init_65 (by decide) (fun c1 => ?_) (fun c1 => ?_)
    · have e : x = 8 := by omega
      subst e
      exact s_vret F hr dX4_init_87 (by omega) (by omega) ⟨rfl, by omega, h⟩
    · exact absurd (show (8 : Int32) ≤ nI x from yle (a := 8) (by omega) (by omega) (by omega)) c1
  | succ m ih =>
    intro x Ly1 I1 P1 hx h
    obtain ⟨h1, ⟨a1, a2, a3, a4, a5, a6⟩, ⟨p1, p2, p3, p4, p5⟩, ⟨i1, i2, i3, i4, i5⟩, h5, h6, h7⟩ := h
    refine s_iload_n F dX4_init_62 rfl ?_
    refine s_bipush (v := 8) F dX4_init_63 (by decide) ?_
    refine s_icmp_ge (tgt := 87) F dX4_init_65 (by decide) (fun c1 => ?_) (fun c1 => ?_)
    · exact absurd (show (8 : Int32) ≤ nI x from c1) (nle (a := 8) (by omega) (by omega) (by omega))
    refine s_aload_n F dX4_init_68 rfl ?_
    refine s_getR F dX4_init_69 flX4_24 a1 (by omega) rfl p2 ?_
    refine s_iload_n F dX4_init_72 rfl ?_
    refine s_new F dX4_init_73 lnX4_22 (by omega) (by show 298 + 9 * x + 9 ≤ 370; omega) ?_
    refine s_dup F dX4_init_76 ?_
    refine s_callIN (av := []) F dX4_init_77 (fun l s0 D DA => c_X6_init l s0 D DA) rfl lkX4_44 okX6_init rfl (Nat.le_of_ble_eq_true rfl) (by decide) (by omega) (by show 298 + 9 * x + 9 + 0 ≤ 370; omega) (fun _ _ _ _ _ h => h.2.1) (fun r n' Ly' I' P' hpo => ?_)
    obtain ⟨rfl, rfl, rfl, rfl, rfl⟩ := hpo
    refine s_aast F dX4_init_80 (t := 3) (len := 8) (ci := 6) (by rw [upL_n (by omega)]; exact a3) (Or.inl ⟨rfl, rfl⟩) (by omega) upL_a (by omega) (vp_in_nI (by omega) (by omega)) ?_
    refine s_iinc (v := nI (x + 1)) F dX4_init_81 rfl (by omega) (nI_1 x) ?_
    refine s_goto (tgt := 62) F dX4_init_84 (by decide) ?_
    rw [nI_clamp (show x < 2 ^ 31 by omega)]
    have e1 : 4 + x + 1 + 0 = 4 + (x + 1) := by omega
    have e2 : 298 + 9 * x + nF 6 + 0 = 298 + 9 * (x + 1) := by show 298 + 9 * x + 9 + 0 = _; omega
    rw [e1, e2]
    refine ih (x + 1) _ _ _ (by omega) ⟨fun k hk => ?_, ⟨?_, ?_, ?_, ?_, ?_, fun j hj => ?_⟩, ⟨?_, ?_, ?_, ?_, fun j hj => ?_⟩, ?_, fun c => ?_, ?_, fun t => ?_⟩
    · rw [upL_n (by omega), nwI_n (by omega), upP_n (by omega), nwP_n (by omega)]; exact h1 k hk
    · rw [upL_n (by omega)]; exact a1
    · rw [upL_n (by omega)]; exact a2
    · rw [upL_n (by omega)]; exact a3
    · rw [upL_n (by omega)]; exact a4
    · rw [upL_n (by omega)]; exact a5
    · by_cases e : j = x
      · rw [e, upL_a]
      · rw [upL_n (by omega)]; exact a6 j (by omega)
    · rw [upP_n (by omega), nwP_n (by omega)]; exact p1
    · rw [upP_n (by omega), nwP_n (by omega)]; exact p2
    · rw [upP_n (by omega), nwP_n (by omega)]; exact p3
    · rw [upP_n (by omega), nwP_n (by omega)]; exact p4
    · by_cases e : j = x
      · rw [e, upP_a]
      · rw [upP_b e, nwP_n (by omega)]; exact p5 j (by omega)
    · rw [nwI_n (by omega)]; exact ⟨i1, i2, i3, i4, i5⟩
    · rw [nwI_n (by omega)]; exact h5 c
    · rw [nwI_n (by omega)]; exact h6
    · rw [nwI_n (by omega)]; exact h7 t
set_option maxHeartbeats 4000000 in
theorem c_X4_init {b : Nat} {Ly : LL} {I : II} {P : PP} (hl : Ly b = .inl 4) (l : Launch) (s0 : Nat) (D : va_G) (DA : Nat → ClassId) : Ct l s0 D DA mX4_init [.inr (some b)] 12 370 (b + 1) Ly I P (SPo b Ly I P) := ct_of (by decide +kernel) (Nat.le_of_ble_eq_true rfl) (fun X F hr hi => by
  refine s_aload_n F dX4_init_0 rfl ?_
  refine s_objInit F dX4_init_1 lkX4_3 (by decide) (by decide) ?_
  refine s_aload_n F dX4_init_4 rfl ?_
  refine s_bipush (v := 8) F dX4_init_5 (by decide) ?_
  refine s_putI F dX4_init_7 flX4_9 hl (by omega) rfl rfl ⟨rfl, rfl⟩ ?_
  refine s_aload_n F dX4_init_10 rfl ?_
  refine s_bipush (v := 8) F dX4_init_11 (by decide) ?_
  refine s_putI F dX4_init_13 flX4_15 hl (by omega) rfl rfl ⟨rfl, rfl⟩ ?_
  refine s_aload_n F dX4_init_16 rfl ?_
  refine s_sipush (v := 256) F dX4_init_17 (by decide) ?_
  refine s_newa (t := 0) (len := 256) (at0 := .int) (ty := .int) F dX4_init_20 rfl rfl (by omega) (fun _ => rfl) ac_int (fun C h => by cases h) (by decide) (by decide) (by decide) (by decide) (by decide) ?_
  refine s_putF F (hi rfl) dX4_init_22 flX4_18 (by rw [upL_n (by omega)]; exact hl) (by omega) rfl rfl rfl ?_
  refine s_aload_n F dX4_init_25 rfl ?_
  refine s_bipush (v := 8) F dX4_init_26 (by decide) ?_
  refine s_anew (t := 3) (len := 8) (C := RX6) F dX4_init_28 (by decide) (fun _ => rfl) laX4_22 (fun U h => h.2.1) (by decide) (by decide) (by decide) (by decide) (by decide) ?_
  have hl2 : upL (upL Ly (b + 1) (.inr (0, 256))) (b + 1 + 1) (.inr (3, 8)) b = .inl 4 := by rw [upL_n (by omega), upL_n (by omega)]; exact hl
  refine s_putF F (hi rfl) dX4_init_31 flX4_24 hl2 (by omega) rfl rfl rfl ?_
  refine s_aload_n F dX4_init_34 rfl ?_
  refine s_iconst (v := 0) F dX4_init_35 (by decide) ?_
  refine s_putI F dX4_init_36 flX4_28 hl2 (by omega) rfl rfl ⟨rfl, rfl⟩ ?_
  refine s_aload_n F dX4_init_39 rfl ?_
  refine s_new F dX4_init_40 lnX4_31 (by decide) (by decide) ?_
  refine s_dup F dX4_init_43 ?_
  refine s_callIN (av := []) F dX4_init_44 (fun l s0 D DA => c_X5_init upL_a l s0 D DA) rfl lkX4_33 okX5_init rfl (Nat.le_of_ble_eq_true rfl) (by decide) (by decide) (by decide) (fun _ _ _ _ _ h => h.2.1) (fun r n' Ly' I' P' hpo => ?_)
  obtain ⟨rfl, rfl, rfl, rfl, rfl⟩ := hpo
  have hl3 : ∀ y z, upL (upL (upL (upL Ly (b + 1) (.inr (0, 256))) (b + 1 + 1) (.inr (3, 8))) (b + 1 + 1 + 1) y) (b + 1 + 1 + 1 + 1) z b = .inl 4 := fun y z => by rw [upL_n (by omega), upL_n (by omega)]; exact hl2
  refine s_putF F (hi rfl) dX4_init_47 flX4_34 (hl3 _ _) (by omega) rfl rfl rfl ?_
  refine s_aload_n F dX4_init_50 rfl ?_
  refine s_iconst (v := 0) F dX4_init_51 (by decide) ?_
  refine s_putI F dX4_init_52 flX4_38 (hl3 _ _) (by omega) rfl rfl ⟨rfl, rfl⟩ ?_
  refine s_aload_n F dX4_init_55 rfl ?_
  refine s_iconst (v := 0) F dX4_init_56 (by decide) ?_
  refine s_putI F dX4_init_57 flX4_41 (hl3 _ _) (by omega) rfl rfl ⟨rfl, rfl⟩ ?_
  refine s_iconst (v := 0) F dX4_init_60 (by decide) ?_
  refine s_istore_n F dX4_init_61 (by decide) ?_
  refine w_X4_loop F hr 8 0 _ _ _ (by omega) ⟨fun k hk => ?_, ⟨?_, ?_, ?_, ?_, ?_, fun j hj => by omega⟩, ⟨?_, ?_, ?_, ?_, fun j hj => by omega⟩, ⟨?_, ?_, ?_, ?_, ?_⟩, fun c => ?_, ⟨?_, ?_, ?_⟩, fun t => ?_⟩
  all_goals (try simp only [show b + 1 + 1 = b + 2 from rfl, show b + 2 + 1 = b + 3 from rfl, show b + 3 + 1 = b + 4 from rfl])
  · have q0 : k ≠ b := by omega
    have q1 : k ≠ b + 1 := by omega
    have q2 : k ≠ b + 2 := by omega
    have q3 : k ≠ b + 3 := by omega
    have q4 : k ≠ b + 4 := by omega
    simp only [upL_n q1, upL_n q2, upL_n q3, upL_n q4, up2_n q0, up2_n q3, nwI_n q1, nwI_n q2, nwI_n q3, nwI_n q4, upP_n q0, upP_n q3, nwP_n q1, nwP_n q2, nwP_n q3, nwP_n q4, and_self]
  · simp [upL, hl]
  · simp [upL]
  · simp [upL]
  · simp [upL]
  · simp [upL]
  · simp [upP, nwP]
  · simp [upP, nwP]
  · simp [upP, nwP]
  · simp [upP, nwP]
  · simp [up2, nwI]
  · simp [up2, nwI]
  · simp [up2, nwI]
  · simp [up2, nwI]
  · simp [up2, nwI]
  · simp [up2, nwI]
  · simp [up2, nwI]
  · simp [up2, nwI]
  · simp [up2, nwI]
  · simp [up2, nwI])
