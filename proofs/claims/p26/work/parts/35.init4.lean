theorem c_X8_fin {r : Option AV} {Ly Ly1 Ly3 Ly5 Ly7 Ly9 LyA : LL} {I I1 I3 I5 I7 I9 IA : II} {P P1 P3 P5 P7 P9 PA : PP} {r1 r3 r5 r7 r9 : Option AV} (hl : Ly 0 = .inl 8)
    (h1 : WPo 1 (upL Ly 1 (.inl 7)) (nwI I 1) (nwP P 1) r1 21 Ly1 I1 P1)
    (h3 : YPo 21 (upL Ly1 21 (.inl 1)) (nwI I1 21) (nwP (upP P1 0 0 (some 1)) 21) r3 88 Ly3 I3 P3)
    (h5 : LPo 88 (upL Ly3 88 (.inl 2)) (nwI I3 88) (nwP (upP P3 0 1 (some 21)) 88) r5 92 Ly5 I5 P5)
    (h7 : TPo 93 (upL (upL Ly5 92 (.inr (5, 2))) 93 (.inl 3)) (nwI (nwI I5 92) 93) (nwP (upP (nwP (upP P5 0 2 (some 88)) 92) 0 3 (some 92)) 93) r7 107 Ly7 I7 P7)
    (h9 : TPo 107 (upL Ly7 107 (.inl 3)) (nwI I7 107) (nwP (upP P7 92 0 (some 93)) 107) r9 121 Ly9 I9 P9)
    (hA : SPo 121 (upL Ly9 121 (.inl 4)) (nwI I9 121) (nwP (upP P9 92 1 (some 107)) 121) r 134 LyA IA PA) : CPo none 134 LyA IA (upP PA 0 4 (some 121)) := by
  obtain ⟨-, -, w1, w2, ⟨w3, w4⟩, w5, w6, w7, w8⟩ := h1
  obtain ⟨-, -, y1, y2, y3, y4, y5, y6⟩ := h3
  obtain ⟨-, -, l1, l2, l3, l4⟩ := h5
  obtain ⟨-, -, t1, t2, t3, t4, t5⟩ := h7
  obtain ⟨-, -, u1, u2, u3, u4, u5⟩ := h9
  obtain ⟨-, -, a1, a2⟩ := hA.st
  have sA : ∀ k, k < 121 → LyA k = Ly9 k ∧ IA k = I9 k ∧ PA k = upP P9 92 1 (some 107) k := fun k hk => by
    have := a1 k hk
    rw [upL_n (by omega), nwI_n (by omega), nwP_n (by omega)] at this
    exact this
  have s9 : ∀ k, k < 107 → Ly9 k = Ly7 k ∧ I9 k = I7 k ∧ P9 k = upP P7 92 0 (some 93) k := fun k hk => by
    have := u1 k hk
    rw [upL_n (by omega), nwI_n (by omega), nwP_n (by omega)] at this
    exact this
  have s7 : ∀ k, k < 93 → Ly7 k = upL Ly5 92 (.inr (5, 2)) k ∧ I7 k = nwI I5 92 k ∧ P7 k = upP (nwP (upP P5 0 2 (some 88)) 92) 0 3 (some 92) k := fun k hk => by
    have := t1 k hk
    rw [upL_n (by omega), nwI_n (by omega), nwP_n (by omega)] at this
    exact this
  have s5 : ∀ k, k < 88 → Ly5 k = Ly3 k ∧ I5 k = I3 k ∧ P5 k = upP P3 0 1 (some 21) k := fun k hk => by
    have := l1 k hk
    rw [upL_n (by omega), nwI_n (by omega), nwP_n (by omega)] at this
    exact this
  have s3 : ∀ k, k < 21 → Ly3 k = Ly1 k ∧ I3 k = I1 k ∧ P3 k = upP P1 0 0 (some 1) k := fun k hk => by
    have := y1 k hk
    rw [upL_n (by omega), nwI_n (by omega), nwP_n (by omega)] at this
    exact this
  have s1 : Ly1 0 = .inl 8 := by
    have := (w1 0 (by omega)).1
    rw [this, upL_n (by omega)]; exact hl
  -- a name's final state, by its stage
  have f9 : ∀ k, 107 ≤ k → k < 121 → LyA k = Ly9 k ∧ IA k = I9 k ∧ upP PA 0 4 (some 121) k = P9 k := fun k h1 h2 => by
    have s := sA k h2
    rw [s.1, s.2.1, upP_n (by omega), s.2.2, upP_n (by omega)]
    exact ⟨rfl, rfl, rfl⟩
  have f7 : ∀ k, 93 ≤ k → k < 107 → LyA k = Ly7 k ∧ IA k = I7 k ∧ upP PA 0 4 (some 121) k = P7 k := fun k h1 h2 => by
    have s := sA k (by omega)
    have q := s9 k h2
    rw [s.1, s.2.1, upP_n (by omega), s.2.2, upP_n (by omega), q.1, q.2.1, q.2.2, upP_n (by omega)]
    exact ⟨rfl, rfl, rfl⟩
  have f5 : ∀ k, 0 < k → k < 92 → LyA k = Ly5 k ∧ IA k = I5 k ∧ upP PA 0 4 (some 121) k = P5 k := fun k h1 h2 => by
    have s := sA k (by omega)
    have q := s9 k (by omega)
    have t := s7 k (by omega)
    rw [s.1, s.2.1, upP_n (by omega), s.2.2, upP_n (by omega), q.1, q.2.1, q.2.2, upP_n (by omega), t.1, t.2.1, t.2.2, upL_n (by omega), nwI_n (by omega), upP_n (by omega), nwP_n (by omega), upP_n (by omega)]
    exact ⟨rfl, rfl, rfl⟩
  have f3 : ∀ k, 0 < k → k < 88 → LyA k = Ly3 k ∧ IA k = I3 k ∧ upP PA 0 4 (some 121) k = P3 k := fun k h1 h2 => by
    have s := f5 k h1 (by omega)
    have t := s5 k h2
    rw [s.1, s.2.1, s.2.2, t.1, t.2.1, t.2.2, upP_n (by omega)]
    exact ⟨rfl, rfl, rfl⟩
  have f1 : ∀ k, 0 < k → k < 21 → LyA k = Ly1 k ∧ IA k = I1 k ∧ upP PA 0 4 (some 121) k = P1 k := fun k h1 h2 => by
    have s := f3 k h1 (by omega)
    have t := s3 k h2
    rw [s.1, s.2.1, s.2.2, t.1, t.2.1, t.2.2, upP_n (by omega)]
    exact ⟨rfl, rfl, rfl⟩
  have z0 : LyA 0 = .inl 8 := by
    rw [(sA 0 (by omega)).1, (s9 0 (by omega)).1, (s7 0 (by omega)).1, upL_n (by omega), (s5 0 (by omega)).1, (s3 0 (by omega)).1]; exact s1
  have zP : ∀ j, PA 0 j = upP (nwP (upP (upP (upP P1 0 0 (some 1)) 0 1 (some 21)) 0 2 (some 88)) 92) 0 3 (some 92) 0 j := fun j => by
    rw [(sA 0 (by omega)).2.2, upP_n (by omega), (s9 0 (by omega)).2.2, upP_n (by omega), (s7 0 (by omega)).2.2]
    by_cases e3 : j = 3
    · rw [e3, upP_a, upP_a]
    rw [upP_b e3, upP_b e3, nwP_n (by omega), nwP_n (by omega)]
    by_cases e2 : j = 2
    · rw [e2, upP_a, upP_a]
    rw [upP_b e2, upP_b e2, (s5 0 (by omega)).2.2]
    by_cases e1 : j = 1
    · rw [e1, upP_a, upP_a]
    rw [upP_b e1, upP_b e1, (s3 0 (by omega)).2.2]
  refine ⟨rfl, rfl, z0, ⟨?_, ?_, ?_, ?_, upP_a⟩, ⟨?_, ⟨?_, ?_⟩, ?_, ?_, ?_, ?_⟩, ⟨?_, ?_, ?_, ?_, fun j hj => ⟨?_, ?_⟩⟩, ⟨?_, ?_, ?_⟩, ⟨?_, fun s hs => ?_⟩, ?_⟩
  · rw [upP_b (by omega), zP]; rfl
  · rw [upP_b (by omega), zP]; rfl
  · rw [upP_b (by omega), zP]; rfl
  · rw [upP_b (by omega), zP]; rfl
  · rw [(f1 1 (by omega) (by omega)).1]; exact w2
  · rw [(f1 1 (by omega) (by omega)).2.2]; exact w3
  · rw [(f1 1 (by omega) (by omega)).2.2]; exact w4
  · exact w5.fr (fun k h1 h2 => f1 k (by omega) (by omega))
  · rw [(f1 15 (by omega) (by omega)).1, (f1 16 (by omega) (by omega)).1, (f1 17 (by omega) (by omega)).1, (f1 18 (by omega) (by omega)).1, (f1 19 (by omega) (by omega)).1, (f1 20 (by omega) (by omega)).1]; exact w6
  · rw [(f1 15 (by omega) (by omega)).2.2]; exact w7
  · rw [(f1 15 (by omega) (by omega)).2.1]; exact w8
  · rw [(f3 21 (by omega) (by omega)).1]; exact y2
  · rw [(f3 22 (by omega) (by omega)).1]; exact y3
  · rw [(f3 21 (by omega) (by omega)).2.2]; exact y4
  · rw [(f3 21 (by omega) (by omega)).2.1]; exact y5
  · exact ((y6 j hj).1 : ST (23 + 13 * j) Ly3 I3 P3).fr (fun k h1 h2 => f3 k (by omega) (by omega))
  · rw [(f3 22 (by omega) (by omega)).2.2]; exact (y6 j hj).2
  · rw [(f5 88 (by omega) (by omega)).1, (f5 89 (by omega) (by omega)).1, (f5 90 (by omega) (by omega)).1, (f5 91 (by omega) (by omega)).1]; exact l2
  · rw [(f5 88 (by omega) (by omega)).2.2]; exact l3
  · rw [(f5 88 (by omega) (by omega)).2.1]; exact l4
  · rw [(sA 92 (by omega)).1, (s9 92 (by omega)).1, (s7 92 (by omega)).1, upL_a]
  · have hs' : s = 0 ∨ s = 1 := by omega
    rcases hs' with e | e <;> subst e
    · have f := f7 93 (by omega) (by omega)
      refine ⟨?_, by rw [show 93 + 14 * 0 = 93 from rfl, f.1]; exact t2, by rw [show 93 + 14 * 0 = 93 from rfl, f.2.2]; exact t3, by rw [show 93 + 14 * 0 = 93 from rfl, f.2.1]; exact t4, ?_⟩
      · rw [upP_n (by omega), (sA 92 (by omega)).2.2, upP_b (by omega), (s9 92 (by omega)).2.2, upP_a]
      · exact (t5 : ST 94 Ly7 I7 P7).fr (fun k h1 h2 => f7 k (by omega) (by omega))
    · have f := f9 107 (by omega) (by omega)
      refine ⟨?_, by rw [show 93 + 14 * 1 = 107 from rfl, f.1]; exact u2, by rw [show 93 + 14 * 1 = 107 from rfl, f.2.2]; exact u3, by rw [show 93 + 14 * 1 = 107 from rfl, f.2.1]; exact u4, ?_⟩
      · rw [upP_n (by omega), (sA 92 (by omega)).2.2, upP_a]
      · exact (u5 : ST 108 Ly9 I9 P9).fr (fun k h1 h2 => f9 k (by omega) (by omega))
  · exact a2.fr (fun k h1 h2 => by rw [upP_n (by omega)]; exact ⟨rfl, rfl, rfl⟩)
set_option maxHeartbeats 4000000 in
theorem c_X8_init {Ly : LL} {I : II} {P : PP} (hl : Ly 0 = .inl 8) (l : Launch) (s0 : Nat) (D : va_G) (DA : Nat → ClassId) : Ct l s0 D DA mX8_init [.inr (some 0)] 133 4446 1 Ly I P CPo := ct_of (by decide +kernel) (Nat.le_of_ble_eq_true rfl) (fun X F hr hi => by
  refine s_aload_n F dX8_init_0 rfl ?_
  refine s_objInit F dX8_init_1 lkX8_1 (by decide) (by decide) ?_
  refine s_aload_n F dX8_init_4 rfl ?_
  refine s_new F dX8_init_5 lnX8_7 (by decide) (by decide) ?_
  refine s_dup F dX8_init_8 ?_
  refine s_callIN (av := []) F dX8_init_9 (fun l s0 D DA => c_X7_init (b := 1) upL_a l s0 D DA) rfl lkX8_9 okX7_init rfl (Nat.le_of_ble_eq_true rfl) (by decide) (by decide) (by decide) (fun _ _ _ _ _ h => h.2.1) (fun r1 n1 Ly1 I1 P1 h1 => ?_)
  obtain rfl : r1 = none := h1.1
  obtain rfl : n1 = 21 := h1.2.1
  have q1 : Ly1 0 = .inl 8 := by
    rw [(h1.2.2.1 0 (by omega)).1, upL_n (by omega)]; exact hl
  refine s_putF F (hi rfl) dX8_init_12 flX8_10 q1 (by omega) rfl rfl rfl ?_
  refine s_aload_n F dX8_init_15 rfl ?_
  refine s_new F dX8_init_16 lnX8_16 (by decide) (by decide) ?_
  refine s_dup F dX8_init_19 ?_
  refine s_callI (av := []) F dX8_init_20 (fun l s0 D DA => c_X1_init (b := 21) upL_a l s0 D DA) rfl lkX8_18 okX1_init rfl (Nat.le_of_ble_eq_true rfl) (by decide) (by decide) (by decide) (fun _ _ _ _ _ h => h.2.1) (fun r3 n3 Ly3 I3 P3 h3 => ?_)
  obtain rfl : r3 = none := h3.1
  obtain rfl : n3 = 88 := h3.2.1
  have q3 : Ly3 0 = .inl 8 := by
    rw [(h3.2.2.1 0 (by omega)).1, upL_n (by omega)]; exact q1
  refine s_putF F (hi rfl) dX8_init_23 flX8_19 q3 (by omega) rfl rfl rfl ?_
  refine s_aload_n F dX8_init_26 rfl ?_
  refine s_new F dX8_init_27 lnX8_23 (by decide) (by decide) ?_
  refine s_dup F dX8_init_30 ?_
  refine s_callIN (av := []) F dX8_init_31 (fun l s0 D DA => c_X2_init (b := 88) upL_a l s0 D DA) rfl lkX8_25 okX2_init rfl (Nat.le_of_ble_eq_true rfl) (by decide) (by decide) (by decide) (fun _ _ _ _ _ h => h.2.1) (fun r5 n5 Ly5 I5 P5 h5 => ?_)
  obtain rfl : r5 = none := h5.1
  obtain rfl : n5 = 92 := h5.2.1
  have q5 : Ly5 0 = .inl 8 := by
    rw [(h5.2.2.1 0 (by omega)).1, upL_n (by omega)]; exact q3
  refine s_putF F (hi rfl) dX8_init_34 flX8_26 q5 (by omega) rfl rfl rfl ?_
  refine s_aload_n F dX8_init_37 rfl ?_
  refine s_iconst (v := 2) F dX8_init_38 (by decide) ?_
  refine s_anew (t := 5) (len := 2) (C := RX3) F dX8_init_39 (by decide) (fun _ => rfl) laX8_30 (fun U h => h.2.2.2) (by decide) (by decide) (by decide) (by decide) (by decide) ?_
  refine s_putF F (hi rfl) dX8_init_42 flX8_32 (by rw [upL_n (by omega)]; exact q5) (by omega) rfl rfl rfl ?_
  refine s_iconst (v := 0) F dX8_init_45 (by decide) ?_
  refine s_istore_n F dX8_init_46 (by decide) ?_
  refine s_iload_n (x := 0) F dX8_init_47 rfl ?_
  refine s_iconst (v := 2) F dX8_init_48 (by decide) ?_
  refine s_icmp_ge (tgt := 71) F dX8_init_49 (by decide) (fun c1 => absurd c1 (by decide)) (fun _ => ?_)
  refine s_aload_n F dX8_init_52 rfl ?_
  refine s_getR (o := some 92) F dX8_init_53 flX8_32 (by rw [upL_n (by omega)]; exact q5) (by omega) rfl upP_a ?_
  refine s_iload_n (x := 0) F dX8_init_56 rfl ?_
  refine s_new F dX8_init_57 lnX8_30 (by decide) (by decide) ?_
  refine s_dup F dX8_init_60 ?_
  refine s_callIN (av := []) F dX8_init_61 (fun l s0 D DA => c_X3_init (b := 93) upL_a l s0 D DA) rfl lkX8_36 okX3_init rfl (Nat.le_of_ble_eq_true rfl) (by decide) (by decide) (by decide) (fun _ _ _ _ _ h => h.2.1) (fun r7 n7 Ly7 I7 P7 h7 => ?_)
  obtain rfl : r7 = none := h7.1
  obtain rfl : n7 = 107 := h7.2.1
  have q7 : Ly7 0 = .inl 8 := by
    rw [(h7.2.2.1 0 (by omega)).1, upL_n (by omega), upL_n (by omega)]; exact q5
  have q72 : Ly7 92 = .inr (5, 2) := by
    rw [(h7.2.2.1 92 (by omega)).1, upL_n (by omega), upL_a]
  have p7 : P7 0 3 = some 92 := by
    rw [(h7.2.2.1 0 (by omega)).2.2, nwP_n (by omega), upP_a]
  refine s_aast F dX8_init_64 (t := 5) (len := 2) (ci := 3) q72 (Or.inr (Or.inr ⟨rfl, rfl⟩)) (by omega) h7.2.2.2.1 (by omega) (vp_in_nI (n := 0) (N := 2) (by omega) (by omega)) ?_
  refine s_iinc (x := 0) (v := 1) F dX8_init_65 rfl (by decide) (by decide) ?_
  refine s_goto (tgt := 47) F dX8_init_68 (by decide) ?_
  refine s_iload_n (x := 1) F dX8_init_47 rfl ?_
  refine s_iconst (v := 2) F dX8_init_48 (by decide) ?_
  refine s_icmp_ge (tgt := 71) F dX8_init_49 (by decide) (fun c1 => absurd c1 (by decide)) (fun _ => ?_)
  refine s_aload_n F dX8_init_52 rfl ?_
  refine s_getR (o := some 92) F dX8_init_53 flX8_32 q7 (by omega) rfl (by rw [upP_n (by omega)]; exact p7) ?_
  refine s_iload_n (x := 1) F dX8_init_56 rfl ?_
  refine s_new F dX8_init_57 lnX8_30 (by decide) (by decide) ?_
  refine s_dup F dX8_init_60 ?_
  refine s_callIN (av := []) F dX8_init_61 (fun l s0 D DA => c_X3_init (b := 107) upL_a l s0 D DA) rfl lkX8_36 okX3_init rfl (Nat.le_of_ble_eq_true rfl) (by decide) (by decide) (by decide) (fun _ _ _ _ _ h => h.2.1) (fun r9 n9 Ly9 I9 P9 h9 => ?_)
  obtain rfl : r9 = none := h9.1
  obtain rfl : n9 = 121 := h9.2.1
  have q9 : Ly9 0 = .inl 8 := by
    rw [(h9.2.2.1 0 (by omega)).1, upL_n (by omega)]; exact q7
  have q92 : Ly9 92 = .inr (5, 2) := by
    rw [(h9.2.2.1 92 (by omega)).1, upL_n (by omega)]; exact q72
  refine s_aast F dX8_init_64 (t := 5) (len := 2) (ci := 3) q92 (Or.inr (Or.inr ⟨rfl, rfl⟩)) (by omega) h9.2.2.2.1 (by omega) (vp_in_nI (n := 1) (N := 2) (by omega) (by omega)) ?_
  refine s_iinc (x := 1) (v := 2) F dX8_init_65 rfl (by decide) (by decide) ?_
  refine s_goto (tgt := 47) F dX8_init_68 (by decide) ?_
  refine s_iload_n (x := 2) F dX8_init_47 rfl ?_
  refine s_iconst (v := 2) F dX8_init_48 (by decide) ?_
  refine s_icmp_ge (tgt := 71) F dX8_init_49 (by decide) (fun _ => ?_) (fun c1 => absurd (by decide) c1)
  refine s_aload_n F dX8_init_71 rfl ?_
  refine s_new F dX8_init_72 lnX8_37 (by decide) (by decide) ?_
  refine s_dup F dX8_init_75 ?_
  refine s_callI (av := []) F dX8_init_76 (fun l s0 D DA => c_X4_init (b := 121) upL_a l s0 D DA) rfl lkX8_39 okX4_init rfl (Nat.le_of_ble_eq_true rfl) (by decide) (by decide) (by decide) (fun _ _ _ _ _ h => h.2.1) (fun rA nA LyA IA PA hA => ?_)
  obtain rfl : rA = none := hA.1
  obtain rfl : nA = 134 := hA.2.1
  have qA : LyA 0 = .inl 8 := by
    rw [(hA.2.2.1 0 (by omega)).1, upL_n (by omega)]; exact q9
  refine s_putF F (hi rfl) dX8_init_79 flX8_40 qA (by omega) rfl rfl rfl ?_
  exact s_vret F hr dX8_init_82 (by decide) (by decide) (c_X8_fin hl h1 h3 h5 h7 h9 hA))
