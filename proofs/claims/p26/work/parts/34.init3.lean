/-! the history's constructor, the whole's, the reference's -/
def YI (b x : Nat) (Ly : LL) (I : II) (P : PP) (Ly' : LL) (I' : II) (P' : PP) : Prop := FR b Ly I P Ly' I' P' ∧ Ly' b = .inl 1 ∧ Ly' (b + 1) = .inr (4, 5) ∧ P' b 0 = some (b + 1) ∧ I' b 1 = 0 ∧ ∀ j, j < x → ST (b + 2 + 13 * j) Ly' I' P' ∧ P' (b + 1) j = some (b + 2 + 13 * j)
def YPo (b : Nat) (Ly : LL) (I : II) (P : PP) : PQ := fun r n' Ly' I' P' => r = none ∧ n' = b + 67 ∧ YI b 5 Ly I P Ly' I' P'
set_option maxHeartbeats 4000000 in
theorem w_X1_loop {X : Cx} {b : Nat} {Ly : LL} {I : II} {P : PP} (F : Fx X RX1 cX1_init 2 3 66 1895) (hr : Fr X none (YPo b Ly I P) 66 1895) : ∀ (m x : Nat) (Ly1 : LL) (I1 : II) (P1 : PP), x + m = 5 → YI b x Ly I P Ly1 I1 P1 → G X 2 (1 + 13 * x) (5 + 378 * x) (b + 2 + 13 * x) Ly1 19 [some (.inr (some b)), some (.inl (nI x))] [] I1 P1 := by
  intro m
  induction m with
  | zero =>
    intro x Ly1 I1 P1 hx h
    refine s_iload_n F dX1_init_19 rfl ?_
    refine s_iconst (v := 5) F dX1_init_20 (by decide) ?_
    refine s_icmp_ge (tgt := 43) F dX1_init_21 (by decide) (fun c1 => ?_) (fun c1 => ?_)
    · have e : x = 5 := by omega
      subst e
      exact s_vret F hr dX1_init_43 (by omega) (by omega) ⟨rfl, by omega, h⟩
    · exact absurd (show (5 : Int32) ≤ nI x from yle (a := 5) (by omega) (by omega) (by omega)) c1
  | succ m ih =>
    intro x Ly1 I1 P1 hx h
    obtain ⟨h1, h2, h3, h4, h5, h6⟩ := h
    refine s_iload_n F dX1_init_19 rfl ?_
    refine s_iconst (v := 5) F dX1_init_20 (by decide) ?_
    refine s_icmp_ge (tgt := 43) F dX1_init_21 (by decide) (fun c1 => ?_) (fun c1 => ?_)
    · exact absurd (show (5 : Int32) ≤ nI x from c1) (nle (a := 5) (by omega) (by omega) (by omega))
    refine s_aload_n F dX1_init_24 rfl ?_
    refine s_getR F dX1_init_25 flX1_11 h2 (by omega) rfl h4 ?_
    refine s_iload_n F dX1_init_28 rfl ?_
    refine s_new F dX1_init_29 lnX1_9 (by omega) (by show 5 + 378 * x + 8 ≤ 1895; omega) ?_
    refine s_dup F dX1_init_32 ?_
    refine s_callI (av := []) F dX1_init_33 (fun l s0 D DA => c_X4_init upL_a l s0 D DA) rfl lkX1_21 okX4_init rfl (Nat.le_of_ble_eq_true rfl) (by decide) (by omega) (by show 5 + 378 * x + 8 + 370 ≤ 1895; omega) (fun _ _ _ _ _ h => h.2.1) (fun r n' Ly' I' P' hpo => ?_)
    obtain ⟨rfl, rfl, hf, hst⟩ := hpo.st
    have fb := hf b (by omega)
    have fb1 := hf (b + 1) (by omega)
    rw [upL_n (by omega), nwI_n (by omega), nwP_n (by omega)] at fb fb1
    refine s_aast F dX1_init_36 (t := 4) (len := 5) (ci := 4) (by rw [fb1.1]; exact h3) (Or.inr (Or.inl ⟨rfl, rfl⟩)) (by omega) hst.1.1 (by omega) (vp_in_nI (by omega) (by omega)) ?_
    refine s_iinc (v := nI (x + 1)) F dX1_init_37 rfl (by omega) (nI_1 x) ?_
    refine s_goto (tgt := 19) F dX1_init_40 (by decide) ?_
    rw [nI_clamp (show x < 2 ^ 31 by omega)]
    have e1 : 1 + 13 * x + 1 + 12 = 1 + 13 * (x + 1) := by omega
    have e2 : 5 + 378 * x + nF 4 + 370 = 5 + 378 * (x + 1) := by show 5 + 378 * x + 8 + 370 = _; omega
    have e3 : b + 2 + 13 * x + 13 = b + 2 + 13 * (x + 1) := by omega
    rw [e1, e2, e3]
    refine ih (x + 1) _ _ _ (by omega) ⟨fun k hk => ?_, ?_, ?_, ?_, ?_, fun j hj => ?_⟩
    · have f := hf k (by omega)
      rw [f.1, upL_n (by omega), f.2.1, nwI_n (by omega), upP_n (by omega), f.2.2, nwP_n (by omega)]; exact h1 k hk
    · rw [fb.1]; exact h2
    · rw [fb1.1]; exact h3
    · rw [upP_n (by omega), fb.2.2]; exact h4
    · rw [fb.2.1]; exact h5
    · by_cases e : j = x
      · rw [e]
        exact ⟨hst.fr (fun k h1 h2 => by rw [upP_n (by omega)]; exact ⟨rfl, rfl, rfl⟩), upP_a⟩
      · refine ⟨(h6 j (by omega)).1.fr (fun k q1 q2 => ?_), ?_⟩
        · have f := hf k (by omega)
          rw [f.1, upL_n (by omega), f.2.1, nwI_n (by omega), upP_n (by omega), f.2.2, nwP_n (by omega)]
          exact ⟨rfl, rfl, rfl⟩
        · rw [upP_b e, fb1.2.2]; exact (h6 j (by omega)).2
set_option maxHeartbeats 4000000 in
theorem c_X1_init {b : Nat} {Ly : LL} {I : II} {P : PP} (hl : Ly b = .inl 1) (l : Launch) (s0 : Nat) (D : va_G) (DA : Nat → ClassId) : Ct l s0 D DA mX1_init [.inr (some b)] 66 1895 (b + 1) Ly I P (YPo b Ly I P) := ct_of (by decide +kernel) (Nat.le_of_ble_eq_true rfl) (fun X F hr hi => by
  refine s_aload_n F dX1_init_0 rfl ?_
  refine s_objInit F dX1_init_1 lkX1_3 (by decide) (by decide) ?_
  refine s_aload_n F dX1_init_4 rfl ?_
  refine s_iconst (v := 5) F dX1_init_5 (by decide) ?_
  refine s_anew (t := 4) (len := 5) (C := RX4) F dX1_init_6 (by decide) (fun _ => rfl) laX1_9 (fun U h => h.2.2.1) (by decide) (by decide) (by decide) (by decide) (by decide) ?_
  refine s_putF F (hi rfl) dX1_init_9 flX1_11 (by rw [upL_n (by omega)]; exact hl) (by omega) rfl rfl rfl ?_
  refine s_aload_n F dX1_init_12 rfl ?_
  refine s_iconst (v := 0) F dX1_init_13 (by decide) ?_
  refine s_putI F dX1_init_14 flX1_17 (by rw [upL_n (by omega)]; exact hl) (by omega) rfl rfl ⟨rfl, rfl⟩ ?_
  refine s_iconst (v := 0) F dX1_init_17 (by decide) ?_
  refine s_istore_n F dX1_init_18 (by decide) ?_
  refine w_X1_loop F hr 5 0 _ _ _ (by omega) ⟨fun k hk => ?_, ?_, upL_a, upP_a, up2_a, fun j hj => by omega⟩
  · rw [upL_n (by omega), up2_n (by omega), nwI_n (by omega), upP_n (by omega), nwP_n (by omega)]
    exact ⟨rfl, rfl, rfl⟩
  · rw [upL_n (by omega)]; exact hl)
def CPo : PQ := fun r n' Ly' I' P' => r = none ∧ n' = 134 ∧ Ly' 0 = .inl 8 ∧ (P' 0 0 = some 1 ∧ P' 0 1 = some 21 ∧ P' 0 2 = some 88 ∧ P' 0 3 = some 92 ∧ P' 0 4 = some 121) ∧
  (Ly' 1 = .inl 7 ∧ (P' 1 0 = some 2 ∧ P' 1 1 = some 15) ∧ ST 2 Ly' I' P' ∧ (Ly' 15 = .inl 0 ∧ Ly' 16 = .inr (0, 128) ∧ Ly' 17 = .inr (0, 128) ∧ Ly' 18 = .inr (0, 128) ∧ Ly' 19 = .inr (0, 256) ∧ Ly' 20 = .inr (0, 256)) ∧ (P' 15 0 = some 16 ∧ P' 15 1 = some 17 ∧ P' 15 2 = some 18 ∧ P' 15 3 = some 19 ∧ P' 15 4 = some 20) ∧ I' 15 6 = 1) ∧
  (Ly' 21 = .inl 1 ∧ Ly' 22 = .inr (4, 5) ∧ P' 21 0 = some 22 ∧ I' 21 1 = 0 ∧ ∀ j, j < 5 → ST (23 + 13 * j) Ly' I' P' ∧ P' 22 j = some (23 + 13 * j)) ∧
  ((Ly' 88 = .inl 2 ∧ Ly' 89 = .inr (1, 40) ∧ Ly' 90 = .inr (1, 40) ∧ Ly' 91 = .inr (0, 40)) ∧ (P' 88 0 = some 89 ∧ P' 88 2 = some 90 ∧ P' 88 3 = some 91) ∧ I' 88 1 = 0) ∧
  (Ly' 92 = .inr (5, 2) ∧ ∀ s, s < 2 → P' 92 s = some (93 + 14 * s) ∧ Ly' (93 + 14 * s) = .inl 3 ∧ P' (93 + 14 * s) 0 = some (94 + 14 * s) ∧ I' (93 + 14 * s) 1 = 0 ∧ ST (94 + 14 * s) Ly' I' P') ∧ ST 121 Ly' I' P'
