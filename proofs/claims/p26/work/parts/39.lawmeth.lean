/-! the law's methods, read off their bytecode as functions of the account, and walked -/
-- low
noncomputable def hL_low (A : AbS) (x0 : Int32) (x1 : Int32) : Option Int32 := ck (nz x1) (some (rm (x0 &&& 2147483647) x1))
set_option maxRecDepth 100000 in
set_option maxHeartbeats 4000000 in
theorem bL_low {X : Cx} {n0 : Nat} {q : II} {Po : PQ} {A : AbS} {r : Int32} (F : Fx X RL cL_low 2 1 0 0) (hr : Fr X (some .int) Po 0 0) (post : ∀ (n' : Nat) (Ly : LL) (I : II) (P : PP), n' = n0 + 0 → Ac n' Ly I P A → Po (some (.inl r)) n' Ly I P) {x0 : Int32} {x1 : Int32} (h : hL_low A x0 x1 = some r) : GA none X 2 0 0 n0 0 0 [some (.inl x0), some (.inl x1)] [] A q := by
  unfold hL_low at h
  refine ga_iload_n F dL_low_0 rfl ?_
  refine ga_ldc (v := 2147483647) F dL_low_1 kcL_8 ?_
  refine ga_iand F dL_low_3 ?_
  refine ga_iload_n F dL_low_4 rfl ?_
  obtain ⟨hy1, h⟩ := ck_s h
  refine ga_rem F dL_low_5 (nz_s hy1) ?_
  have h := Option.some.inj h
  subst h
  exact ga_iret F rfl hr dL_low_6 rfl (by decide) (by decide) (fun Ly I P hA => post _ Ly I P rfl hA)
set_option maxRecDepth 100000 in
set_option maxHeartbeats 4000000 in
theorem al_low {A : AbS} {r : Int32} {x0 : Int32} {x1 : Int32} (h : hL_low A x0 x1 = some r) : AL mL_low [.inl x0, .inl x1] 0 0 A r A   := al_of (by decide +kernel) (Nat.le_of_ble_eq_true rfl) (by decide) (fun X n q Po F hr post => bL_low F hr post h)
-- act
noncomputable def hL_act_J111 (A : AbS) (x1 : Int32) (x2 : Int32) : Option Int32 := (if x2 ≤ 0 then some 0 else (if 99 ≤ x2 then some 0 else (if x1 ≤ 0 then some 0 else some (-1))))
noncomputable def hL_act_J63 (A : AbS) (x1 : Int32) (x2 : Int32) : Option Int32 := (if x2 ≤ 2 then some 0 else (if x1 ≤ 0 then some 0 else (if (99 - x2) ≤ x1 then some (-(99 - x2)) else some (-x1))))
noncomputable def hL_act (A : AbS) (x0 : Int32) (x1 : Int32) (x2 : Int32) (x3 : Int32) (x4 : Int32) : Option Int32 := (if ¬ x0 = 0 then (if ¬ x0 = 1 then (if x2 ≤ 0 then hL_act_J111 A x1 x2 else (if x3 ≤ 0 then hL_act_J111 A x1 x2 else (if ¬ x4 = 0 then hL_act_J111 A x1 x2 else some 1))) else (if x2 ≤ 0 then hL_act_J63 A x1 x2 else (if 3 ≤ x2 then hL_act_J63 A x1 x2 else (if x3 ≤ 0 then hL_act_J63 A x1 x2 else (if x3 ≤ x2 then some x3 else some x2))))) else (if ¬ x2 = 0 then (if ¬ x1 = 0 then (if 99 ≤ x2 then some 0 else some (-1)) else some 1) else some 0))
set_option maxRecDepth 100000 in
set_option maxHeartbeats 4000000 in
theorem lL_act_J111 {X : Cx} {n0 : Nat} {q : II} {Po : PQ} {A : AbS} {r : Int32} (F : Fx X RL cL_act 5 1 0 0) (hr : Fr X (some .int) Po 0 0) (post : ∀ (n' : Nat) (Ly : LL) (I : II) (P : PP), n' = n0 + 0 → Ac n' Ly I P A → Po (some (.inl r)) n' Ly I P) {x1 : Int32} {x2 : Int32} (h : hL_act_J111 A x1 x2 = some r) : GA none X 5 0 0 n0 0 111 [none, some (.inl x1), some (.inl x2), none, none] [] A q := by
  unfold hL_act_J111 at h
  refine ga_iload_n F dL_act_111 rfl ?_
  refine ga_if_le (tgt := 129) F dL_act_112 (by decide) (fun c4 => ?_) (fun c4 => ?_)
  · have h := if_t c4 h
    refine ga_iconst (v := 0) F dL_act_129 (by decide) ?_
    have h := Option.some.inj h
    subst h
    exact ga_iret F rfl hr dL_act_130 rfl (by decide) (by decide) (fun Ly I P hA => post _ Ly I P rfl hA)
  · have h := if_f c4 h
    refine ga_iload_n F dL_act_115 rfl ?_
    refine ga_bipush (v := 99) F dL_act_116 (by decide) ?_
    refine ga_icmp_ge (tgt := 129) F dL_act_118 (by decide) (fun c5 => ?_) (fun c5 => ?_)
    · have h := if_t c5 h
      refine ga_iconst (v := 0) F dL_act_129 (by decide) ?_
      have h := Option.some.inj h
      subst h
      exact ga_iret F rfl hr dL_act_130 rfl (by decide) (by decide) (fun Ly I P hA => post _ Ly I P rfl hA)
    · have h := if_f c5 h
      refine ga_iload_n F dL_act_121 rfl ?_
      refine ga_if_le (tgt := 129) F dL_act_122 (by decide) (fun c6 => ?_) (fun c6 => ?_)
      · have h := if_t c6 h
        refine ga_iconst (v := 0) F dL_act_129 (by decide) ?_
        have h := Option.some.inj h
        subst h
        exact ga_iret F rfl hr dL_act_130 rfl (by decide) (by decide) (fun Ly I P hA => post _ Ly I P rfl hA)
      · have h := if_f c6 h
        refine ga_iconst (v := (-1)) F dL_act_125 (by decide) ?_
        refine ga_goto (tgt := 130) F dL_act_126 (by decide) ?_
        have h := Option.some.inj h
        subst h
        exact ga_iret F rfl hr dL_act_130 rfl (by decide) (by decide) (fun Ly I P hA => post _ Ly I P rfl hA)
set_option maxRecDepth 100000 in
set_option maxHeartbeats 4000000 in
theorem lL_act_J63 {X : Cx} {n0 : Nat} {q : II} {Po : PQ} {A : AbS} {r : Int32} (F : Fx X RL cL_act 5 1 0 0) (hr : Fr X (some .int) Po 0 0) (post : ∀ (n' : Nat) (Ly : LL) (I : II) (P : PP), n' = n0 + 0 → Ac n' Ly I P A → Po (some (.inl r)) n' Ly I P) {x1 : Int32} {x2 : Int32} (h : hL_act_J63 A x1 x2 = some r) : GA none X 5 0 0 n0 0 63 [none, some (.inl x1), some (.inl x2), none, none] [] A q := by
  unfold hL_act_J63 at h
  refine ga_iload_n F dL_act_63 rfl ?_
  refine ga_iconst (v := 2) F dL_act_64 (by decide) ?_
  refine ga_icmp_le (tgt := 92) F dL_act_65 (by decide) (fun c10 => ?_) (fun c10 => ?_)
  · have h := if_t c10 h
    refine ga_iconst (v := 0) F dL_act_92 (by decide) ?_
    have h := Option.some.inj h
    subst h
    exact ga_iret F rfl hr dL_act_93 rfl (by decide) (by decide) (fun Ly I P hA => post _ Ly I P rfl hA)
  · have h := if_f c10 h
    refine ga_iload_n F dL_act_68 rfl ?_
    refine ga_if_le (tgt := 92) F dL_act_69 (by decide) (fun c11 => ?_) (fun c11 => ?_)
    · have h := if_t c11 h
      refine ga_iconst (v := 0) F dL_act_92 (by decide) ?_
      have h := Option.some.inj h
      subst h
      exact ga_iret F rfl hr dL_act_93 rfl (by decide) (by decide) (fun Ly I P hA => post _ Ly I P rfl hA)
    · have h := if_f c11 h
      refine ga_iload_n F dL_act_72 rfl ?_
      refine ga_bipush (v := 99) F dL_act_73 (by decide) ?_
      refine ga_iload_n F dL_act_75 rfl ?_
      refine ga_isub F dL_act_76 ?_
      refine ga_icmp_ge (tgt := 84) F dL_act_77 (by decide) (fun c12 => ?_) (fun c12 => ?_)
      · have h := if_t c12 h
        refine ga_bipush (v := 99) F dL_act_84 (by decide) ?_
        refine ga_iload_n F dL_act_86 rfl ?_
        refine ga_isub F dL_act_87 ?_
        refine ga_ineg F dL_act_88 ?_
        refine ga_goto (tgt := 93) F dL_act_89 (by decide) ?_
        have h := Option.some.inj h
        subst h
        exact ga_iret F rfl hr dL_act_93 rfl (by decide) (by decide) (fun Ly I P hA => post _ Ly I P rfl hA)
      · have h := if_f c12 h
        refine ga_iload_n F dL_act_80 rfl ?_
        refine ga_goto (tgt := 88) F dL_act_81 (by decide) ?_
        refine ga_ineg F dL_act_88 ?_
        refine ga_goto (tgt := 93) F dL_act_89 (by decide) ?_
        have h := Option.some.inj h
        subst h
        exact ga_iret F rfl hr dL_act_93 rfl (by decide) (by decide) (fun Ly I P hA => post _ Ly I P rfl hA)
set_option maxRecDepth 100000 in
set_option maxHeartbeats 4000000 in
theorem bL_act {X : Cx} {n0 : Nat} {q : II} {Po : PQ} {A : AbS} {r : Int32} (F : Fx X RL cL_act 5 1 0 0) (hr : Fr X (some .int) Po 0 0) (post : ∀ (n' : Nat) (Ly : LL) (I : II) (P : PP), n' = n0 + 0 → Ac n' Ly I P A → Po (some (.inl r)) n' Ly I P) {x0 : Int32} {x1 : Int32} {x2 : Int32} {x3 : Int32} {x4 : Int32} (h : hL_act A x0 x1 x2 x3 x4 = some r) : GA none X 5 0 0 n0 0 0 [some (.inl x0), some (.inl x1), some (.inl x2), some (.inl x3), some (.inl x4)] [] A q := by
  unfold hL_act at h
  refine ga_iload_n F dL_act_0 rfl ?_
  refine ga_if_ne (tgt := 32) F dL_act_1 (by decide) (fun c1 => ?_) (fun c1 => ?_)
  · have h := if_t c1 h
    refine ga_iload_n F dL_act_32 rfl ?_
    refine ga_iconst (v := 1) F dL_act_33 (by decide) ?_
    refine ga_icmp_ne (tgt := 94) F dL_act_34 (by decide) (fun c2 => ?_) (fun c2 => ?_)
    · have h := if_t c2 h
      refine ga_iload_n F dL_act_94 rfl ?_
      refine ga_if_le (tgt := 111) F dL_act_95 (by decide) (fun c3 => ?_) (fun c3 => ?_)
      · have h := if_t c3 h
        exact GA.weak (by exact ⟨rfl, ⟨rfl, trivial⟩⟩) (lL_act_J111 F hr post h)
      · have h := if_f c3 h
        refine ga_iload_n F dL_act_98 rfl ?_
        refine ga_if_le (tgt := 111) F dL_act_99 (by decide) (fun c7 => ?_) (fun c7 => ?_)
        · have h := if_t c7 h
          exact GA.weak (by exact ⟨rfl, ⟨rfl, trivial⟩⟩) (lL_act_J111 F hr post h)
        · have h := if_f c7 h
          refine ga_iload F dL_act_102 rfl ?_
          refine ga_if_ne (tgt := 111) F dL_act_104 (by decide) (fun c8 => ?_) (fun c8 => ?_)
          · have h := if_t c8 h
            exact GA.weak (by exact ⟨rfl, ⟨rfl, trivial⟩⟩) (lL_act_J111 F hr post h)
          · have h := if_f (not_not_intro c8) h
            refine ga_iconst (v := 1) F dL_act_107 (by decide) ?_
            refine ga_goto (tgt := 130) F dL_act_108 (by decide) ?_
            have h := Option.some.inj h
            subst h
            exact ga_iret F rfl hr dL_act_130 rfl (by decide) (by decide) (fun Ly I P hA => post _ Ly I P rfl hA)
    · have h := if_f (not_not_intro c2) h
      refine ga_iload_n F dL_act_37 rfl ?_
      refine ga_if_le (tgt := 63) F dL_act_38 (by decide) (fun c9 => ?_) (fun c9 => ?_)
      · have h := if_t c9 h
        exact GA.weak (by exact ⟨rfl, ⟨rfl, trivial⟩⟩) (lL_act_J63 F hr post h)
      · have h := if_f c9 h
        refine ga_iload_n F dL_act_41 rfl ?_
        refine ga_iconst (v := 3) F dL_act_42 (by decide) ?_
        refine ga_icmp_ge (tgt := 63) F dL_act_43 (by decide) (fun c13 => ?_) (fun c13 => ?_)
        · have h := if_t c13 h
          exact GA.weak (by exact ⟨rfl, ⟨rfl, trivial⟩⟩) (lL_act_J63 F hr post h)
        · have h := if_f c13 h
          refine ga_iload_n F dL_act_46 rfl ?_
          refine ga_if_le (tgt := 63) F dL_act_47 (by decide) (fun c14 => ?_) (fun c14 => ?_)
          · have h := if_t c14 h
            exact GA.weak (by exact ⟨rfl, ⟨rfl, trivial⟩⟩) (lL_act_J63 F hr post h)
          · have h := if_f c14 h
            refine ga_iload_n F dL_act_50 rfl ?_
            refine ga_iload_n F dL_act_51 rfl ?_
            refine ga_icmp_ge (tgt := 59) F dL_act_52 (by decide) (fun c15 => ?_) (fun c15 => ?_)
            · have h := if_t c15 h
              refine ga_iload_n F dL_act_59 rfl ?_
              refine ga_goto (tgt := 93) F dL_act_60 (by decide) ?_
              have h := Option.some.inj h
              subst h
              exact ga_iret F rfl hr dL_act_93 rfl (by decide) (by decide) (fun Ly I P hA => post _ Ly I P rfl hA)
            · have h := if_f c15 h
              refine ga_iload_n F dL_act_55 rfl ?_
              refine ga_goto (tgt := 93) F dL_act_56 (by decide) ?_
              have h := Option.some.inj h
              subst h
              exact ga_iret F rfl hr dL_act_93 rfl (by decide) (by decide) (fun Ly I P hA => post _ Ly I P rfl hA)
  · have h := if_f (not_not_intro c1) h
    refine ga_iload_n F dL_act_4 rfl ?_
    refine ga_if_ne (tgt := 12) F dL_act_5 (by decide) (fun c16 => ?_) (fun c16 => ?_)
    · have h := if_t c16 h
      refine ga_iload_n F dL_act_12 rfl ?_
      refine ga_if_ne (tgt := 20) F dL_act_13 (by decide) (fun c17 => ?_) (fun c17 => ?_)
      · have h := if_t c17 h
        refine ga_iload_n F dL_act_20 rfl ?_
        refine ga_bipush (v := 99) F dL_act_21 (by decide) ?_
        refine ga_icmp_ge (tgt := 30) F dL_act_23 (by decide) (fun c18 => ?_) (fun c18 => ?_)
        · have h := if_t c18 h
          refine ga_iconst (v := 0) F dL_act_30 (by decide) ?_
          have h := Option.some.inj h
          subst h
          exact ga_iret F rfl hr dL_act_31 rfl (by decide) (by decide) (fun Ly I P hA => post _ Ly I P rfl hA)
        · have h := if_f c18 h
          refine ga_iconst (v := (-1)) F dL_act_26 (by decide) ?_
          refine ga_goto (tgt := 31) F dL_act_27 (by decide) ?_
          have h := Option.some.inj h
          subst h
          exact ga_iret F rfl hr dL_act_31 rfl (by decide) (by decide) (fun Ly I P hA => post _ Ly I P rfl hA)
      · have h := if_f (not_not_intro c17) h
        refine ga_iconst (v := 1) F dL_act_16 (by decide) ?_
        refine ga_goto (tgt := 31) F dL_act_17 (by decide) ?_
        have h := Option.some.inj h
        subst h
        exact ga_iret F rfl hr dL_act_31 rfl (by decide) (by decide) (fun Ly I P hA => post _ Ly I P rfl hA)
    · have h := if_f (not_not_intro c16) h
      refine ga_iconst (v := 0) F dL_act_8 (by decide) ?_
      refine ga_goto (tgt := 31) F dL_act_9 (by decide) ?_
      have h := Option.some.inj h
      subst h
      exact ga_iret F rfl hr dL_act_31 rfl (by decide) (by decide) (fun Ly I P hA => post _ Ly I P rfl hA)
set_option maxRecDepth 100000 in
set_option maxHeartbeats 4000000 in
theorem al_act {A : AbS} {r : Int32} {x0 : Int32} {x1 : Int32} {x2 : Int32} {x3 : Int32} {x4 : Int32} (h : hL_act A x0 x1 x2 x3 x4 = some r) : AL mL_act [.inl x0, .inl x1, .inl x2, .inl x3, .inl x4] 0 0 A r A   := al_of (by decide +kernel) (Nat.le_of_ble_eq_true rfl) (by decide) (fun X n q Po F hr post => bL_act F hr post h)
-- wall
noncomputable def hL_wall_J33 (A : AbS) (x2 : Int32) (x3 : Int32) : Option Int32 := (if ¬ x3 = 1 then some 0 else (if ¬ x2 = ((qCount A 1) - 1) then some 0 else some 1))
noncomputable def hL_wall_J24 (A : AbS) (x2 : Int32) (x3 : Int32) : Option Int32 := (if ¬ x3 = 3 then hL_wall_J33 A x2 x3 else (if x2 = 0 then some 1 else hL_wall_J33 A x2 x3))
noncomputable def hL_wall_J8 (A : AbS) (x1 : Int32) (x2 : Int32) (x3 : Int32) : Option Int32 := (if ¬ x3 = 2 then hL_wall_J24 A x2 x3 else (if x1 = ((qCount A 0) - 1) then some 1 else hL_wall_J24 A x2 x3))
noncomputable def hL_wall (A : AbS) (x1 : Int32) (x2 : Int32) (x3 : Int32) : Option Int32 := (if ¬ x3 = 0 then hL_wall_J8 A x1 x2 x3 else (if x1 = 0 then some 1 else hL_wall_J8 A x1 x2 x3))
set_option maxRecDepth 100000 in
set_option maxHeartbeats 4000000 in
theorem lL_wall_J33 {X : Cx} {n0 : Nat} {q : II} {Po : PQ} {A : AbS} {r : Int32} (F : Fx X RL cL_wall 4 5 0 0) (hr : Fr X (some .boolean) Po 0 0) (post : ∀ (n' : Nat) (Ly : LL) (I : II) (P : PP), n' = n0 + 0 → Ac n' Ly I P A → Po (some (.inl r)) n' Ly I P) {x2 : Int32} {x3 : Int32} (h : hL_wall_J33 A x2 x3 = some r) : GA none X 4 0 0 n0 0 33 [some (.inr (some 0)), none, some (.inl x2), some (.inl x3)] [] A q := by
  unfold hL_wall_J33 at h
  refine ga_iload_n F dL_wall_33 rfl ?_
  refine ga_iconst (v := 1) F dL_wall_34 (by decide) ?_
  refine ga_icmp_ne (tgt := 53) F dL_wall_35 (by decide) (fun c4 => ?_) (fun c4 => ?_)
  · have h := if_t c4 h
    refine ga_iconst (v := 0) F dL_wall_53 (by decide) ?_
    have h := Option.some.inj h
    subst h
    exact ga_iret F rfl hr dL_wall_54 rfl (by decide) (by decide) (fun Ly I P hA => post _ Ly I P rfl hA)
  · have h := if_f (not_not_intro c4) h
    refine ga_iload_n F dL_wall_38 rfl ?_
    refine ga_aload_n F dL_wall_39 rfl ?_
    refine ga_iconst (v := 1) F dL_wall_40 (by decide) ?_
    refine ga_call F dL_wall_41 (ac_count _) lkL_9 okX8_count rfl rfl (Nat.le_of_ble_eq_true rfl) (by decide) (by decide) (by decide) ?_
    refine ga_iconst (v := 1) F dL_wall_44 (by decide) ?_
    refine ga_isub F dL_wall_45 ?_
    refine ga_icmp_ne (tgt := 53) F dL_wall_46 (by decide) (fun c5 => ?_) (fun c5 => ?_)
    · have h := if_t c5 h
      refine ga_iconst (v := 0) F dL_wall_53 (by decide) ?_
      have h := Option.some.inj h
      subst h
      exact ga_iret F rfl hr dL_wall_54 rfl (by decide) (by decide) (fun Ly I P hA => post _ Ly I P rfl hA)
    · have h := if_f (not_not_intro c5) h
      refine ga_iconst (v := 1) F dL_wall_49 (by decide) ?_
      refine ga_goto (tgt := 54) F dL_wall_50 (by decide) ?_
      have h := Option.some.inj h
      subst h
      exact ga_iret F rfl hr dL_wall_54 rfl (by decide) (by decide) (fun Ly I P hA => post _ Ly I P rfl hA)
set_option maxRecDepth 100000 in
set_option maxHeartbeats 4000000 in
theorem lL_wall_J24 {X : Cx} {n0 : Nat} {q : II} {Po : PQ} {A : AbS} {r : Int32} (F : Fx X RL cL_wall 4 5 0 0) (hr : Fr X (some .boolean) Po 0 0) (post : ∀ (n' : Nat) (Ly : LL) (I : II) (P : PP), n' = n0 + 0 → Ac n' Ly I P A → Po (some (.inl r)) n' Ly I P) {x2 : Int32} {x3 : Int32} (h : hL_wall_J24 A x2 x3 = some r) : GA none X 4 0 0 n0 0 24 [some (.inr (some 0)), none, some (.inl x2), some (.inl x3)] [] A q := by
  unfold hL_wall_J24 at h
  refine ga_iload_n F dL_wall_24 rfl ?_
  refine ga_iconst (v := 3) F dL_wall_25 (by decide) ?_
  refine ga_icmp_ne (tgt := 33) F dL_wall_26 (by decide) (fun c3 => ?_) (fun c3 => ?_)
  · have h := if_t c3 h
    exact GA.weak (by exact ⟨rfl, ⟨rfl, ⟨rfl, trivial⟩⟩⟩) (lL_wall_J33 F hr post h)
  · have h := if_f (not_not_intro c3) h
    refine ga_iload_n F dL_wall_29 rfl ?_
    refine ga_if_eq (tgt := 49) F dL_wall_30 (by decide) (fun c6 => ?_) (fun c6 => ?_)
    · have h := if_t c6 h
      refine ga_iconst (v := 1) F dL_wall_49 (by decide) ?_
      refine ga_goto (tgt := 54) F dL_wall_50 (by decide) ?_
      have h := Option.some.inj h
      subst h
      exact ga_iret F rfl hr dL_wall_54 rfl (by decide) (by decide) (fun Ly I P hA => post _ Ly I P rfl hA)
    · have h := if_f c6 h
      exact GA.weak (by exact ⟨rfl, ⟨rfl, ⟨rfl, trivial⟩⟩⟩) (lL_wall_J33 F hr post h)
set_option maxRecDepth 100000 in
set_option maxHeartbeats 4000000 in
theorem lL_wall_J8 {X : Cx} {n0 : Nat} {q : II} {Po : PQ} {A : AbS} {r : Int32} (F : Fx X RL cL_wall 4 5 0 0) (hr : Fr X (some .boolean) Po 0 0) (post : ∀ (n' : Nat) (Ly : LL) (I : II) (P : PP), n' = n0 + 0 → Ac n' Ly I P A → Po (some (.inl r)) n' Ly I P) {x1 : Int32} {x2 : Int32} {x3 : Int32} (h : hL_wall_J8 A x1 x2 x3 = some r) : GA none X 4 0 0 n0 0 8 [some (.inr (some 0)), some (.inl x1), some (.inl x2), some (.inl x3)] [] A q := by
  unfold hL_wall_J8 at h
  refine ga_iload_n F dL_wall_8 rfl ?_
  refine ga_iconst (v := 2) F dL_wall_9 (by decide) ?_
  refine ga_icmp_ne (tgt := 24) F dL_wall_10 (by decide) (fun c2 => ?_) (fun c2 => ?_)
  · have h := if_t c2 h
    exact GA.weak (by exact ⟨rfl, ⟨rfl, ⟨rfl, trivial⟩⟩⟩) (lL_wall_J24 F hr post h)
  · have h := if_f (not_not_intro c2) h
    refine ga_iload_n F dL_wall_13 rfl ?_
    refine ga_aload_n F dL_wall_14 rfl ?_
    refine ga_iconst (v := 0) F dL_wall_15 (by decide) ?_
    refine ga_call F dL_wall_16 (ac_count _) lkL_9 okX8_count rfl rfl (Nat.le_of_ble_eq_true rfl) (by decide) (by decide) (by decide) ?_
    refine ga_iconst (v := 1) F dL_wall_19 (by decide) ?_
    refine ga_isub F dL_wall_20 ?_
    refine ga_icmp_eq (tgt := 49) F dL_wall_21 (by decide) (fun c7 => ?_) (fun c7 => ?_)
    · have h := if_t c7 h
      refine ga_iconst (v := 1) F dL_wall_49 (by decide) ?_
      refine ga_goto (tgt := 54) F dL_wall_50 (by decide) ?_
      have h := Option.some.inj h
      subst h
      exact ga_iret F rfl hr dL_wall_54 rfl (by decide) (by decide) (fun Ly I P hA => post _ Ly I P rfl hA)
    · have h := if_f c7 h
      exact GA.weak (by exact ⟨rfl, ⟨rfl, ⟨rfl, trivial⟩⟩⟩) (lL_wall_J24 F hr post h)
set_option maxRecDepth 100000 in
set_option maxHeartbeats 4000000 in
theorem bL_wall {X : Cx} {n0 : Nat} {q : II} {Po : PQ} {A : AbS} {r : Int32} (F : Fx X RL cL_wall 4 5 0 0) (hr : Fr X (some .boolean) Po 0 0) (post : ∀ (n' : Nat) (Ly : LL) (I : II) (P : PP), n' = n0 + 0 → Ac n' Ly I P A → Po (some (.inl r)) n' Ly I P) {x1 : Int32} {x2 : Int32} {x3 : Int32} (h : hL_wall A x1 x2 x3 = some r) : GA none X 4 0 0 n0 0 0 [some (.inr (some 0)), some (.inl x1), some (.inl x2), some (.inl x3)] [] A q := by
  unfold hL_wall at h
  refine ga_iload_n F dL_wall_0 rfl ?_
  refine ga_if_ne (tgt := 8) F dL_wall_1 (by decide) (fun c1 => ?_) (fun c1 => ?_)
  · have h := if_t c1 h
    exact GA.weak (by exact ⟨rfl, ⟨rfl, ⟨rfl, ⟨rfl, trivial⟩⟩⟩⟩) (lL_wall_J8 F hr post h)
  · have h := if_f (not_not_intro c1) h
    refine ga_iload_n F dL_wall_4 rfl ?_
    refine ga_if_eq (tgt := 49) F dL_wall_5 (by decide) (fun c8 => ?_) (fun c8 => ?_)
    · have h := if_t c8 h
      refine ga_iconst (v := 1) F dL_wall_49 (by decide) ?_
      refine ga_goto (tgt := 54) F dL_wall_50 (by decide) ?_
      have h := Option.some.inj h
      subst h
      exact ga_iret F rfl hr dL_wall_54 rfl (by decide) (by decide) (fun Ly I P hA => post _ Ly I P rfl hA)
    · have h := if_f c8 h
      exact GA.weak (by exact ⟨rfl, ⟨rfl, ⟨rfl, ⟨rfl, trivial⟩⟩⟩⟩) (lL_wall_J8 F hr post h)
set_option maxRecDepth 100000 in
set_option maxHeartbeats 4000000 in
theorem al_wall {A : AbS} {r : Int32} {x1 : Int32} {x2 : Int32} {x3 : Int32} (h : hL_wall A x1 x2 x3 = some r) : AL mL_wall [.inr (some 0), .inl x1, .inl x2, .inl x3] 0 0 A r A   := al_of (by decide +kernel) (Nat.le_of_ble_eq_true rfl) (by decide) (fun X n q Po F hr post => bL_wall F hr post h)
-- walkers
noncomputable def hL_walkers_L6 : Nat → (Int32 → Int32 → Option Int32) → AbS → Int32 → Int32 → Int32 → Option Int32
  | 0, _, _, _, _, _ => none
  | k + 1, ct, A, x1, x2, x3 => (if (qCount A 2) ≤ x3 then ct x1 x2 else (if (qWalker A x3 3) < 0 then some 0 else (if (qWalker A x3 4) < (qWalker A x3 3) then some 0 else (if ¬ (qWalker A x3 3) = ((qWalker A x3 7) - (qWalker A x3 8)) then some 0 else (if (qChips A (qWalker A x3 0) (qWalker A x3 1)) < 0 then some 0 else (if (qWalker A x3 2) < 0 then some 0 else (if 3 < (qWalker A x3 2) then some 0 else (if (qWalker A x3 9) = (-2) then hL_walkers_L6 k ct A (x1 + (qWalker A x3 3)) (x2 + (qWalker A x3 6)) (x3 + 1) else some 0))))))))
noncomputable def hL_walkers_L137 : Nat → (Int32 → Option Int32) → Int32 → Int32 → AbS → Int32 → Int32 → Option Int32
  | 0, _, _, _, _, _, _ => none
  | k + 1, ct, x1, x2, A, x3, x4 => (if (qCount A 10) ≤ x4 then ct x3 else (if x3 = 0 then hL_walkers_L137 k ct x1 x2 A 0 (x4 + 1) else (if (qTurn A x4) < 0 then hL_walkers_L137 k ct x1 x2 A 0 (x4 + 1) else (if 10 ≤ (qTurn A x4) then hL_walkers_L137 k ct x1 x2 A 0 (x4 + 1) else hL_walkers_L137 k ct x1 x2 A 1 (x4 + 1)))))
noncomputable def hL_walkers (A : AbS)  : Option Int32 := hL_walkers_L6 2000 (fun z9 z10 => hL_walkers_L137 2000 (fun z15 => (if z15 = 0 then some 0 else (if ¬ (qCount A 4) = z9 then some 0 else (if ¬ (qCount A 8) = z10 then some 0 else (if (qCount A 9) < 0 then some 0 else (if (qCount A 10) ≤ (qCount A 9) then some 0 else (if ¬ (qTurn A (qCount A 10)) = (-5) then some 0 else (if ¬ (qTurn A (-1)) = (-2) then some 0 else (if ¬ (qWalker A (qCount A 2) 0) = (-1) then some 0 else (if ¬ (qCount A 13) = (-2) then some 0 else some 1)))))))))) z9 z10 A 1 0) A 0 0 0
set_option maxRecDepth 100000 in
set_option maxHeartbeats 4000000 in
theorem lL_walkers_L6 {X : Cx} {n0 : Nat} {q : II} {Po : PQ} {A : AbS} {r : Int32} (F : Fx X RL cL_walkers 5 5 0 0) (hr : Fr X (some .boolean) Po 0 0) (post : ∀ (n' : Nat) (Ly : LL) (I : II) (P : PP), n' = n0 + 0 → Ac n' Ly I P A → Po (some (.inl r)) n' Ly I P)  {ct : Int32 → Int32 → Option Int32} (hct : ∀ (x1 : Int32) (x2 : Int32), ct x1 x2 = some r → GA none X 5 0 0 n0 0 132 [some (.inr (some 0)), some (.inl x1), some (.inl x2), none, none] [] A q) : ∀ (k : Nat) (x1 : Int32) (x2 : Int32) (x3 : Int32), hL_walkers_L6 k ct A x1 x2 x3 = some r → GA none X 5 0 0 n0 0 6 [some (.inr (some 0)), some (.inl x1), some (.inl x2), some (.inl x3), none] [] A q := by
  intro k
  induction k with
  | zero =>
    intro x1 x2 x3 h
    cases h
  | succ k ih =>
    intro x1 x2 x3 h
    rw [hL_walkers_L6] at h
    refine ga_iload_n F dL_walkers_6 rfl ?_
    refine ga_aload_n F dL_walkers_7 rfl ?_
    refine ga_iconst (v := 2) F dL_walkers_8 (by decide) ?_
    refine ga_call F dL_walkers_9 (ac_count _) lkL_9 okX8_count rfl rfl (Nat.le_of_ble_eq_true rfl) (by decide) (by decide) (by decide) ?_
    refine ga_icmp_ge (tgt := 132) F dL_walkers_12 (by decide) (fun c1 => ?_) (fun c1 => ?_)
    · have h := if_t c1 h
      exact GA.weak (by exact ⟨rfl, ⟨rfl, ⟨rfl, trivial⟩⟩⟩) (hct _ _ h)
    · have h := if_f c1 h
      refine ga_aload_n F dL_walkers_15 rfl ?_
      refine ga_iload_n F dL_walkers_16 rfl ?_
      refine ga_iconst (v := 3) F dL_walkers_17 (by decide) ?_
      refine ga_call F dL_walkers_18 (ac_walker _ _) lkL_25 okX8_walker rfl rfl (Nat.le_of_ble_eq_true rfl) (by decide) (by decide) (by decide) ?_
      refine ga_istore F dL_walkers_21 (by decide) (by decide) ?_
      refine ga_iload_n F dL_walkers_23 rfl ?_
      refine ga_iload F dL_walkers_24 rfl ?_
      refine ga_iadd F dL_walkers_26 ?_
      refine ga_istore_n F dL_walkers_27 (by decide) (by decide) ?_
      refine ga_iload_n F dL_walkers_28 rfl ?_
      refine ga_aload_n F dL_walkers_29 rfl ?_
      refine ga_iload_n F dL_walkers_30 rfl ?_
      refine ga_bipush (v := 6) F dL_walkers_31 (by decide) ?_
      refine ga_call F dL_walkers_33 (ac_walker _ _) lkL_25 okX8_walker rfl rfl (Nat.le_of_ble_eq_true rfl) (by decide) (by decide) (by decide) ?_
      refine ga_iadd F dL_walkers_36 ?_
      refine ga_istore_n F dL_walkers_37 (by decide) (by decide) ?_
      refine ga_iload F dL_walkers_38 rfl ?_
      refine ga_if_lt (tgt := 124) F dL_walkers_40 (by decide) (fun c2 => ?_) (fun c2 => ?_)
      · have h := if_t c2 h
        refine ga_iconst (v := 0) F dL_walkers_124 (by decide) ?_
        have h := Option.some.inj h
        subst h
        exact ga_iret F rfl hr dL_walkers_125 rfl (by decide) (by decide) (fun Ly I P hA => post _ Ly I P rfl hA)
      · have h := if_f c2 h
        refine ga_iload F dL_walkers_43 rfl ?_
        refine ga_aload_n F dL_walkers_45 rfl ?_
        refine ga_iload_n F dL_walkers_46 rfl ?_
        refine ga_iconst (v := 4) F dL_walkers_47 (by decide) ?_
        refine ga_call F dL_walkers_48 (ac_walker _ _) lkL_25 okX8_walker rfl rfl (Nat.le_of_ble_eq_true rfl) (by decide) (by decide) (by decide) ?_
        refine ga_icmp_gt (tgt := 124) F dL_walkers_51 (by decide) (fun c3 => ?_) (fun c3 => ?_)
        · have h := if_t c3 h
          refine ga_iconst (v := 0) F dL_walkers_124 (by decide) ?_
          have h := Option.some.inj h
          subst h
          exact ga_iret F rfl hr dL_walkers_125 rfl (by decide) (by decide) (fun Ly I P hA => post _ Ly I P rfl hA)
        · have h := if_f c3 h
          refine ga_iload F dL_walkers_54 rfl ?_
          refine ga_aload_n F dL_walkers_56 rfl ?_
          refine ga_iload_n F dL_walkers_57 rfl ?_
          refine ga_bipush (v := 7) F dL_walkers_58 (by decide) ?_
          refine ga_call F dL_walkers_60 (ac_walker _ _) lkL_25 okX8_walker rfl rfl (Nat.le_of_ble_eq_true rfl) (by decide) (by decide) (by decide) ?_
          refine ga_aload_n F dL_walkers_63 rfl ?_
          refine ga_iload_n F dL_walkers_64 rfl ?_
          refine ga_bipush (v := 8) F dL_walkers_65 (by decide) ?_
          refine ga_call F dL_walkers_67 (ac_walker _ _) lkL_25 okX8_walker rfl rfl (Nat.le_of_ble_eq_true rfl) (by decide) (by decide) (by decide) ?_
          refine ga_isub F dL_walkers_70 ?_
          refine ga_icmp_ne (tgt := 124) F dL_walkers_71 (by decide) (fun c4 => ?_) (fun c4 => ?_)
          · have h := if_t c4 h
            refine ga_iconst (v := 0) F dL_walkers_124 (by decide) ?_
            have h := Option.some.inj h
            subst h
            exact ga_iret F rfl hr dL_walkers_125 rfl (by decide) (by decide) (fun Ly I P hA => post _ Ly I P rfl hA)
          · have h := if_f (not_not_intro c4) h
            refine ga_aload_n F dL_walkers_74 rfl ?_
            refine ga_aload_n F dL_walkers_75 rfl ?_
            refine ga_iload_n F dL_walkers_76 rfl ?_
            refine ga_iconst (v := 0) F dL_walkers_77 (by decide) ?_
            refine ga_call F dL_walkers_78 (ac_walker _ _) lkL_25 okX8_walker rfl rfl (Nat.le_of_ble_eq_true rfl) (by decide) (by decide) (by decide) ?_
            refine ga_aload_n F dL_walkers_81 rfl ?_
            refine ga_iload_n F dL_walkers_82 rfl ?_
            refine ga_iconst (v := 1) F dL_walkers_83 (by decide) ?_
            refine ga_call F dL_walkers_84 (ac_walker _ _) lkL_25 okX8_walker rfl rfl (Nat.le_of_ble_eq_true rfl) (by decide) (by decide) (by decide) ?_
            refine ga_call F dL_walkers_87 (ac_chips _ _) lkL_15 okX8_chips rfl rfl (Nat.le_of_ble_eq_true rfl) (by decide) (by decide) (by decide) ?_
            refine ga_if_lt (tgt := 124) F dL_walkers_90 (by decide) (fun c5 => ?_) (fun c5 => ?_)
            · have h := if_t c5 h
              refine ga_iconst (v := 0) F dL_walkers_124 (by decide) ?_
              have h := Option.some.inj h
              subst h
              exact ga_iret F rfl hr dL_walkers_125 rfl (by decide) (by decide) (fun Ly I P hA => post _ Ly I P rfl hA)
            · have h := if_f c5 h
              refine ga_aload_n F dL_walkers_93 rfl ?_
              refine ga_iload_n F dL_walkers_94 rfl ?_
              refine ga_iconst (v := 2) F dL_walkers_95 (by decide) ?_
              refine ga_call F dL_walkers_96 (ac_walker _ _) lkL_25 okX8_walker rfl rfl (Nat.le_of_ble_eq_true rfl) (by decide) (by decide) (by decide) ?_
              refine ga_if_lt (tgt := 124) F dL_walkers_99 (by decide) (fun c6 => ?_) (fun c6 => ?_)
              · have h := if_t c6 h
                refine ga_iconst (v := 0) F dL_walkers_124 (by decide) ?_
                have h := Option.some.inj h
                subst h
                exact ga_iret F rfl hr dL_walkers_125 rfl (by decide) (by decide) (fun Ly I P hA => post _ Ly I P rfl hA)
              · have h := if_f c6 h
                refine ga_aload_n F dL_walkers_102 rfl ?_
                refine ga_iload_n F dL_walkers_103 rfl ?_
                refine ga_iconst (v := 2) F dL_walkers_104 (by decide) ?_
                refine ga_call F dL_walkers_105 (ac_walker _ _) lkL_25 okX8_walker rfl rfl (Nat.le_of_ble_eq_true rfl) (by decide) (by decide) (by decide) ?_
                refine ga_iconst (v := 3) F dL_walkers_108 (by decide) ?_
                refine ga_icmp_gt (tgt := 124) F dL_walkers_109 (by decide) (fun c7 => ?_) (fun c7 => ?_)
                · have h := if_t c7 h
                  refine ga_iconst (v := 0) F dL_walkers_124 (by decide) ?_
                  have h := Option.some.inj h
                  subst h
                  exact ga_iret F rfl hr dL_walkers_125 rfl (by decide) (by decide) (fun Ly I P hA => post _ Ly I P rfl hA)
                · have h := if_f c7 h
                  refine ga_aload_n F dL_walkers_112 rfl ?_
                  refine ga_iload_n F dL_walkers_113 rfl ?_
                  refine ga_bipush (v := 9) F dL_walkers_114 (by decide) ?_
                  refine ga_call F dL_walkers_116 (ac_walker _ _) lkL_25 okX8_walker rfl rfl (Nat.le_of_ble_eq_true rfl) (by decide) (by decide) (by decide) ?_
                  refine ga_bipush (v := (-2)) F dL_walkers_119 (by decide) ?_
                  refine ga_icmp_eq (tgt := 126) F dL_walkers_121 (by decide) (fun c8 => ?_) (fun c8 => ?_)
                  · have h := if_t c8 h
                    refine ga_inc (c := 1) F dL_walkers_126 rfl (by decide) (by decide) (by decide) ?_
                    refine ga_goto (tgt := 6) F dL_walkers_129 (by decide) ?_
                    exact GA.weak (by exact ⟨rfl, ⟨rfl, ⟨rfl, ⟨rfl, trivial⟩⟩⟩⟩) (ih _ _ _ h)
                  · have h := if_f c8 h
                    refine ga_iconst (v := 0) F dL_walkers_124 (by decide) ?_
                    have h := Option.some.inj h
                    subst h
                    exact ga_iret F rfl hr dL_walkers_125 rfl (by decide) (by decide) (fun Ly I P hA => post _ Ly I P rfl hA)
set_option maxRecDepth 100000 in
set_option maxHeartbeats 4000000 in
theorem lL_walkers_L137 {X : Cx} {n0 : Nat} {q : II} {Po : PQ} {A : AbS} {r : Int32} (F : Fx X RL cL_walkers 5 5 0 0) (hr : Fr X (some .boolean) Po 0 0) (post : ∀ (n' : Nat) (Ly : LL) (I : II) (P : PP), n' = n0 + 0 → Ac n' Ly I P A → Po (some (.inl r)) n' Ly I P) {x1 : Int32} {x2 : Int32} {ct : Int32 → Option Int32} (hct : ∀ (x3 : Int32), ct x3 = some r → GA none X 5 0 0 n0 0 184 [some (.inr (some 0)), some (.inl x1), some (.inl x2), some (.inl x3), none] [] A q) : ∀ (k : Nat) (x3 : Int32) (x4 : Int32), hL_walkers_L137 k ct x1 x2 A x3 x4 = some r → GA none X 5 0 0 n0 0 137 [some (.inr (some 0)), some (.inl x1), some (.inl x2), some (.inl x3), some (.inl x4)] [] A q := by
  intro k
  induction k with
  | zero =>
    intro x3 x4 h
    cases h
  | succ k ih =>
    intro x3 x4 h
    rw [hL_walkers_L137] at h
    refine ga_iload F dL_walkers_137 rfl ?_
    refine ga_aload_n F dL_walkers_139 rfl ?_
    refine ga_bipush (v := 10) F dL_walkers_140 (by decide) ?_
    refine ga_call F dL_walkers_142 (ac_count _) lkL_9 okX8_count rfl rfl (Nat.le_of_ble_eq_true rfl) (by decide) (by decide) (by decide) ?_
    refine ga_icmp_ge (tgt := 184) F dL_walkers_145 (by decide) (fun c11 => ?_) (fun c11 => ?_)
    · have h := if_t c11 h
      exact GA.weak (by exact ⟨rfl, ⟨rfl, ⟨rfl, ⟨rfl, trivial⟩⟩⟩⟩) (hct _ h)
    · have h := if_f c11 h
      refine ga_iload_n F dL_walkers_148 rfl ?_
      refine ga_if_eq (tgt := 176) F dL_walkers_149 (by decide) (fun c12 => ?_) (fun c12 => ?_)
      · have h := if_t c12 h
        refine ga_iconst (v := 0) F dL_walkers_176 (by decide) ?_
        refine ga_istore_n F dL_walkers_177 (by decide) (by decide) ?_
        refine ga_inc (c := 1) F dL_walkers_178 rfl (by decide) (by decide) (by decide) ?_
        refine ga_goto (tgt := 137) F dL_walkers_181 (by decide) ?_
        exact GA.weak (by exact ⟨rfl, ⟨rfl, ⟨rfl, ⟨rfl, ⟨rfl, trivial⟩⟩⟩⟩⟩) (ih _ _ h)
      · have h := if_f c12 h
        refine ga_aload_n F dL_walkers_152 rfl ?_
        refine ga_iload F dL_walkers_153 rfl ?_
        refine ga_call F dL_walkers_155 (ac_turn _) lkL_28 okX8_turn rfl rfl (Nat.le_of_ble_eq_true rfl) (by decide) (by decide) (by decide) ?_
        refine ga_if_lt (tgt := 176) F dL_walkers_158 (by decide) (fun c13 => ?_) (fun c13 => ?_)
        · have h := if_t c13 h
          refine ga_iconst (v := 0) F dL_walkers_176 (by decide) ?_
          refine ga_istore_n F dL_walkers_177 (by decide) (by decide) ?_
          refine ga_inc (c := 1) F dL_walkers_178 rfl (by decide) (by decide) (by decide) ?_
          refine ga_goto (tgt := 137) F dL_walkers_181 (by decide) ?_
          exact GA.weak (by exact ⟨rfl, ⟨rfl, ⟨rfl, ⟨rfl, ⟨rfl, trivial⟩⟩⟩⟩⟩) (ih _ _ h)
        · have h := if_f c13 h
          refine ga_aload_n F dL_walkers_161 rfl ?_
          refine ga_iload F dL_walkers_162 rfl ?_
          refine ga_call F dL_walkers_164 (ac_turn _) lkL_28 okX8_turn rfl rfl (Nat.le_of_ble_eq_true rfl) (by decide) (by decide) (by decide) ?_
          refine ga_bipush (v := 10) F dL_walkers_167 (by decide) ?_
          refine ga_icmp_ge (tgt := 176) F dL_walkers_169 (by decide) (fun c14 => ?_) (fun c14 => ?_)
          · have h := if_t c14 h
            refine ga_iconst (v := 0) F dL_walkers_176 (by decide) ?_
            refine ga_istore_n F dL_walkers_177 (by decide) (by decide) ?_
            refine ga_inc (c := 1) F dL_walkers_178 rfl (by decide) (by decide) (by decide) ?_
            refine ga_goto (tgt := 137) F dL_walkers_181 (by decide) ?_
            exact GA.weak (by exact ⟨rfl, ⟨rfl, ⟨rfl, ⟨rfl, ⟨rfl, trivial⟩⟩⟩⟩⟩) (ih _ _ h)
          · have h := if_f c14 h
            refine ga_iconst (v := 1) F dL_walkers_172 (by decide) ?_
            refine ga_goto (tgt := 177) F dL_walkers_173 (by decide) ?_
            refine ga_istore_n F dL_walkers_177 (by decide) (by decide) ?_
            refine ga_inc (c := 1) F dL_walkers_178 rfl (by decide) (by decide) (by decide) ?_
            refine ga_goto (tgt := 137) F dL_walkers_181 (by decide) ?_
            exact GA.weak (by exact ⟨rfl, ⟨rfl, ⟨rfl, ⟨rfl, ⟨rfl, trivial⟩⟩⟩⟩⟩) (ih _ _ h)
set_option maxRecDepth 100000 in
set_option maxHeartbeats 4000000 in
theorem bL_walkers {X : Cx} {n0 : Nat} {q : II} {Po : PQ} {A : AbS} {r : Int32} (F : Fx X RL cL_walkers 5 5 0 0) (hr : Fr X (some .boolean) Po 0 0) (post : ∀ (n' : Nat) (Ly : LL) (I : II) (P : PP), n' = n0 + 0 → Ac n' Ly I P A → Po (some (.inl r)) n' Ly I P)  (h : hL_walkers A = some r) : GA none X 5 0 0 n0 0 0 [some (.inr (some 0)), none, none, none, none] [] A q := by
  unfold hL_walkers at h
  refine ga_iconst (v := 0) F dL_walkers_0 (by decide) ?_
  refine ga_istore_n F dL_walkers_1 (by decide) (by decide) ?_
  refine ga_iconst (v := 0) F dL_walkers_2 (by decide) ?_
  refine ga_istore_n F dL_walkers_3 (by decide) (by decide) ?_
  refine ga_iconst (v := 0) F dL_walkers_4 (by decide) ?_
  refine ga_istore_n F dL_walkers_5 (by decide) (by decide) ?_
  refine GA.weak (by exact ⟨rfl, ⟨rfl, ⟨rfl, ⟨rfl, trivial⟩⟩⟩⟩) (lL_walkers_L6 F hr post (fun z9 z10 h => ?_) 2000 _ _ _ h)
  refine ga_iconst (v := 1) F dL_walkers_132 (by decide) ?_
  refine ga_istore_n F dL_walkers_133 (by decide) (by decide) ?_
  refine ga_iconst (v := 0) F dL_walkers_134 (by decide) ?_
  refine ga_istore F dL_walkers_135 (by decide) (by decide) ?_
  refine GA.weak (by exact ⟨rfl, ⟨rfl, ⟨rfl, ⟨rfl, ⟨rfl, trivial⟩⟩⟩⟩⟩) (lL_walkers_L137 F hr post (fun z15 h => ?_) 2000 _ _ h)
  refine ga_iload_n F dL_walkers_184 rfl ?_
  refine ga_if_eq (tgt := 285) F dL_walkers_185 (by decide) (fun c16 => ?_) (fun c16 => ?_)
  · have h := if_t c16 h
    refine ga_iconst (v := 0) F dL_walkers_285 (by decide) ?_
    have h := Option.some.inj h
    subst h
    exact ga_iret F rfl hr dL_walkers_286 rfl (by decide) (by decide) (fun Ly I P hA => post _ Ly I P rfl hA)
  · have h := if_f c16 h
    refine ga_aload_n F dL_walkers_188 rfl ?_
    refine ga_iconst (v := 4) F dL_walkers_189 (by decide) ?_
    refine ga_call F dL_walkers_190 (ac_count _) lkL_9 okX8_count rfl rfl (Nat.le_of_ble_eq_true rfl) (by decide) (by decide) (by decide) ?_
    refine ga_iload_n F dL_walkers_193 rfl ?_
    refine ga_icmp_ne (tgt := 285) F dL_walkers_194 (by decide) (fun c17 => ?_) (fun c17 => ?_)
    · have h := if_t c17 h
      refine ga_iconst (v := 0) F dL_walkers_285 (by decide) ?_
      have h := Option.some.inj h
      subst h
      exact ga_iret F rfl hr dL_walkers_286 rfl (by decide) (by decide) (fun Ly I P hA => post _ Ly I P rfl hA)
    · have h := if_f (not_not_intro c17) h
      refine ga_aload_n F dL_walkers_197 rfl ?_
      refine ga_bipush (v := 8) F dL_walkers_198 (by decide) ?_
      refine ga_call F dL_walkers_200 (ac_count _) lkL_9 okX8_count rfl rfl (Nat.le_of_ble_eq_true rfl) (by decide) (by decide) (by decide) ?_
      refine ga_iload_n F dL_walkers_203 rfl ?_
      refine ga_icmp_ne (tgt := 285) F dL_walkers_204 (by decide) (fun c18 => ?_) (fun c18 => ?_)
      · have h := if_t c18 h
        refine ga_iconst (v := 0) F dL_walkers_285 (by decide) ?_
        have h := Option.some.inj h
        subst h
        exact ga_iret F rfl hr dL_walkers_286 rfl (by decide) (by decide) (fun Ly I P hA => post _ Ly I P rfl hA)
      · have h := if_f (not_not_intro c18) h
        refine ga_aload_n F dL_walkers_207 rfl ?_
        refine ga_bipush (v := 9) F dL_walkers_208 (by decide) ?_
        refine ga_call F dL_walkers_210 (ac_count _) lkL_9 okX8_count rfl rfl (Nat.le_of_ble_eq_true rfl) (by decide) (by decide) (by decide) ?_
        refine ga_if_lt (tgt := 285) F dL_walkers_213 (by decide) (fun c19 => ?_) (fun c19 => ?_)
        · have h := if_t c19 h
          refine ga_iconst (v := 0) F dL_walkers_285 (by decide) ?_
          have h := Option.some.inj h
          subst h
          exact ga_iret F rfl hr dL_walkers_286 rfl (by decide) (by decide) (fun Ly I P hA => post _ Ly I P rfl hA)
        · have h := if_f c19 h
          refine ga_aload_n F dL_walkers_216 rfl ?_
          refine ga_bipush (v := 9) F dL_walkers_217 (by decide) ?_
          refine ga_call F dL_walkers_219 (ac_count _) lkL_9 okX8_count rfl rfl (Nat.le_of_ble_eq_true rfl) (by decide) (by decide) (by decide) ?_
          refine ga_aload_n F dL_walkers_222 rfl ?_
          refine ga_bipush (v := 10) F dL_walkers_223 (by decide) ?_
          refine ga_call F dL_walkers_225 (ac_count _) lkL_9 okX8_count rfl rfl (Nat.le_of_ble_eq_true rfl) (by decide) (by decide) (by decide) ?_
          refine ga_icmp_ge (tgt := 285) F dL_walkers_228 (by decide) (fun c20 => ?_) (fun c20 => ?_)
          · have h := if_t c20 h
            refine ga_iconst (v := 0) F dL_walkers_285 (by decide) ?_
            have h := Option.some.inj h
            subst h
            exact ga_iret F rfl hr dL_walkers_286 rfl (by decide) (by decide) (fun Ly I P hA => post _ Ly I P rfl hA)
          · have h := if_f c20 h
            refine ga_aload_n F dL_walkers_231 rfl ?_
            refine ga_aload_n F dL_walkers_232 rfl ?_
            refine ga_bipush (v := 10) F dL_walkers_233 (by decide) ?_
            refine ga_call F dL_walkers_235 (ac_count _) lkL_9 okX8_count rfl rfl (Nat.le_of_ble_eq_true rfl) (by decide) (by decide) (by decide) ?_
            refine ga_call F dL_walkers_238 (ac_turn _) lkL_28 okX8_turn rfl rfl (Nat.le_of_ble_eq_true rfl) (by decide) (by decide) (by decide) ?_
            refine ga_bipush (v := (-5)) F dL_walkers_241 (by decide) ?_
            refine ga_icmp_ne (tgt := 285) F dL_walkers_243 (by decide) (fun c21 => ?_) (fun c21 => ?_)
            · have h := if_t c21 h
              refine ga_iconst (v := 0) F dL_walkers_285 (by decide) ?_
              have h := Option.some.inj h
              subst h
              exact ga_iret F rfl hr dL_walkers_286 rfl (by decide) (by decide) (fun Ly I P hA => post _ Ly I P rfl hA)
            · have h := if_f (not_not_intro c21) h
              refine ga_aload_n F dL_walkers_246 rfl ?_
              refine ga_iconst (v := (-1)) F dL_walkers_247 (by decide) ?_
              refine ga_call F dL_walkers_248 (ac_turn _) lkL_28 okX8_turn rfl rfl (Nat.le_of_ble_eq_true rfl) (by decide) (by decide) (by decide) ?_
              refine ga_bipush (v := (-2)) F dL_walkers_251 (by decide) ?_
              refine ga_icmp_ne (tgt := 285) F dL_walkers_253 (by decide) (fun c22 => ?_) (fun c22 => ?_)
              · have h := if_t c22 h
                refine ga_iconst (v := 0) F dL_walkers_285 (by decide) ?_
                have h := Option.some.inj h
                subst h
                exact ga_iret F rfl hr dL_walkers_286 rfl (by decide) (by decide) (fun Ly I P hA => post _ Ly I P rfl hA)
              · have h := if_f (not_not_intro c22) h
                refine ga_aload_n F dL_walkers_256 rfl ?_
                refine ga_aload_n F dL_walkers_257 rfl ?_
                refine ga_iconst (v := 2) F dL_walkers_258 (by decide) ?_
                refine ga_call F dL_walkers_259 (ac_count _) lkL_9 okX8_count rfl rfl (Nat.le_of_ble_eq_true rfl) (by decide) (by decide) (by decide) ?_
                refine ga_iconst (v := 0) F dL_walkers_262 (by decide) ?_
                refine ga_call F dL_walkers_263 (ac_walker _ _) lkL_25 okX8_walker rfl rfl (Nat.le_of_ble_eq_true rfl) (by decide) (by decide) (by decide) ?_
                refine ga_iconst (v := (-1)) F dL_walkers_266 (by decide) ?_
                refine ga_icmp_ne (tgt := 285) F dL_walkers_267 (by decide) (fun c23 => ?_) (fun c23 => ?_)
                · have h := if_t c23 h
                  refine ga_iconst (v := 0) F dL_walkers_285 (by decide) ?_
                  have h := Option.some.inj h
                  subst h
                  exact ga_iret F rfl hr dL_walkers_286 rfl (by decide) (by decide) (fun Ly I P hA => post _ Ly I P rfl hA)
                · have h := if_f (not_not_intro c23) h
                  refine ga_aload_n F dL_walkers_270 rfl ?_
                  refine ga_bipush (v := 13) F dL_walkers_271 (by decide) ?_
                  refine ga_call F dL_walkers_273 (ac_count _) lkL_9 okX8_count rfl rfl (Nat.le_of_ble_eq_true rfl) (by decide) (by decide) (by decide) ?_
                  refine ga_bipush (v := (-2)) F dL_walkers_276 (by decide) ?_
                  refine ga_icmp_ne (tgt := 285) F dL_walkers_278 (by decide) (fun c24 => ?_) (fun c24 => ?_)
                  · have h := if_t c24 h
                    refine ga_iconst (v := 0) F dL_walkers_285 (by decide) ?_
                    have h := Option.some.inj h
                    subst h
                    exact ga_iret F rfl hr dL_walkers_286 rfl (by decide) (by decide) (fun Ly I P hA => post _ Ly I P rfl hA)
                  · have h := if_f (not_not_intro c24) h
                    refine ga_iconst (v := 1) F dL_walkers_281 (by decide) ?_
                    refine ga_goto (tgt := 286) F dL_walkers_282 (by decide) ?_
                    have h := Option.some.inj h
                    subst h
                    exact ga_iret F rfl hr dL_walkers_286 rfl (by decide) (by decide) (fun Ly I P hA => post _ Ly I P rfl hA)
set_option maxRecDepth 100000 in
set_option maxHeartbeats 4000000 in
theorem al_walkers {A : AbS} {r : Int32}  (h : hL_walkers A = some r) : AL mL_walkers [.inr (some 0)] 0 0 A r A   := al_of (by decide +kernel) (Nat.le_of_ble_eq_true rfl) (by decide) (fun X n q Po F hr post => bL_walkers F hr post h)
-- steps
noncomputable def hL_steps_L84 : Nat → (Int32 → Option (Int32 × AbS)) → Int32 → Int32 → Int32 → Int32 → AbS → Int32 → Option (Int32 × AbS)
  | 0, _, _, _, _, _, _, _ => none
  | k + 1, ct, x1, x3, x4, x5, A, x6 => (hL_wall A x4 x5 x6).bind fun v5 => (if v5 = 0 then ct x6 else hL_steps_L84 k ct x1 x3 x4 x5 A (rm (x6 + 1) 4))
noncomputable def hL_steps_J395 (A : AbS) (x10 : Int32) (x12 : Int32) (x14 : Int32) (s0 : Int32) (s1 : Int32) (s2 : Int32) : Option (Int32 × AbS) := (if ¬ s0 = (s1 + s2) then some (0, A) else (if x14 ≤ x10 then (if ¬ (qCount A 7) = (x12 + 0) then some (0, A) else some (1, A)) else (if ¬ (qCount A 7) = (x12 + (x14 - x10)) then some (0, A) else some (1, A))))
noncomputable def hL_steps_J364 (A : AbS) (x10 : Int32) (x11 : Int32) (x12 : Int32) (x14 : Int32) (s0 : Int32) : Option (Int32 × AbS) := (if s0 = 0 then some (0, A) else (if x10 ≤ x14 then hL_steps_J395 A x10 x12 x14 (qCount A 6) x11 0 else hL_steps_J395 A x10 x12 x14 (qCount A 6) x11 (x10 - x14)))
noncomputable def hL_steps_J363 (A : AbS) (x10 : Int32) (x11 : Int32) (x12 : Int32) (x14 : Int32) : Option (Int32 × AbS) := hL_steps_J364 A x10 x11 x12 x14 0
noncomputable def hL_steps_J212 (A : AbS) (x1 : Int32) (x3 : Int32) (x4 : Int32) (x5 : Int32) (x6 : Int32) (x7 : Int32) (x8 : Int32) (s0 : Int32) (s1 : Int32) (s2 : Int32) (s3 : Int32) (s4 : Int32) : Option (Int32 × AbS) := (hL_act A s0 s1 s2 s3 s4).bind fun v13 => (some (aWalk A x1 1)).bind fun v14 => (if v14.1 = (x8 + v13) then (if ¬ (qWalker v14.2 x1 0) = x4 then hL_steps_J363 v14.2 (qCount A 5) (qCount A 6) (qCount A 7) (qCount v14.2 5) else (if ¬ (qWalker v14.2 x1 1) = x5 then hL_steps_J363 v14.2 (qCount A 5) (qCount A 6) (qCount A 7) (qCount v14.2 5) else (if ¬ (qWalker v14.2 x1 2) = x6 then hL_steps_J363 v14.2 (qCount A 5) (qCount A 6) (qCount A 7) (qCount v14.2 5) else (if ¬ (qWalker v14.2 x1 3) = (x8 + v13) then hL_steps_J363 v14.2 (qCount A 5) (qCount A 6) (qCount A 7) (qCount v14.2 5) else (if ¬ (qChips v14.2 x4 x5) = (x7 - v13) then hL_steps_J363 v14.2 (qCount A 5) (qCount A 6) (qCount A 7) (qCount v14.2 5) else (if ¬ (qWalker v14.2 x1 6) = ((qWalker A x1 6) + 1) then hL_steps_J363 v14.2 (qCount A 5) (qCount A 6) (qCount A 7) (qCount v14.2 5) else (if ¬ (qCount v14.2 9) = x3 then hL_steps_J363 v14.2 (qCount A 5) (qCount A 6) (qCount A 7) (qCount v14.2 5) else hL_steps_J364 v14.2 (qCount A 5) (qCount A 6) (qCount A 7) (qCount v14.2 5) 1))))))) else some (0, v14.2))
noncomputable def hL_steps_J156 (A : AbS) (x1 : Int32) (x3 : Int32) (x4 : Int32) (x6 : Int32) (s0 : Int32) (s1 : Int32) : Option (Int32 × AbS) := (if ¬ (qHeapOf A x4 (s0 + s1)) = 0 then hL_steps_J212 A x1 x3 x4 (s0 + s1) x6 (qChips A x4 (s0 + s1)) (qWalker A x1 3) (qWalker A x1 5) (qWalker A x1 3) (qChips A x4 (s0 + s1)) ((qWalker A x1 4) - (qWalker A x1 3)) 0 else hL_steps_J212 A x1 x3 x4 (s0 + s1) x6 (qChips A x4 (s0 + s1)) (qWalker A x1 3) (qWalker A x1 5) (qWalker A x1 3) (qChips A x4 (s0 + s1)) ((qWalker A x1 4) - (qWalker A x1 3)) 1)
noncomputable def hL_steps_J130 (A : AbS) (x1 : Int32) (x3 : Int32) (x5 : Int32) (x6 : Int32) (s0 : Int32) (s1 : Int32) : Option (Int32 × AbS) := (if ¬ x6 = 1 then (if ¬ x6 = 3 then hL_steps_J156 A x1 x3 (s0 + s1) x6 x5 0 else hL_steps_J156 A x1 x3 (s0 + s1) x6 x5 (-1)) else hL_steps_J156 A x1 x3 (s0 + s1) x6 x5 1)
noncomputable def hL_steps (A : AbS) (x1 : Int32) : Option (Int32 × AbS) := ck (nz (qCount A 10)) ((if ¬ (qTurn A (qCount A 9)) = 9 then (if (qTurn A (qCount A 9)) ≤ 6 then (if (qTurn A (qCount A 9)) ≤ 4 then hL_steps_L84 2000 (fun z7 => (if ¬ z7 = 2 then (if ¬ z7 = 0 then hL_steps_J130 A x1 (rm ((qCount A 9) + 1) (qCount A 10)) (qWalker A x1 1) z7 (qWalker A x1 0) 0 else hL_steps_J130 A x1 (rm ((qCount A 9) + 1) (qCount A 10)) (qWalker A x1 1) z7 (qWalker A x1 0) (-1)) else hL_steps_J130 A x1 (rm ((qCount A 9) + 1) (qCount A 10)) (qWalker A x1 1) z7 (qWalker A x1 0) 1)) x1 (rm ((qCount A 9) + 1) (qCount A 10)) (qWalker A x1 0) (qWalker A x1 1) A (rm ((qWalker A x1 2) + 0) 4) else hL_steps_L84 2000 (fun z29 => (if ¬ z29 = 2 then (if ¬ z29 = 0 then hL_steps_J130 A x1 (rm ((qCount A 9) + 1) (qCount A 10)) (qWalker A x1 1) z29 (qWalker A x1 0) 0 else hL_steps_J130 A x1 (rm ((qCount A 9) + 1) (qCount A 10)) (qWalker A x1 1) z29 (qWalker A x1 0) (-1)) else hL_steps_J130 A x1 (rm ((qCount A 9) + 1) (qCount A 10)) (qWalker A x1 1) z29 (qWalker A x1 0) 1)) x1 (rm ((qCount A 9) + 1) (qCount A 10)) (qWalker A x1 0) (qWalker A x1 1) A (rm ((qWalker A x1 2) + 1) 4)) else hL_steps_L84 2000 (fun z32 => (if ¬ z32 = 2 then (if ¬ z32 = 0 then hL_steps_J130 A x1 (rm ((qCount A 9) + 1) (qCount A 10)) (qWalker A x1 1) z32 (qWalker A x1 0) 0 else hL_steps_J130 A x1 (rm ((qCount A 9) + 1) (qCount A 10)) (qWalker A x1 1) z32 (qWalker A x1 0) (-1)) else hL_steps_J130 A x1 (rm ((qCount A 9) + 1) (qCount A 10)) (qWalker A x1 1) z32 (qWalker A x1 0) 1)) x1 (rm ((qCount A 9) + 1) (qCount A 10)) (qWalker A x1 0) (qWalker A x1 1) A (rm ((qWalker A x1 2) + 3) 4)) else hL_steps_L84 2000 (fun z35 => (if ¬ z35 = 2 then (if ¬ z35 = 0 then hL_steps_J130 A x1 (rm ((qCount A 9) + 1) (qCount A 10)) (qWalker A x1 1) z35 (qWalker A x1 0) 0 else hL_steps_J130 A x1 (rm ((qCount A 9) + 1) (qCount A 10)) (qWalker A x1 1) z35 (qWalker A x1 0) (-1)) else hL_steps_J130 A x1 (rm ((qCount A 9) + 1) (qCount A 10)) (qWalker A x1 1) z35 (qWalker A x1 0) 1)) x1 (rm ((qCount A 9) + 1) (qCount A 10)) (qWalker A x1 0) (qWalker A x1 1) A (rm ((qWalker A x1 2) + 2) 4)))
set_option maxRecDepth 100000 in
set_option maxHeartbeats 4000000 in
theorem lL_steps_L84 {X : Cx} {n0 : Nat} {q : II} {Po : PQ} {r : Int32 × AbS} (F : Fx X RL cL_steps 16 7 0 0) (hr : Fr X (some .boolean) Po 0 0) (post : ∀ (n' : Nat) (Ly : LL) (I : II) (P : PP), n' = n0 + 0 → Ac n' Ly I P r.2 → Po (some (.inl r.1)) n' Ly I P) {x1 : Int32} {x3 : Int32} {x4 : Int32} {x5 : Int32} {A : AbS} {ct : Int32 → Option (Int32 × AbS)} (hct : ∀ (x6 : Int32), ct x6 = some r → GA none X 16 0 0 n0 0 108 [some (.inr (some 0)), some (.inl x1), none, some (.inl x3), some (.inl x4), some (.inl x5), some (.inl x6), none, none, none, none, none, none, none, none, none] [] A q) : ∀ (k : Nat) (x6 : Int32), hL_steps_L84 k ct x1 x3 x4 x5 A x6 = some r → GA none X 16 0 0 n0 0 84 [some (.inr (some 0)), some (.inl x1), none, some (.inl x3), some (.inl x4), some (.inl x5), some (.inl x6), none, none, none, none, none, none, none, none, none] [] A q := by
  intro k
  induction k with
  | zero =>
    intro x6 h
    cases h
  | succ k ih =>
    intro x6 h
    rw [hL_steps_L84] at h
    refine ga_aload_n F dL_steps_84 rfl ?_
    refine ga_iload F dL_steps_85 rfl ?_
    refine ga_iload F dL_steps_87 rfl ?_
    refine ga_iload F dL_steps_89 rfl ?_
    obtain ⟨v5, hv5, h⟩ := bd_i h
    refine ga_callL0 F dL_steps_91 (al_wall hv5) lkL_31 okL_wall rfl (Nat.le_of_ble_eq_true rfl) (by decide) (by decide) (by decide) ?_
    refine ga_if_eq (tgt := 108) F dL_steps_94 (by decide) (fun c6 => ?_) (fun c6 => ?_)
    · have h := if_t c6 h
      exact GA.weak (by exact ⟨rfl, ⟨rfl, ⟨rfl, ⟨rfl, ⟨rfl, ⟨rfl, trivial⟩⟩⟩⟩⟩⟩) (hct _ h)
    · have h := if_f c6 h
      refine ga_iload F dL_steps_97 rfl ?_
      refine ga_iconst (v := 1) F dL_steps_99 (by decide) ?_
      refine ga_iadd F dL_steps_100 ?_
      refine ga_iconst (v := 4) F dL_steps_101 (by decide) ?_
      refine ga_rem F dL_steps_102 (by decide) ?_
      refine ga_istore F dL_steps_103 (by decide) (by decide) ?_
      refine ga_goto (tgt := 84) F dL_steps_105 (by decide) ?_
      exact GA.weak (by exact ⟨rfl, ⟨rfl, ⟨rfl, ⟨rfl, ⟨rfl, ⟨rfl, trivial⟩⟩⟩⟩⟩⟩) (ih _ h)
set_option maxRecDepth 100000 in
set_option maxHeartbeats 4000000 in
theorem lL_steps_J395 {X : Cx} {n0 : Nat} {q : II} {Po : PQ} {r : Int32 × AbS} (F : Fx X RL cL_steps 16 7 0 0) (hr : Fr X (some .boolean) Po 0 0) (post : ∀ (n' : Nat) (Ly : LL) (I : II) (P : PP), n' = n0 + 0 → Ac n' Ly I P r.2 → Po (some (.inl r.1)) n' Ly I P) {A : AbS} {x10 : Int32} {x12 : Int32} {x14 : Int32} {s0 : Int32} {s1 : Int32} {s2 : Int32} (h : hL_steps_J395 A x10 x12 x14 s0 s1 s2 = some r) : GA none X 16 0 0 n0 0 395 [some (.inr (some 0)), none, none, none, none, none, none, none, none, none, some (.inl x10), none, some (.inl x12), none, some (.inl x14), none] [.inl s2, .inl s1, .inl s0] A q := by
  unfold hL_steps_J395 at h
  refine ga_iadd F dL_steps_395 ?_
  refine ga_icmp_ne (tgt := 431) F dL_steps_396 (by decide) (fun c19 => ?_) (fun c19 => ?_)
  · have h := if_t c19 h
    refine ga_iconst (v := 0) F dL_steps_431 (by decide) ?_
    have h := Option.some.inj h
    subst h
    exact ga_iret F rfl hr dL_steps_432 rfl (by decide) (by decide) (fun Ly I P hA => post _ Ly I P rfl hA)
  · have h := if_f (not_not_intro c19) h
    refine ga_aload_n F dL_steps_399 rfl ?_
    refine ga_bipush (v := 7) F dL_steps_400 (by decide) ?_
    refine ga_call F dL_steps_402 (ac_count _) lkL_9 okX8_count rfl rfl (Nat.le_of_ble_eq_true rfl) (by decide) (by decide) (by decide) ?_
    refine ga_iload F dL_steps_405 rfl ?_
    refine ga_iload F dL_steps_407 rfl ?_
    refine ga_iload F dL_steps_409 rfl ?_
    refine ga_icmp_le (tgt := 422) F dL_steps_411 (by decide) (fun c20 => ?_) (fun c20 => ?_)
    · have h := if_t c20 h
      refine ga_iconst (v := 0) F dL_steps_422 (by decide) ?_
      refine ga_iadd F dL_steps_423 ?_
      refine ga_icmp_ne (tgt := 431) F dL_steps_424 (by decide) (fun c21 => ?_) (fun c21 => ?_)
      · have h := if_t c21 h
        refine ga_iconst (v := 0) F dL_steps_431 (by decide) ?_
        have h := Option.some.inj h
        subst h
        exact ga_iret F rfl hr dL_steps_432 rfl (by decide) (by decide) (fun Ly I P hA => post _ Ly I P rfl hA)
      · have h := if_f (not_not_intro c21) h
        refine ga_iconst (v := 1) F dL_steps_427 (by decide) ?_
        refine ga_goto (tgt := 432) F dL_steps_428 (by decide) ?_
        have h := Option.some.inj h
        subst h
        exact ga_iret F rfl hr dL_steps_432 rfl (by decide) (by decide) (fun Ly I P hA => post _ Ly I P rfl hA)
    · have h := if_f c20 h
      refine ga_iload F dL_steps_414 rfl ?_
      refine ga_iload F dL_steps_416 rfl ?_
      refine ga_isub F dL_steps_418 ?_
      refine ga_goto (tgt := 423) F dL_steps_419 (by decide) ?_
      refine ga_iadd F dL_steps_423 ?_
      refine ga_icmp_ne (tgt := 431) F dL_steps_424 (by decide) (fun c22 => ?_) (fun c22 => ?_)
      · have h := if_t c22 h
        refine ga_iconst (v := 0) F dL_steps_431 (by decide) ?_
        have h := Option.some.inj h
        subst h
        exact ga_iret F rfl hr dL_steps_432 rfl (by decide) (by decide) (fun Ly I P hA => post _ Ly I P rfl hA)
      · have h := if_f (not_not_intro c22) h
        refine ga_iconst (v := 1) F dL_steps_427 (by decide) ?_
        refine ga_goto (tgt := 432) F dL_steps_428 (by decide) ?_
        have h := Option.some.inj h
        subst h
        exact ga_iret F rfl hr dL_steps_432 rfl (by decide) (by decide) (fun Ly I P hA => post _ Ly I P rfl hA)
set_option maxRecDepth 100000 in
set_option maxHeartbeats 4000000 in
theorem lL_steps_J364 {X : Cx} {n0 : Nat} {q : II} {Po : PQ} {r : Int32 × AbS} (F : Fx X RL cL_steps 16 7 0 0) (hr : Fr X (some .boolean) Po 0 0) (post : ∀ (n' : Nat) (Ly : LL) (I : II) (P : PP), n' = n0 + 0 → Ac n' Ly I P r.2 → Po (some (.inl r.1)) n' Ly I P) {A : AbS} {x10 : Int32} {x11 : Int32} {x12 : Int32} {x14 : Int32} {s0 : Int32} (h : hL_steps_J364 A x10 x11 x12 x14 s0 = some r) : GA none X 16 0 0 n0 0 364 [some (.inr (some 0)), none, none, none, none, none, none, none, none, none, some (.inl x10), some (.inl x11), some (.inl x12), none, some (.inl x14), none] [.inl s0] A q := by
  unfold hL_steps_J364 at h
  refine ga_istore F dL_steps_364 (by decide) (by decide) ?_
  refine ga_iload F dL_steps_366 rfl ?_
  refine ga_if_eq (tgt := 431) F dL_steps_368 (by decide) (fun c17 => ?_) (fun c17 => ?_)
  · have h := if_t c17 h
    refine ga_iconst (v := 0) F dL_steps_431 (by decide) ?_
    have h := Option.some.inj h
    subst h
    exact ga_iret F rfl hr dL_steps_432 rfl (by decide) (by decide) (fun Ly I P hA => post _ Ly I P rfl hA)
  · have h := if_f c17 h
    refine ga_aload_n F dL_steps_371 rfl ?_
    refine ga_bipush (v := 6) F dL_steps_372 (by decide) ?_
    refine ga_call F dL_steps_374 (ac_count _) lkL_9 okX8_count rfl rfl (Nat.le_of_ble_eq_true rfl) (by decide) (by decide) (by decide) ?_
    refine ga_iload F dL_steps_377 rfl ?_
    refine ga_iload F dL_steps_379 rfl ?_
    refine ga_iload F dL_steps_381 rfl ?_
    refine ga_icmp_ge (tgt := 394) F dL_steps_383 (by decide) (fun c18 => ?_) (fun c18 => ?_)
    · have h := if_t c18 h
      refine ga_iconst (v := 0) F dL_steps_394 (by decide) ?_
      exact GA.weak (by exact ⟨rfl, ⟨rfl, ⟨rfl, ⟨rfl, trivial⟩⟩⟩⟩) (lL_steps_J395 F hr post h)
    · have h := if_f c18 h
      refine ga_iload F dL_steps_386 rfl ?_
      refine ga_iload F dL_steps_388 rfl ?_
      refine ga_isub F dL_steps_390 ?_
      refine ga_goto (tgt := 395) F dL_steps_391 (by decide) ?_
      exact GA.weak (by exact ⟨rfl, ⟨rfl, ⟨rfl, ⟨rfl, trivial⟩⟩⟩⟩) (lL_steps_J395 F hr post h)
set_option maxRecDepth 100000 in
set_option maxHeartbeats 4000000 in
theorem lL_steps_J363 {X : Cx} {n0 : Nat} {q : II} {Po : PQ} {r : Int32 × AbS} (F : Fx X RL cL_steps 16 7 0 0) (hr : Fr X (some .boolean) Po 0 0) (post : ∀ (n' : Nat) (Ly : LL) (I : II) (P : PP), n' = n0 + 0 → Ac n' Ly I P r.2 → Po (some (.inl r.1)) n' Ly I P) {A : AbS} {x10 : Int32} {x11 : Int32} {x12 : Int32} {x14 : Int32} (h : hL_steps_J363 A x10 x11 x12 x14 = some r) : GA none X 16 0 0 n0 0 363 [some (.inr (some 0)), none, none, none, none, none, none, none, none, none, some (.inl x10), some (.inl x11), some (.inl x12), none, some (.inl x14), none] [] A q := by
  unfold hL_steps_J363 at h
  refine ga_iconst (v := 0) F dL_steps_363 (by decide) ?_
  exact GA.weak (by exact ⟨rfl, ⟨rfl, ⟨rfl, ⟨rfl, ⟨rfl, trivial⟩⟩⟩⟩⟩) (lL_steps_J364 F hr post h)
set_option maxRecDepth 100000 in
set_option maxHeartbeats 4000000 in
theorem lL_steps_J212 {X : Cx} {n0 : Nat} {q : II} {Po : PQ} {r : Int32 × AbS} (F : Fx X RL cL_steps 16 7 0 0) (hr : Fr X (some .boolean) Po 0 0) (post : ∀ (n' : Nat) (Ly : LL) (I : II) (P : PP), n' = n0 + 0 → Ac n' Ly I P r.2 → Po (some (.inl r.1)) n' Ly I P) {A : AbS} {x1 : Int32} {x3 : Int32} {x4 : Int32} {x5 : Int32} {x6 : Int32} {x7 : Int32} {x8 : Int32} {s0 : Int32} {s1 : Int32} {s2 : Int32} {s3 : Int32} {s4 : Int32} (h : hL_steps_J212 A x1 x3 x4 x5 x6 x7 x8 s0 s1 s2 s3 s4 = some r) : GA none X 16 0 0 n0 0 212 [some (.inr (some 0)), some (.inl x1), none, some (.inl x3), some (.inl x4), some (.inl x5), some (.inl x6), some (.inl x7), some (.inl x8), none, none, none, none, none, none, none] [.inl s4, .inl s3, .inl s2, .inl s1, .inl s0] A q := by
  unfold hL_steps_J212 at h
  obtain ⟨v13, hv13, h⟩ := bd_i h
  refine ga_callL0 F dL_steps_212 (al_act hv13) lkL_37 okL_act rfl (Nat.le_of_ble_eq_true rfl) (by decide) (by decide) (by decide) ?_
  refine ga_istore F dL_steps_215 (by decide) (by decide) ?_
  refine ga_aload_n F dL_steps_217 rfl ?_
  refine ga_iconst (v := 5) F dL_steps_218 (by decide) ?_
  refine ga_call F dL_steps_219 (ac_count _) lkL_9 okX8_count rfl rfl (Nat.le_of_ble_eq_true rfl) (by decide) (by decide) (by decide) ?_
  refine ga_istore F dL_steps_222 (by decide) (by decide) ?_
  refine ga_aload_n F dL_steps_224 rfl ?_
  refine ga_bipush (v := 6) F dL_steps_225 (by decide) ?_
  refine ga_call F dL_steps_227 (ac_count _) lkL_9 okX8_count rfl rfl (Nat.le_of_ble_eq_true rfl) (by decide) (by decide) (by decide) ?_
  refine ga_istore F dL_steps_230 (by decide) (by decide) ?_
  refine ga_aload_n F dL_steps_232 rfl ?_
  refine ga_bipush (v := 7) F dL_steps_233 (by decide) ?_
  refine ga_call F dL_steps_235 (ac_count _) lkL_9 okX8_count rfl rfl (Nat.le_of_ble_eq_true rfl) (by decide) (by decide) (by decide) ?_
  refine ga_istore F dL_steps_238 (by decide) (by decide) ?_
  refine ga_aload_n F dL_steps_240 rfl ?_
  refine ga_iload_n F dL_steps_241 rfl ?_
  refine ga_bipush (v := 6) F dL_steps_242 (by decide) ?_
  refine ga_call F dL_steps_244 (ac_walker _ _) lkL_25 okX8_walker rfl rfl (Nat.le_of_ble_eq_true rfl) (by decide) (by decide) (by decide) ?_
  refine ga_istore F dL_steps_247 (by decide) (by decide) ?_
  refine ga_aload_n F dL_steps_249 rfl ?_
  refine ga_iload_n F dL_steps_250 rfl ?_
  refine ga_iconst (v := 1) F dL_steps_251 (by decide) ?_
  have h := bd_s h
  refine ga_call F dL_steps_252 (ac_walk _ _) lkL_41 okX8_walk rfl rfl (Nat.le_of_ble_eq_true rfl) (by decide) (by decide) (by decide) ?_
  refine ga_iload F dL_steps_255 rfl ?_
  refine ga_iload F dL_steps_257 rfl ?_
  refine ga_iadd F dL_steps_259 ?_
  refine ga_icmp_eq (tgt := 265) F dL_steps_260 (by decide) (fun c15 => ?_) (fun c15 => ?_)
  · have h := if_t c15 h
    refine ga_aload_n F dL_steps_265 rfl ?_
    refine ga_iconst (v := 5) F dL_steps_266 (by decide) ?_
    refine ga_call F dL_steps_267 (ac_count _) lkL_9 okX8_count rfl rfl (Nat.le_of_ble_eq_true rfl) (by decide) (by decide) (by decide) ?_
    refine ga_istore F dL_steps_270 (by decide) (by decide) ?_
    refine ga_aload_n F dL_steps_272 rfl ?_
    refine ga_iload_n F dL_steps_273 rfl ?_
    refine ga_iconst (v := 0) F dL_steps_274 (by decide) ?_
    refine ga_call F dL_steps_275 (ac_walker _ _) lkL_25 okX8_walker rfl rfl (Nat.le_of_ble_eq_true rfl) (by decide) (by decide) (by decide) ?_
    refine ga_iload F dL_steps_278 rfl ?_
    refine ga_icmp_ne (tgt := 363) F dL_steps_280 (by decide) (fun c16 => ?_) (fun c16 => ?_)
    · have h := if_t c16 h
      exact GA.weak (by exact ⟨rfl, ⟨rfl, ⟨rfl, ⟨rfl, ⟨rfl, trivial⟩⟩⟩⟩⟩) (lL_steps_J363 F hr post h)
    · have h := if_f (not_not_intro c16) h
      refine ga_aload_n F dL_steps_283 rfl ?_
      refine ga_iload_n F dL_steps_284 rfl ?_
      refine ga_iconst (v := 1) F dL_steps_285 (by decide) ?_
      refine ga_call F dL_steps_286 (ac_walker _ _) lkL_25 okX8_walker rfl rfl (Nat.le_of_ble_eq_true rfl) (by decide) (by decide) (by decide) ?_
      refine ga_iload F dL_steps_289 rfl ?_
      refine ga_icmp_ne (tgt := 363) F dL_steps_291 (by decide) (fun c23 => ?_) (fun c23 => ?_)
      · have h := if_t c23 h
        exact GA.weak (by exact ⟨rfl, ⟨rfl, ⟨rfl, ⟨rfl, ⟨rfl, trivial⟩⟩⟩⟩⟩) (lL_steps_J363 F hr post h)
      · have h := if_f (not_not_intro c23) h
        refine ga_aload_n F dL_steps_294 rfl ?_
        refine ga_iload_n F dL_steps_295 rfl ?_
        refine ga_iconst (v := 2) F dL_steps_296 (by decide) ?_
        refine ga_call F dL_steps_297 (ac_walker _ _) lkL_25 okX8_walker rfl rfl (Nat.le_of_ble_eq_true rfl) (by decide) (by decide) (by decide) ?_
        refine ga_iload F dL_steps_300 rfl ?_
        refine ga_icmp_ne (tgt := 363) F dL_steps_302 (by decide) (fun c24 => ?_) (fun c24 => ?_)
        · have h := if_t c24 h
          exact GA.weak (by exact ⟨rfl, ⟨rfl, ⟨rfl, ⟨rfl, ⟨rfl, trivial⟩⟩⟩⟩⟩) (lL_steps_J363 F hr post h)
        · have h := if_f (not_not_intro c24) h
          refine ga_aload_n F dL_steps_305 rfl ?_
          refine ga_iload_n F dL_steps_306 rfl ?_
          refine ga_iconst (v := 3) F dL_steps_307 (by decide) ?_
          refine ga_call F dL_steps_308 (ac_walker _ _) lkL_25 okX8_walker rfl rfl (Nat.le_of_ble_eq_true rfl) (by decide) (by decide) (by decide) ?_
          refine ga_iload F dL_steps_311 rfl ?_
          refine ga_iload F dL_steps_313 rfl ?_
          refine ga_iadd F dL_steps_315 ?_
          refine ga_icmp_ne (tgt := 363) F dL_steps_316 (by decide) (fun c25 => ?_) (fun c25 => ?_)
          · have h := if_t c25 h
            exact GA.weak (by exact ⟨rfl, ⟨rfl, ⟨rfl, ⟨rfl, ⟨rfl, trivial⟩⟩⟩⟩⟩) (lL_steps_J363 F hr post h)
          · have h := if_f (not_not_intro c25) h
            refine ga_aload_n F dL_steps_319 rfl ?_
            refine ga_iload F dL_steps_320 rfl ?_
            refine ga_iload F dL_steps_322 rfl ?_
            refine ga_call F dL_steps_324 (ac_chips _ _) lkL_15 okX8_chips rfl rfl (Nat.le_of_ble_eq_true rfl) (by decide) (by decide) (by decide) ?_
            refine ga_iload F dL_steps_327 rfl ?_
            refine ga_iload F dL_steps_329 rfl ?_
            refine ga_isub F dL_steps_331 ?_
            refine ga_icmp_ne (tgt := 363) F dL_steps_332 (by decide) (fun c26 => ?_) (fun c26 => ?_)
            · have h := if_t c26 h
              exact GA.weak (by exact ⟨rfl, ⟨rfl, ⟨rfl, ⟨rfl, ⟨rfl, trivial⟩⟩⟩⟩⟩) (lL_steps_J363 F hr post h)
            · have h := if_f (not_not_intro c26) h
              refine ga_aload_n F dL_steps_335 rfl ?_
              refine ga_iload_n F dL_steps_336 rfl ?_
              refine ga_bipush (v := 6) F dL_steps_337 (by decide) ?_
              refine ga_call F dL_steps_339 (ac_walker _ _) lkL_25 okX8_walker rfl rfl (Nat.le_of_ble_eq_true rfl) (by decide) (by decide) (by decide) ?_
              refine ga_iload F dL_steps_342 rfl ?_
              refine ga_iconst (v := 1) F dL_steps_344 (by decide) ?_
              refine ga_iadd F dL_steps_345 ?_
              refine ga_icmp_ne (tgt := 363) F dL_steps_346 (by decide) (fun c27 => ?_) (fun c27 => ?_)
              · have h := if_t c27 h
                exact GA.weak (by exact ⟨rfl, ⟨rfl, ⟨rfl, ⟨rfl, ⟨rfl, trivial⟩⟩⟩⟩⟩) (lL_steps_J363 F hr post h)
              · have h := if_f (not_not_intro c27) h
                refine ga_aload_n F dL_steps_349 rfl ?_
                refine ga_bipush (v := 9) F dL_steps_350 (by decide) ?_
                refine ga_call F dL_steps_352 (ac_count _) lkL_9 okX8_count rfl rfl (Nat.le_of_ble_eq_true rfl) (by decide) (by decide) (by decide) ?_
                refine ga_iload_n F dL_steps_355 rfl ?_
                refine ga_icmp_ne (tgt := 363) F dL_steps_356 (by decide) (fun c28 => ?_) (fun c28 => ?_)
                · have h := if_t c28 h
                  exact GA.weak (by exact ⟨rfl, ⟨rfl, ⟨rfl, ⟨rfl, ⟨rfl, trivial⟩⟩⟩⟩⟩) (lL_steps_J363 F hr post h)
                · have h := if_f (not_not_intro c28) h
                  refine ga_iconst (v := 1) F dL_steps_359 (by decide) ?_
                  refine ga_goto (tgt := 364) F dL_steps_360 (by decide) ?_
                  exact GA.weak (by exact ⟨rfl, ⟨rfl, ⟨rfl, ⟨rfl, ⟨rfl, trivial⟩⟩⟩⟩⟩) (lL_steps_J364 F hr post h)
  · have h := if_f c15 h
    refine ga_iconst (v := 0) F dL_steps_263 (by decide) ?_
    have h := Option.some.inj h
    subst h
    exact ga_iret F rfl hr dL_steps_264 rfl (by decide) (by decide) (fun Ly I P hA => post _ Ly I P rfl hA)
set_option maxRecDepth 100000 in
set_option maxHeartbeats 4000000 in
theorem lL_steps_J156 {X : Cx} {n0 : Nat} {q : II} {Po : PQ} {r : Int32 × AbS} (F : Fx X RL cL_steps 16 7 0 0) (hr : Fr X (some .boolean) Po 0 0) (post : ∀ (n' : Nat) (Ly : LL) (I : II) (P : PP), n' = n0 + 0 → Ac n' Ly I P r.2 → Po (some (.inl r.1)) n' Ly I P) {A : AbS} {x1 : Int32} {x3 : Int32} {x4 : Int32} {x6 : Int32} {s0 : Int32} {s1 : Int32} (h : hL_steps_J156 A x1 x3 x4 x6 s0 s1 = some r) : GA none X 16 0 0 n0 0 156 [some (.inr (some 0)), some (.inl x1), none, some (.inl x3), some (.inl x4), none, some (.inl x6), none, none, none, none, none, none, none, none, none] [.inl s1, .inl s0] A q := by
  unfold hL_steps_J156 at h
  refine ga_iadd F dL_steps_156 ?_
  refine ga_istore F dL_steps_157 (by decide) (by decide) ?_
  refine ga_aload_n F dL_steps_159 rfl ?_
  refine ga_iload F dL_steps_160 rfl ?_
  refine ga_iload F dL_steps_162 rfl ?_
  refine ga_call F dL_steps_164 (ac_chips _ _) lkL_15 okX8_chips rfl rfl (Nat.le_of_ble_eq_true rfl) (by decide) (by decide) (by decide) ?_
  refine ga_istore F dL_steps_167 (by decide) (by decide) ?_
  refine ga_aload_n F dL_steps_169 rfl ?_
  refine ga_iload_n F dL_steps_170 rfl ?_
  refine ga_iconst (v := 3) F dL_steps_171 (by decide) ?_
  refine ga_call F dL_steps_172 (ac_walker _ _) lkL_25 okX8_walker rfl rfl (Nat.le_of_ble_eq_true rfl) (by decide) (by decide) (by decide) ?_
  refine ga_istore F dL_steps_175 (by decide) (by decide) ?_
  refine ga_aload_n F dL_steps_177 rfl ?_
  refine ga_iload_n F dL_steps_178 rfl ?_
  refine ga_iconst (v := 5) F dL_steps_179 (by decide) ?_
  refine ga_call F dL_steps_180 (ac_walker _ _) lkL_25 okX8_walker rfl rfl (Nat.le_of_ble_eq_true rfl) (by decide) (by decide) (by decide) ?_
  refine ga_iload F dL_steps_183 rfl ?_
  refine ga_iload F dL_steps_185 rfl ?_
  refine ga_aload_n F dL_steps_187 rfl ?_
  refine ga_iload_n F dL_steps_188 rfl ?_
  refine ga_iconst (v := 4) F dL_steps_189 (by decide) ?_
  refine ga_call F dL_steps_190 (ac_walker _ _) lkL_25 okX8_walker rfl rfl (Nat.le_of_ble_eq_true rfl) (by decide) (by decide) (by decide) ?_
  refine ga_iload F dL_steps_193 rfl ?_
  refine ga_isub F dL_steps_195 ?_
  refine ga_aload_n F dL_steps_196 rfl ?_
  refine ga_iload F dL_steps_197 rfl ?_
  refine ga_iload F dL_steps_199 rfl ?_
  refine ga_call F dL_steps_201 (ac_heapOf _ _) lkL_19 okX8_heapOf rfl rfl (Nat.le_of_ble_eq_true rfl) (by decide) (by decide) (by decide) ?_
  refine ga_if_ne (tgt := 211) F dL_steps_204 (by decide) (fun c12 => ?_) (fun c12 => ?_)
  · have h := if_t c12 h
    refine ga_iconst (v := 0) F dL_steps_211 (by decide) ?_
    exact GA.weak (by exact ⟨rfl, ⟨rfl, ⟨rfl, ⟨rfl, ⟨rfl, ⟨rfl, ⟨rfl, ⟨rfl, trivial⟩⟩⟩⟩⟩⟩⟩⟩) (lL_steps_J212 F hr post h)
  · have h := if_f (not_not_intro c12) h
    refine ga_iconst (v := 1) F dL_steps_207 (by decide) ?_
    refine ga_goto (tgt := 212) F dL_steps_208 (by decide) ?_
    exact GA.weak (by exact ⟨rfl, ⟨rfl, ⟨rfl, ⟨rfl, ⟨rfl, ⟨rfl, ⟨rfl, ⟨rfl, trivial⟩⟩⟩⟩⟩⟩⟩⟩) (lL_steps_J212 F hr post h)
set_option maxRecDepth 100000 in
set_option maxHeartbeats 4000000 in
theorem lL_steps_J130 {X : Cx} {n0 : Nat} {q : II} {Po : PQ} {r : Int32 × AbS} (F : Fx X RL cL_steps 16 7 0 0) (hr : Fr X (some .boolean) Po 0 0) (post : ∀ (n' : Nat) (Ly : LL) (I : II) (P : PP), n' = n0 + 0 → Ac n' Ly I P r.2 → Po (some (.inl r.1)) n' Ly I P) {A : AbS} {x1 : Int32} {x3 : Int32} {x5 : Int32} {x6 : Int32} {s0 : Int32} {s1 : Int32} (h : hL_steps_J130 A x1 x3 x5 x6 s0 s1 = some r) : GA none X 16 0 0 n0 0 130 [some (.inr (some 0)), some (.inl x1), none, some (.inl x3), none, some (.inl x5), some (.inl x6), none, none, none, none, none, none, none, none, none] [.inl s1, .inl s0] A q := by
  unfold hL_steps_J130 at h
  refine ga_iadd F dL_steps_130 ?_
  refine ga_istore F dL_steps_131 (by decide) (by decide) ?_
  refine ga_iload F dL_steps_133 rfl ?_
  refine ga_iload F dL_steps_135 rfl ?_
  refine ga_iconst (v := 1) F dL_steps_137 (by decide) ?_
  refine ga_icmp_ne (tgt := 145) F dL_steps_138 (by decide) (fun c10 => ?_) (fun c10 => ?_)
  · have h := if_t c10 h
    refine ga_iload F dL_steps_145 rfl ?_
    refine ga_iconst (v := 3) F dL_steps_147 (by decide) ?_
    refine ga_icmp_ne (tgt := 155) F dL_steps_148 (by decide) (fun c11 => ?_) (fun c11 => ?_)
    · have h := if_t c11 h
      refine ga_iconst (v := 0) F dL_steps_155 (by decide) ?_
      exact GA.weak (by exact ⟨rfl, ⟨rfl, ⟨rfl, ⟨rfl, ⟨rfl, trivial⟩⟩⟩⟩⟩) (lL_steps_J156 F hr post h)
    · have h := if_f (not_not_intro c11) h
      refine ga_iconst (v := (-1)) F dL_steps_151 (by decide) ?_
      refine ga_goto (tgt := 156) F dL_steps_152 (by decide) ?_
      exact GA.weak (by exact ⟨rfl, ⟨rfl, ⟨rfl, ⟨rfl, ⟨rfl, trivial⟩⟩⟩⟩⟩) (lL_steps_J156 F hr post h)
  · have h := if_f (not_not_intro c10) h
    refine ga_iconst (v := 1) F dL_steps_141 (by decide) ?_
    refine ga_goto (tgt := 156) F dL_steps_142 (by decide) ?_
    exact GA.weak (by exact ⟨rfl, ⟨rfl, ⟨rfl, ⟨rfl, ⟨rfl, trivial⟩⟩⟩⟩⟩) (lL_steps_J156 F hr post h)
set_option maxRecDepth 100000 in
set_option maxHeartbeats 4000000 in
theorem bL_steps {X : Cx} {n0 : Nat} {q : II} {Po : PQ} {r : Int32 × AbS} (F : Fx X RL cL_steps 16 7 0 0) (hr : Fr X (some .boolean) Po 0 0) (post : ∀ (n' : Nat) (Ly : LL) (I : II) (P : PP), n' = n0 + 0 → Ac n' Ly I P r.2 → Po (some (.inl r.1)) n' Ly I P) {A : AbS} {x1 : Int32} (h : hL_steps A x1 = some r) : GA none X 16 0 0 n0 0 0 [some (.inr (some 0)), some (.inl x1), none, none, none, none, none, none, none, none, none, none, none, none, none, none] [] A q := by
  unfold hL_steps at h
  refine ga_aload_n F dL_steps_0 rfl ?_
  refine ga_aload_n F dL_steps_1 rfl ?_
  refine ga_bipush (v := 9) F dL_steps_2 (by decide) ?_
  refine ga_call F dL_steps_4 (ac_count _) lkL_9 okX8_count rfl rfl (Nat.le_of_ble_eq_true rfl) (by decide) (by decide) (by decide) ?_
  refine ga_call F dL_steps_7 (ac_turn _) lkL_28 okX8_turn rfl rfl (Nat.le_of_ble_eq_true rfl) (by decide) (by decide) (by decide) ?_
  refine ga_istore_n F dL_steps_10 (by decide) (by decide) ?_
  refine ga_aload_n F dL_steps_11 rfl ?_
  refine ga_bipush (v := 9) F dL_steps_12 (by decide) ?_
  refine ga_call F dL_steps_14 (ac_count _) lkL_9 okX8_count rfl rfl (Nat.le_of_ble_eq_true rfl) (by decide) (by decide) (by decide) ?_
  refine ga_iconst (v := 1) F dL_steps_17 (by decide) ?_
  refine ga_iadd F dL_steps_18 ?_
  refine ga_aload_n F dL_steps_19 rfl ?_
  refine ga_bipush (v := 10) F dL_steps_20 (by decide) ?_
  refine ga_call F dL_steps_22 (ac_count _) lkL_9 okX8_count rfl rfl (Nat.le_of_ble_eq_true rfl) (by decide) (by decide) (by decide) ?_
  obtain ⟨hy1, h⟩ := ck_s h
  refine ga_rem F dL_steps_25 (nz_s hy1) ?_
  refine ga_istore_n F dL_steps_26 (by decide) (by decide) ?_
  refine ga_aload_n F dL_steps_27 rfl ?_
  refine ga_iload_n F dL_steps_28 rfl ?_
  refine ga_iconst (v := 0) F dL_steps_29 (by decide) ?_
  refine ga_call F dL_steps_30 (ac_walker _ _) lkL_25 okX8_walker rfl rfl (Nat.le_of_ble_eq_true rfl) (by decide) (by decide) (by decide) ?_
  refine ga_istore F dL_steps_33 (by decide) (by decide) ?_
  refine ga_aload_n F dL_steps_35 rfl ?_
  refine ga_iload_n F dL_steps_36 rfl ?_
  refine ga_iconst (v := 1) F dL_steps_37 (by decide) ?_
  refine ga_call F dL_steps_38 (ac_walker _ _) lkL_25 okX8_walker rfl rfl (Nat.le_of_ble_eq_true rfl) (by decide) (by decide) (by decide) ?_
  refine ga_istore F dL_steps_41 (by decide) (by decide) ?_
  refine ga_aload_n F dL_steps_43 rfl ?_
  refine ga_iload_n F dL_steps_44 rfl ?_
  refine ga_iconst (v := 2) F dL_steps_45 (by decide) ?_
  refine ga_call F dL_steps_46 (ac_walker _ _) lkL_25 okX8_walker rfl rfl (Nat.le_of_ble_eq_true rfl) (by decide) (by decide) (by decide) ?_
  refine ga_iload_n F dL_steps_49 rfl ?_
  refine ga_bipush (v := 9) F dL_steps_50 (by decide) ?_
  refine ga_icmp_ne (tgt := 59) F dL_steps_52 (by decide) (fun c2 => ?_) (fun c2 => ?_)
  · have h := if_t c2 h
    refine ga_iload_n F dL_steps_59 rfl ?_
    refine ga_bipush (v := 6) F dL_steps_60 (by decide) ?_
    refine ga_icmp_le (tgt := 69) F dL_steps_62 (by decide) (fun c3 => ?_) (fun c3 => ?_)
    · have h := if_t c3 h
      refine ga_iload_n F dL_steps_69 rfl ?_
      refine ga_iconst (v := 4) F dL_steps_70 (by decide) ?_
      refine ga_icmp_le (tgt := 78) F dL_steps_71 (by decide) (fun c4 => ?_) (fun c4 => ?_)
      · have h := if_t c4 h
        refine ga_iconst (v := 0) F dL_steps_78 (by decide) ?_
        refine ga_iadd F dL_steps_79 ?_
        refine ga_iconst (v := 4) F dL_steps_80 (by decide) ?_
        refine ga_rem F dL_steps_81 (by decide) ?_
        refine ga_istore F dL_steps_82 (by decide) (by decide) ?_
        refine GA.weak (by exact ⟨rfl, ⟨rfl, ⟨rfl, ⟨rfl, ⟨rfl, ⟨rfl, trivial⟩⟩⟩⟩⟩⟩) (lL_steps_L84 F hr post (fun z7 h => ?_) 2000 _ h)
        refine ga_iload F dL_steps_108 rfl ?_
        refine ga_iload F dL_steps_110 rfl ?_
        refine ga_iconst (v := 2) F dL_steps_112 (by decide) ?_
        refine ga_icmp_ne (tgt := 120) F dL_steps_113 (by decide) (fun c8 => ?_) (fun c8 => ?_)
        · have h := if_t c8 h
          refine ga_iload F dL_steps_120 rfl ?_
          refine ga_if_ne (tgt := 129) F dL_steps_122 (by decide) (fun c9 => ?_) (fun c9 => ?_)
          · have h := if_t c9 h
            refine ga_iconst (v := 0) F dL_steps_129 (by decide) ?_
            exact GA.weak (by exact ⟨rfl, ⟨rfl, ⟨rfl, ⟨rfl, ⟨rfl, trivial⟩⟩⟩⟩⟩) (lL_steps_J130 F hr post h)
          · have h := if_f (not_not_intro c9) h
            refine ga_iconst (v := (-1)) F dL_steps_125 (by decide) ?_
            refine ga_goto (tgt := 130) F dL_steps_126 (by decide) ?_
            exact GA.weak (by exact ⟨rfl, ⟨rfl, ⟨rfl, ⟨rfl, ⟨rfl, trivial⟩⟩⟩⟩⟩) (lL_steps_J130 F hr post h)
        · have h := if_f (not_not_intro c8) h
          refine ga_iconst (v := 1) F dL_steps_116 (by decide) ?_
          refine ga_goto (tgt := 130) F dL_steps_117 (by decide) ?_
          exact GA.weak (by exact ⟨rfl, ⟨rfl, ⟨rfl, ⟨rfl, ⟨rfl, trivial⟩⟩⟩⟩⟩) (lL_steps_J130 F hr post h)
      · have h := if_f c4 h
        refine ga_iconst (v := 1) F dL_steps_74 (by decide) ?_
        refine ga_goto (tgt := 79) F dL_steps_75 (by decide) ?_
        refine ga_iadd F dL_steps_79 ?_
        refine ga_iconst (v := 4) F dL_steps_80 (by decide) ?_
        refine ga_rem F dL_steps_81 (by decide) ?_
        refine ga_istore F dL_steps_82 (by decide) (by decide) ?_
        refine GA.weak (by exact ⟨rfl, ⟨rfl, ⟨rfl, ⟨rfl, ⟨rfl, ⟨rfl, trivial⟩⟩⟩⟩⟩⟩) (lL_steps_L84 F hr post (fun z29 h => ?_) 2000 _ h)
        refine ga_iload F dL_steps_108 rfl ?_
        refine ga_iload F dL_steps_110 rfl ?_
        refine ga_iconst (v := 2) F dL_steps_112 (by decide) ?_
        refine ga_icmp_ne (tgt := 120) F dL_steps_113 (by decide) (fun c30 => ?_) (fun c30 => ?_)
        · have h := if_t c30 h
          refine ga_iload F dL_steps_120 rfl ?_
          refine ga_if_ne (tgt := 129) F dL_steps_122 (by decide) (fun c31 => ?_) (fun c31 => ?_)
          · have h := if_t c31 h
            refine ga_iconst (v := 0) F dL_steps_129 (by decide) ?_
            exact GA.weak (by exact ⟨rfl, ⟨rfl, ⟨rfl, ⟨rfl, ⟨rfl, trivial⟩⟩⟩⟩⟩) (lL_steps_J130 F hr post h)
          · have h := if_f (not_not_intro c31) h
            refine ga_iconst (v := (-1)) F dL_steps_125 (by decide) ?_
            refine ga_goto (tgt := 130) F dL_steps_126 (by decide) ?_
            exact GA.weak (by exact ⟨rfl, ⟨rfl, ⟨rfl, ⟨rfl, ⟨rfl, trivial⟩⟩⟩⟩⟩) (lL_steps_J130 F hr post h)
        · have h := if_f (not_not_intro c30) h
          refine ga_iconst (v := 1) F dL_steps_116 (by decide) ?_
          refine ga_goto (tgt := 130) F dL_steps_117 (by decide) ?_
          exact GA.weak (by exact ⟨rfl, ⟨rfl, ⟨rfl, ⟨rfl, ⟨rfl, trivial⟩⟩⟩⟩⟩) (lL_steps_J130 F hr post h)
    · have h := if_f c3 h
      refine ga_iconst (v := 3) F dL_steps_65 (by decide) ?_
      refine ga_goto (tgt := 79) F dL_steps_66 (by decide) ?_
      refine ga_iadd F dL_steps_79 ?_
      refine ga_iconst (v := 4) F dL_steps_80 (by decide) ?_
      refine ga_rem F dL_steps_81 (by decide) ?_
      refine ga_istore F dL_steps_82 (by decide) (by decide) ?_
      refine GA.weak (by exact ⟨rfl, ⟨rfl, ⟨rfl, ⟨rfl, ⟨rfl, ⟨rfl, trivial⟩⟩⟩⟩⟩⟩) (lL_steps_L84 F hr post (fun z32 h => ?_) 2000 _ h)
      refine ga_iload F dL_steps_108 rfl ?_
      refine ga_iload F dL_steps_110 rfl ?_
      refine ga_iconst (v := 2) F dL_steps_112 (by decide) ?_
      refine ga_icmp_ne (tgt := 120) F dL_steps_113 (by decide) (fun c33 => ?_) (fun c33 => ?_)
      · have h := if_t c33 h
        refine ga_iload F dL_steps_120 rfl ?_
        refine ga_if_ne (tgt := 129) F dL_steps_122 (by decide) (fun c34 => ?_) (fun c34 => ?_)
        · have h := if_t c34 h
          refine ga_iconst (v := 0) F dL_steps_129 (by decide) ?_
          exact GA.weak (by exact ⟨rfl, ⟨rfl, ⟨rfl, ⟨rfl, ⟨rfl, trivial⟩⟩⟩⟩⟩) (lL_steps_J130 F hr post h)
        · have h := if_f (not_not_intro c34) h
          refine ga_iconst (v := (-1)) F dL_steps_125 (by decide) ?_
          refine ga_goto (tgt := 130) F dL_steps_126 (by decide) ?_
          exact GA.weak (by exact ⟨rfl, ⟨rfl, ⟨rfl, ⟨rfl, ⟨rfl, trivial⟩⟩⟩⟩⟩) (lL_steps_J130 F hr post h)
      · have h := if_f (not_not_intro c33) h
        refine ga_iconst (v := 1) F dL_steps_116 (by decide) ?_
        refine ga_goto (tgt := 130) F dL_steps_117 (by decide) ?_
        exact GA.weak (by exact ⟨rfl, ⟨rfl, ⟨rfl, ⟨rfl, ⟨rfl, trivial⟩⟩⟩⟩⟩) (lL_steps_J130 F hr post h)
  · have h := if_f (not_not_intro c2) h
    refine ga_iconst (v := 2) F dL_steps_55 (by decide) ?_
    refine ga_goto (tgt := 79) F dL_steps_56 (by decide) ?_
    refine ga_iadd F dL_steps_79 ?_
    refine ga_iconst (v := 4) F dL_steps_80 (by decide) ?_
    refine ga_rem F dL_steps_81 (by decide) ?_
    refine ga_istore F dL_steps_82 (by decide) (by decide) ?_
    refine GA.weak (by exact ⟨rfl, ⟨rfl, ⟨rfl, ⟨rfl, ⟨rfl, ⟨rfl, trivial⟩⟩⟩⟩⟩⟩) (lL_steps_L84 F hr post (fun z35 h => ?_) 2000 _ h)
    refine ga_iload F dL_steps_108 rfl ?_
    refine ga_iload F dL_steps_110 rfl ?_
    refine ga_iconst (v := 2) F dL_steps_112 (by decide) ?_
    refine ga_icmp_ne (tgt := 120) F dL_steps_113 (by decide) (fun c36 => ?_) (fun c36 => ?_)
    · have h := if_t c36 h
      refine ga_iload F dL_steps_120 rfl ?_
      refine ga_if_ne (tgt := 129) F dL_steps_122 (by decide) (fun c37 => ?_) (fun c37 => ?_)
      · have h := if_t c37 h
        refine ga_iconst (v := 0) F dL_steps_129 (by decide) ?_
        exact GA.weak (by exact ⟨rfl, ⟨rfl, ⟨rfl, ⟨rfl, ⟨rfl, trivial⟩⟩⟩⟩⟩) (lL_steps_J130 F hr post h)
      · have h := if_f (not_not_intro c37) h
        refine ga_iconst (v := (-1)) F dL_steps_125 (by decide) ?_
        refine ga_goto (tgt := 130) F dL_steps_126 (by decide) ?_
        exact GA.weak (by exact ⟨rfl, ⟨rfl, ⟨rfl, ⟨rfl, ⟨rfl, trivial⟩⟩⟩⟩⟩) (lL_steps_J130 F hr post h)
    · have h := if_f (not_not_intro c36) h
      refine ga_iconst (v := 1) F dL_steps_116 (by decide) ?_
      refine ga_goto (tgt := 130) F dL_steps_117 (by decide) ?_
      exact GA.weak (by exact ⟨rfl, ⟨rfl, ⟨rfl, ⟨rfl, ⟨rfl, trivial⟩⟩⟩⟩⟩) (lL_steps_J130 F hr post h)
set_option maxRecDepth 100000 in
set_option maxHeartbeats 4000000 in
theorem al_steps {A : AbS} {r : Int32 × AbS} {x1 : Int32} (h : hL_steps A x1 = some r) : AL mL_steps [.inr (some 0), .inl x1] 0 0 A r.1 r.2   := al_of (by decide +kernel) (Nat.le_of_ble_eq_true rfl) (by decide) (fun X n q Po F hr post => bL_steps F hr post h)
-- plans
noncomputable def hL_plans_J700 (A : AbS) (x6 : Int32) (s0 : Int32) : Option (Int32 × AbS) := (some (aType A 48)).bind fun v60 => (if s0 = 0 then some (0, v60.2) else (some (aRun v60.2)).bind fun v62 => (if ¬ v62.1 = (((-100) - x6) - 1) then some (0, v62.2) else some (1, v62.2)))
noncomputable def hL_plans_J699 (A : AbS) (x6 : Int32) : Option (Int32 × AbS) := hL_plans_J700 A x6 0
noncomputable def hL_plans_J662 (A : AbS) (x6 : Int32) (x14 : Int32) (s0 : Int32) (s1 : Int32) : Option (Int32 × AbS) := (if s0 = s1 then (some (aType A 48)).bind fun v58 => (if 6 ≤ x14 then hL_plans_J699 v58.2 x6 else (some (aRun v58.2)).bind fun v64 => (if v64.1 < 0 then hL_plans_J699 v64.2 x6 else (some (aUndo v64.2)).bind fun v66 => (if v66.1 < 0 then hL_plans_J699 v66.2 x6 else hL_plans_J700 v66.2 x6 1))) else some (0, A))
noncomputable def hL_plans_J628 (A : AbS) (x4 : Int32) (x6 : Int32) (x13 : Int32) (x14 : Int32) (x18 : Int32) (x19 : Int32) (x20 : Int32) (s0 : Int32) (s1 : Int32) (s2 : Int32) : Option (Int32 × AbS) := (if ¬ s0 = (s1 + s2) then some (0, A) else (if ¬ (qCount A 9) = x19 then some (0, A) else (if x18 ≤ 0 then hL_plans_J662 A x6 x14 (qWalker A x4 2) x20 else hL_plans_J662 A x6 x14 (qWalker A x4 2) x13)))
noncomputable def hL_plans_J591 (A : AbS) (x4 : Int32) (x6 : Int32) (x13 : Int32) (x14 : Int32) (x16 : Int32) (x18 : Int32) (x19 : Int32) (x20 : Int32) (s0 : Int32) (s1 : Int32) (s2 : Int32) : Option (Int32 × AbS) := (if ¬ s0 = (s1 + s2) then some (0, A) else (if ¬ x13 = 1 then (if ¬ x13 = 3 then hL_plans_J628 A x4 x6 x13 x14 x18 x19 x20 (qWalker A x4 1) x16 0 else hL_plans_J628 A x4 x6 x13 x14 x18 x19 x20 (qWalker A x4 1) x16 (-x18)) else hL_plans_J628 A x4 x6 x13 x14 x18 x19 x20 (qWalker A x4 1) x16 x18))
noncomputable def hL_plans_J531 (A : AbS) (x4 : Int32) (x6 : Int32) (x13 : Int32) (x14 : Int32) (x15 : Int32) (x16 : Int32) (s0 : Int32) : Option (Int32 × AbS) := (some (aRun A)).bind fun v47 => (if ¬ v47.1 = s0 then some (0, v47.2) else (if ¬ x13 = 2 then (if ¬ x13 = 0 then hL_plans_J591 v47.2 x4 x6 x13 x14 x16 s0 (qCount A 9) (qWalker A x4 2) (qWalker v47.2 x4 0) x15 0 else hL_plans_J591 v47.2 x4 x6 x13 x14 x16 s0 (qCount A 9) (qWalker A x4 2) (qWalker v47.2 x4 0) x15 (-s0)) else hL_plans_J591 v47.2 x4 x6 x13 x14 x16 s0 (qCount A 9) (qWalker A x4 2) (qWalker v47.2 x4 0) x15 s0))
noncomputable def hL_plans_J515 (A : AbS) (x4 : Int32) (x6 : Int32) (x13 : Int32) (x14 : Int32) (x15 : Int32) (x16 : Int32) (s0 : Int32) : Option (Int32 × AbS) := (if s0 ≤ x14 then hL_plans_J531 A x4 x6 x13 x14 x15 x16 s0 else hL_plans_J531 A x4 x6 x13 x14 x15 x16 x14)
noncomputable def hL_plans_J413 (A : AbS) (x2 : Int32) (x4 : Int32) (x13 : Int32) (s1 : Int32) : Option (Int32 × AbS) := ck (bC s1) ((some (aType A s1)).bind fun v38 => (hL_low v38.2 (x2 >>> (7 &&& 31)) 4).bind fun v39 => ck (bC (c16 (49 + v39))) ((some (aType v38.2 (c16 (49 + v39)))).bind fun v41 => (hL_low v41.2 (x2 >>> (7 &&& 31)) 4).bind fun v42 => (if ¬ x13 = 0 then (if ¬ x13 = 1 then (if ¬ x13 = 2 then hL_plans_J515 v41.2 x4 v41.1 x13 (1 + v42) (qWalker v41.2 x4 0) (qWalker v41.2 x4 1) (qWalker v41.2 x4 1) else hL_plans_J515 v41.2 x4 v41.1 x13 (1 + v42) (qWalker v41.2 x4 0) (qWalker v41.2 x4 1) (((qCount v41.2 0) - 1) - (qWalker v41.2 x4 0))) else hL_plans_J515 v41.2 x4 v41.1 x13 (1 + v42) (qWalker v41.2 x4 0) (qWalker v41.2 x4 1) (((qCount v41.2 1) - 1) - (qWalker v41.2 x4 1))) else hL_plans_J515 v41.2 x4 v41.1 x13 (1 + v42) (qWalker v41.2 x4 0) (qWalker v41.2 x4 1) (qWalker v41.2 x4 0))))
noncomputable def hL_plans_J250 (A : AbS) (x2 : Int32) (x4 : Int32) (x5 : Int32) (x6 : Int32) (x8 : Int32) (x9 : Int32) (s0 : Int32) : Option (Int32 × AbS) := (if x5 = 0 then some (0, A) else (if ¬ x6 = 3 then some (0, A) else (some (aRun A)).bind fun v24 => (if ¬ v24.1 = 0 then some (0, v24.2) else (if ¬ (qWalker v24.2 x4 3) = (x8 + s0) then some (0, v24.2) else (if ¬ (qChips v24.2 (qWalker v24.2 x4 0) (qWalker v24.2 x4 1)) = (x9 - s0) then some (0, v24.2) else (if ((qCount v24.2 6) + (qCount v24.2 7)) = ((qCount A 6) + (qCount A 7)) then (some (aClearText v24.2)).bind fun v29 => (some (aType v29.2 35)).bind fun v30 => ck (bC (c16 (48 + x4))) ((some (aType v30.2 (c16 (48 + x4)))).bind fun v32 => (hL_low v32.2 (x2 >>> (5 &&& 31)) 4).bind fun v33 => (if ¬ v33 = 0 then (if ¬ v33 = 1 then (if ¬ v33 = 2 then hL_plans_J413 v32.2 x2 x4 v33 119 else hL_plans_J413 v32.2 x2 x4 v33 115) else hL_plans_J413 v32.2 x2 x4 v33 101) else hL_plans_J413 v32.2 x2 x4 v33 110)) else some (0, v24.2)))))))
noncomputable def hL_plans_J216 (A : AbS) (x2 : Int32) (x4 : Int32) (x5 : Int32) (x6 : Int32) (x8 : Int32) (x9 : Int32) (x10 : Int32) (s0 : Int32) : Option (Int32 × AbS) := (if s0 ≤ x10 then (if (x9 - 99) ≤ s0 then hL_plans_J250 A x2 x4 x5 x6 x8 x9 s0 else hL_plans_J250 A x2 x4 x5 x6 x8 x9 (x9 - 99)) else hL_plans_J250 A x2 x4 x5 x6 x8 x9 x10)
noncomputable def hL_plans_J215 (A : AbS) (x2 : Int32) (x4 : Int32) (x5 : Int32) (x6 : Int32) (x8 : Int32) (x9 : Int32) (x10 : Int32) (s0 : Int32) : Option (Int32 × AbS) := hL_plans_J216 A x2 x4 x5 x6 x8 x9 x10 (-s0)
noncomputable def hL_plans_J109 (A : AbS) (x2 : Int32) (x4 : Int32) (x5 : Int32) (s1 : Int32) : Option (Int32 × AbS) := ck (bC s1) ((some (aType A s1)).bind fun v14 => (hL_low v14.2 (x2 >>> (1 &&& 31)) 9).bind fun v15 => ck (bC (c16 (48 + (1 + v15)))) ((some (aType v14.2 (c16 (48 + (1 + v15))))).bind fun v17 => (if ¬ (x2 &&& 1) = 0 then (if (qWalker v17.2 x4 3) ≤ (1 + v15) then hL_plans_J215 v17.2 x2 x4 x5 v14.1 (qWalker v17.2 x4 3) (qChips v17.2 (qWalker v17.2 x4 0) (qWalker v17.2 x4 1)) ((qWalker v17.2 x4 4) - (qWalker v17.2 x4 3)) (qWalker v17.2 x4 3) else hL_plans_J215 v17.2 x2 x4 x5 v14.1 (qWalker v17.2 x4 3) (qChips v17.2 (qWalker v17.2 x4 0) (qWalker v17.2 x4 1)) ((qWalker v17.2 x4 4) - (qWalker v17.2 x4 3)) (1 + v15)) else (if (qChips v17.2 (qWalker v17.2 x4 0) (qWalker v17.2 x4 1)) ≤ (1 + v15) then hL_plans_J216 v17.2 x2 x4 x5 v14.1 (qWalker v17.2 x4 3) (qChips v17.2 (qWalker v17.2 x4 0) (qWalker v17.2 x4 1)) ((qWalker v17.2 x4 4) - (qWalker v17.2 x4 3)) (qChips v17.2 (qWalker v17.2 x4 0) (qWalker v17.2 x4 1)) else hL_plans_J216 v17.2 x2 x4 x5 v14.1 (qWalker v17.2 x4 3) (qChips v17.2 (qWalker v17.2 x4 0) (qWalker v17.2 x4 1)) ((qWalker v17.2 x4 4) - (qWalker v17.2 x4 3)) (1 + v15)))))
noncomputable def hL_plans_J58 (A : AbS) (x2 : Int32) (x3 : Int32) (x4 : Int32) (s0 : Int32) : Option (Int32 × AbS) := ck (bC (c16 (48 + x4))) ((some (aType A (c16 (48 + x4)))).bind fun v10 => (if ¬ x3 = 0 then (if ¬ (x2 &&& 1) = 0 then hL_plans_J109 v10.2 x2 x4 s0 100 else hL_plans_J109 v10.2 x2 x4 s0 103) else (if s0 = 0 then some (0, v10.2) else (some (aRun v10.2)).bind fun v70 => (if ¬ v70.1 = (-101) then some (0, v70.2) else some (1, v70.2)))))
noncomputable def hL_plans_J35 (A : AbS) (x2 : Int32) (x3 : Int32) (s0 : Int32) : Option (Int32 × AbS) := (some (aType A 35)).bind fun v6 => (some (aRun v6.2)).bind fun v7 => (if ¬ v7.1 = (-101) then hL_plans_J58 v7.2 x2 x3 s0 0 else hL_plans_J58 v7.2 x2 x3 s0 1)
noncomputable def hL_plans (A : AbS) (x1 : Int32) (x2 : Int32) : Option (Int32 × AbS) := (some (aClearText A)).bind fun v1 => (some (aRun v1.2)).bind fun v2 => (if v2.1 = (-100) then (if ¬ (qCount v1.2 2) = 0 then (hL_low v2.2 x1 (qCount v1.2 2)).bind fun v5 => hL_plans_J35 v2.2 x2 (qCount v1.2 2) v5 else hL_plans_J35 v2.2 x2 (qCount v1.2 2) 0) else some (0, v2.2))
set_option maxRecDepth 100000 in
set_option maxHeartbeats 4000000 in
theorem lL_plans_J700 {X : Cx} {n0 : Nat} {q : II} {Po : PQ} {r : Int32 × AbS} (F : Fx X RL cL_plans 22 8 0 0) (hr : Fr X (some .boolean) Po 0 0) (post : ∀ (n' : Nat) (Ly : LL) (I : II) (P : PP), n' = n0 + 0 → Ac n' Ly I P r.2 → Po (some (.inl r.1)) n' Ly I P) {A : AbS} {x6 : Int32} {s0 : Int32} (h : hL_plans_J700 A x6 s0 = some r) : GA none X 22 0 0 n0 0 700 [some (.inr (some 0)), none, none, none, none, none, some (.inl x6), none, none, none, none, none, none, none, none, none, none, none, none, none, none, none] [.inl s0] A q := by
  unfold hL_plans_J700 at h
  refine ga_istore F dL_plans_700 (by decide) (by decide) ?_
  refine ga_aload_n F dL_plans_702 rfl ?_
  refine ga_bipush (v := 48) F dL_plans_703 (by decide) ?_
  have h := bd_s h
  refine ga_call F dL_plans_705 (ac_type _ (by decide +kernel)) lkL_54 okX8_type rfl rfl (Nat.le_of_ble_eq_true rfl) (by decide) (by decide) (by decide) ?_
  refine ga_pop F dL_plans_708 ?_
  refine ga_iload F dL_plans_709 rfl ?_
  refine ga_if_eq (tgt := 732) F dL_plans_711 (by decide) (fun c61 => ?_) (fun c61 => ?_)
  · have h := if_t c61 h
    refine ga_iconst (v := 0) F dL_plans_732 (by decide) ?_
    have h := Option.some.inj h
    subst h
    exact ga_iret F rfl hr dL_plans_733 rfl (by decide) (by decide) (fun Ly I P hA => post _ Ly I P rfl hA)
  · have h := if_f c61 h
    refine ga_aload_n F dL_plans_714 rfl ?_
    have h := bd_s h
    refine ga_call F dL_plans_715 (ac_run) lkL_48 okX8_run rfl rfl (Nat.le_of_ble_eq_true rfl) (by decide) (by decide) (by decide) ?_
    refine ga_bipush (v := (-100)) F dL_plans_718 (by decide) ?_
    refine ga_iload F dL_plans_720 rfl ?_
    refine ga_isub F dL_plans_722 ?_
    refine ga_iconst (v := 1) F dL_plans_723 (by decide) ?_
    refine ga_isub F dL_plans_724 ?_
    refine ga_icmp_ne (tgt := 732) F dL_plans_725 (by decide) (fun c63 => ?_) (fun c63 => ?_)
    · have h := if_t c63 h
      refine ga_iconst (v := 0) F dL_plans_732 (by decide) ?_
      have h := Option.some.inj h
      subst h
      exact ga_iret F rfl hr dL_plans_733 rfl (by decide) (by decide) (fun Ly I P hA => post _ Ly I P rfl hA)
    · have h := if_f (not_not_intro c63) h
      refine ga_iconst (v := 1) F dL_plans_728 (by decide) ?_
      refine ga_goto (tgt := 733) F dL_plans_729 (by decide) ?_
      have h := Option.some.inj h
      subst h
      exact ga_iret F rfl hr dL_plans_733 rfl (by decide) (by decide) (fun Ly I P hA => post _ Ly I P rfl hA)
set_option maxRecDepth 100000 in
set_option maxHeartbeats 4000000 in
theorem lL_plans_J699 {X : Cx} {n0 : Nat} {q : II} {Po : PQ} {r : Int32 × AbS} (F : Fx X RL cL_plans 22 8 0 0) (hr : Fr X (some .boolean) Po 0 0) (post : ∀ (n' : Nat) (Ly : LL) (I : II) (P : PP), n' = n0 + 0 → Ac n' Ly I P r.2 → Po (some (.inl r.1)) n' Ly I P) {A : AbS} {x6 : Int32} (h : hL_plans_J699 A x6 = some r) : GA none X 22 0 0 n0 0 699 [some (.inr (some 0)), none, none, none, none, none, some (.inl x6), none, none, none, none, none, none, none, none, none, none, none, none, none, none, none] [] A q := by
  unfold hL_plans_J699 at h
  refine ga_iconst (v := 0) F dL_plans_699 (by decide) ?_
  exact GA.weak (by exact ⟨rfl, ⟨rfl, trivial⟩⟩) (lL_plans_J700 F hr post h)
set_option maxRecDepth 100000 in
set_option maxHeartbeats 4000000 in
theorem lL_plans_J662 {X : Cx} {n0 : Nat} {q : II} {Po : PQ} {r : Int32 × AbS} (F : Fx X RL cL_plans 22 8 0 0) (hr : Fr X (some .boolean) Po 0 0) (post : ∀ (n' : Nat) (Ly : LL) (I : II) (P : PP), n' = n0 + 0 → Ac n' Ly I P r.2 → Po (some (.inl r.1)) n' Ly I P) {A : AbS} {x6 : Int32} {x14 : Int32} {s0 : Int32} {s1 : Int32} (h : hL_plans_J662 A x6 x14 s0 s1 = some r) : GA none X 22 0 0 n0 0 662 [some (.inr (some 0)), none, none, none, none, none, some (.inl x6), none, none, none, none, none, none, none, some (.inl x14), none, none, none, none, none, none, none] [.inl s1, .inl s0] A q := by
  unfold hL_plans_J662 at h
  refine ga_icmp_eq (tgt := 667) F dL_plans_662 (by decide) (fun c57 => ?_) (fun c57 => ?_)
  · have h := if_t c57 h
    refine ga_aload_n F dL_plans_667 rfl ?_
    refine ga_bipush (v := 48) F dL_plans_668 (by decide) ?_
    have h := bd_s h
    refine ga_call F dL_plans_670 (ac_type _ (by decide +kernel)) lkL_54 okX8_type rfl rfl (Nat.le_of_ble_eq_true rfl) (by decide) (by decide) (by decide) ?_
    refine ga_pop F dL_plans_673 ?_
    refine ga_iload F dL_plans_674 rfl ?_
    refine ga_bipush (v := 6) F dL_plans_676 (by decide) ?_
    refine ga_icmp_ge (tgt := 699) F dL_plans_678 (by decide) (fun c59 => ?_) (fun c59 => ?_)
    · have h := if_t c59 h
      exact GA.weak (by exact ⟨rfl, ⟨rfl, trivial⟩⟩) (lL_plans_J699 F hr post h)
    · have h := if_f c59 h
      refine ga_aload_n F dL_plans_681 rfl ?_
      have h := bd_s h
      refine ga_call F dL_plans_682 (ac_run) lkL_48 okX8_run rfl rfl (Nat.le_of_ble_eq_true rfl) (by decide) (by decide) (by decide) ?_
      refine ga_if_lt (tgt := 699) F dL_plans_685 (by decide) (fun c65 => ?_) (fun c65 => ?_)
      · have h := if_t c65 h
        exact GA.weak (by exact ⟨rfl, ⟨rfl, trivial⟩⟩) (lL_plans_J699 F hr post h)
      · have h := if_f c65 h
        refine ga_aload_n F dL_plans_688 rfl ?_
        have h := bd_s h
        refine ga_call F dL_plans_689 (ac_undo) lkL_58 okX8_undo rfl rfl (Nat.le_of_ble_eq_true rfl) (by decide) (by decide) (by decide) ?_
        refine ga_if_lt (tgt := 699) F dL_plans_692 (by decide) (fun c67 => ?_) (fun c67 => ?_)
        · have h := if_t c67 h
          exact GA.weak (by exact ⟨rfl, ⟨rfl, trivial⟩⟩) (lL_plans_J699 F hr post h)
        · have h := if_f c67 h
          refine ga_iconst (v := 1) F dL_plans_695 (by decide) ?_
          refine ga_goto (tgt := 700) F dL_plans_696 (by decide) ?_
          exact GA.weak (by exact ⟨rfl, ⟨rfl, trivial⟩⟩) (lL_plans_J700 F hr post h)
  · have h := if_f c57 h
    refine ga_iconst (v := 0) F dL_plans_665 (by decide) ?_
    have h := Option.some.inj h
    subst h
    exact ga_iret F rfl hr dL_plans_666 rfl (by decide) (by decide) (fun Ly I P hA => post _ Ly I P rfl hA)
set_option maxRecDepth 100000 in
set_option maxHeartbeats 4000000 in
theorem lL_plans_J628 {X : Cx} {n0 : Nat} {q : II} {Po : PQ} {r : Int32 × AbS} (F : Fx X RL cL_plans 22 8 0 0) (hr : Fr X (some .boolean) Po 0 0) (post : ∀ (n' : Nat) (Ly : LL) (I : II) (P : PP), n' = n0 + 0 → Ac n' Ly I P r.2 → Po (some (.inl r.1)) n' Ly I P) {A : AbS} {x4 : Int32} {x6 : Int32} {x13 : Int32} {x14 : Int32} {x18 : Int32} {x19 : Int32} {x20 : Int32} {s0 : Int32} {s1 : Int32} {s2 : Int32} (h : hL_plans_J628 A x4 x6 x13 x14 x18 x19 x20 s0 s1 s2 = some r) : GA none X 22 0 0 n0 0 628 [some (.inr (some 0)), none, none, none, some (.inl x4), none, some (.inl x6), none, none, none, none, none, none, some (.inl x13), some (.inl x14), none, none, none, some (.inl x18), some (.inl x19), some (.inl x20), none] [.inl s2, .inl s1, .inl s0] A q := by
  unfold hL_plans_J628 at h
  refine ga_iadd F dL_plans_628 ?_
  refine ga_icmp_ne (tgt := 665) F dL_plans_629 (by decide) (fun c54 => ?_) (fun c54 => ?_)
  · have h := if_t c54 h
    refine ga_iconst (v := 0) F dL_plans_665 (by decide) ?_
    have h := Option.some.inj h
    subst h
    exact ga_iret F rfl hr dL_plans_666 rfl (by decide) (by decide) (fun Ly I P hA => post _ Ly I P rfl hA)
  · have h := if_f (not_not_intro c54) h
    refine ga_aload_n F dL_plans_632 rfl ?_
    refine ga_bipush (v := 9) F dL_plans_633 (by decide) ?_
    refine ga_call F dL_plans_635 (ac_count _) lkL_9 okX8_count rfl rfl (Nat.le_of_ble_eq_true rfl) (by decide) (by decide) (by decide) ?_
    refine ga_iload F dL_plans_638 rfl ?_
    refine ga_icmp_ne (tgt := 665) F dL_plans_640 (by decide) (fun c55 => ?_) (fun c55 => ?_)
    · have h := if_t c55 h
      refine ga_iconst (v := 0) F dL_plans_665 (by decide) ?_
      have h := Option.some.inj h
      subst h
      exact ga_iret F rfl hr dL_plans_666 rfl (by decide) (by decide) (fun Ly I P hA => post _ Ly I P rfl hA)
    · have h := if_f (not_not_intro c55) h
      refine ga_aload_n F dL_plans_643 rfl ?_
      refine ga_iload F dL_plans_644 rfl ?_
      refine ga_iconst (v := 2) F dL_plans_646 (by decide) ?_
      refine ga_call F dL_plans_647 (ac_walker _ _) lkL_25 okX8_walker rfl rfl (Nat.le_of_ble_eq_true rfl) (by decide) (by decide) (by decide) ?_
      refine ga_iload F dL_plans_650 rfl ?_
      refine ga_if_le (tgt := 660) F dL_plans_652 (by decide) (fun c56 => ?_) (fun c56 => ?_)
      · have h := if_t c56 h
        refine ga_iload F dL_plans_660 rfl ?_
        exact GA.weak (by exact ⟨rfl, ⟨rfl, ⟨rfl, trivial⟩⟩⟩) (lL_plans_J662 F hr post h)
      · have h := if_f c56 h
        refine ga_iload F dL_plans_655 rfl ?_
        refine ga_goto (tgt := 662) F dL_plans_657 (by decide) ?_
        exact GA.weak (by exact ⟨rfl, ⟨rfl, ⟨rfl, trivial⟩⟩⟩) (lL_plans_J662 F hr post h)
set_option maxRecDepth 100000 in
set_option maxHeartbeats 4000000 in
theorem lL_plans_J591 {X : Cx} {n0 : Nat} {q : II} {Po : PQ} {r : Int32 × AbS} (F : Fx X RL cL_plans 22 8 0 0) (hr : Fr X (some .boolean) Po 0 0) (post : ∀ (n' : Nat) (Ly : LL) (I : II) (P : PP), n' = n0 + 0 → Ac n' Ly I P r.2 → Po (some (.inl r.1)) n' Ly I P) {A : AbS} {x4 : Int32} {x6 : Int32} {x13 : Int32} {x14 : Int32} {x16 : Int32} {x18 : Int32} {x19 : Int32} {x20 : Int32} {s0 : Int32} {s1 : Int32} {s2 : Int32} (h : hL_plans_J591 A x4 x6 x13 x14 x16 x18 x19 x20 s0 s1 s2 = some r) : GA none X 22 0 0 n0 0 591 [some (.inr (some 0)), none, none, none, some (.inl x4), none, some (.inl x6), none, none, none, none, none, none, some (.inl x13), some (.inl x14), none, some (.inl x16), none, some (.inl x18), some (.inl x19), some (.inl x20), none] [.inl s2, .inl s1, .inl s0] A q := by
  unfold hL_plans_J591 at h
  refine ga_iadd F dL_plans_591 ?_
  refine ga_icmp_ne (tgt := 665) F dL_plans_592 (by decide) (fun c51 => ?_) (fun c51 => ?_)
  · have h := if_t c51 h
    refine ga_iconst (v := 0) F dL_plans_665 (by decide) ?_
    have h := Option.some.inj h
    subst h
    exact ga_iret F rfl hr dL_plans_666 rfl (by decide) (by decide) (fun Ly I P hA => post _ Ly I P rfl hA)
  · have h := if_f (not_not_intro c51) h
    refine ga_aload_n F dL_plans_595 rfl ?_
    refine ga_iload F dL_plans_596 rfl ?_
    refine ga_iconst (v := 1) F dL_plans_598 (by decide) ?_
    refine ga_call F dL_plans_599 (ac_walker _ _) lkL_25 okX8_walker rfl rfl (Nat.le_of_ble_eq_true rfl) (by decide) (by decide) (by decide) ?_
    refine ga_iload F dL_plans_602 rfl ?_
    refine ga_iload F dL_plans_604 rfl ?_
    refine ga_iconst (v := 1) F dL_plans_606 (by decide) ?_
    refine ga_icmp_ne (tgt := 615) F dL_plans_607 (by decide) (fun c52 => ?_) (fun c52 => ?_)
    · have h := if_t c52 h
      refine ga_iload F dL_plans_615 rfl ?_
      refine ga_iconst (v := 3) F dL_plans_617 (by decide) ?_
      refine ga_icmp_ne (tgt := 627) F dL_plans_618 (by decide) (fun c53 => ?_) (fun c53 => ?_)
      · have h := if_t c53 h
        refine ga_iconst (v := 0) F dL_plans_627 (by decide) ?_
        exact GA.weak (by exact ⟨rfl, ⟨rfl, ⟨rfl, ⟨rfl, ⟨rfl, ⟨rfl, ⟨rfl, ⟨rfl, trivial⟩⟩⟩⟩⟩⟩⟩⟩) (lL_plans_J628 F hr post h)
      · have h := if_f (not_not_intro c53) h
        refine ga_iload F dL_plans_621 rfl ?_
        refine ga_ineg F dL_plans_623 ?_
        refine ga_goto (tgt := 628) F dL_plans_624 (by decide) ?_
        exact GA.weak (by exact ⟨rfl, ⟨rfl, ⟨rfl, ⟨rfl, ⟨rfl, ⟨rfl, ⟨rfl, ⟨rfl, trivial⟩⟩⟩⟩⟩⟩⟩⟩) (lL_plans_J628 F hr post h)
    · have h := if_f (not_not_intro c52) h
      refine ga_iload F dL_plans_610 rfl ?_
      refine ga_goto (tgt := 628) F dL_plans_612 (by decide) ?_
      exact GA.weak (by exact ⟨rfl, ⟨rfl, ⟨rfl, ⟨rfl, ⟨rfl, ⟨rfl, ⟨rfl, ⟨rfl, trivial⟩⟩⟩⟩⟩⟩⟩⟩) (lL_plans_J628 F hr post h)
set_option maxRecDepth 100000 in
set_option maxHeartbeats 4000000 in
theorem lL_plans_J531 {X : Cx} {n0 : Nat} {q : II} {Po : PQ} {r : Int32 × AbS} (F : Fx X RL cL_plans 22 8 0 0) (hr : Fr X (some .boolean) Po 0 0) (post : ∀ (n' : Nat) (Ly : LL) (I : II) (P : PP), n' = n0 + 0 → Ac n' Ly I P r.2 → Po (some (.inl r.1)) n' Ly I P) {A : AbS} {x4 : Int32} {x6 : Int32} {x13 : Int32} {x14 : Int32} {x15 : Int32} {x16 : Int32} {s0 : Int32} (h : hL_plans_J531 A x4 x6 x13 x14 x15 x16 s0 = some r) : GA none X 22 0 0 n0 0 531 [some (.inr (some 0)), none, none, none, some (.inl x4), none, some (.inl x6), none, none, none, none, none, none, some (.inl x13), some (.inl x14), some (.inl x15), some (.inl x16), none, none, none, none, none] [.inl s0] A q := by
  unfold hL_plans_J531 at h
  refine ga_istore F dL_plans_531 (by decide) (by decide) ?_
  refine ga_aload_n F dL_plans_533 rfl ?_
  refine ga_bipush (v := 9) F dL_plans_534 (by decide) ?_
  refine ga_call F dL_plans_536 (ac_count _) lkL_9 okX8_count rfl rfl (Nat.le_of_ble_eq_true rfl) (by decide) (by decide) (by decide) ?_
  refine ga_istore F dL_plans_539 (by decide) (by decide) ?_
  refine ga_aload_n F dL_plans_541 rfl ?_
  refine ga_iload F dL_plans_542 rfl ?_
  refine ga_iconst (v := 2) F dL_plans_544 (by decide) ?_
  refine ga_call F dL_plans_545 (ac_walker _ _) lkL_25 okX8_walker rfl rfl (Nat.le_of_ble_eq_true rfl) (by decide) (by decide) (by decide) ?_
  refine ga_istore F dL_plans_548 (by decide) (by decide) ?_
  refine ga_aload_n F dL_plans_550 rfl ?_
  have h := bd_s h
  refine ga_call F dL_plans_551 (ac_run) lkL_48 okX8_run rfl rfl (Nat.le_of_ble_eq_true rfl) (by decide) (by decide) (by decide) ?_
  refine ga_iload F dL_plans_554 rfl ?_
  refine ga_icmp_ne (tgt := 665) F dL_plans_556 (by decide) (fun c48 => ?_) (fun c48 => ?_)
  · have h := if_t c48 h
    refine ga_iconst (v := 0) F dL_plans_665 (by decide) ?_
    have h := Option.some.inj h
    subst h
    exact ga_iret F rfl hr dL_plans_666 rfl (by decide) (by decide) (fun Ly I P hA => post _ Ly I P rfl hA)
  · have h := if_f (not_not_intro c48) h
    refine ga_aload_n F dL_plans_559 rfl ?_
    refine ga_iload F dL_plans_560 rfl ?_
    refine ga_iconst (v := 0) F dL_plans_562 (by decide) ?_
    refine ga_call F dL_plans_563 (ac_walker _ _) lkL_25 okX8_walker rfl rfl (Nat.le_of_ble_eq_true rfl) (by decide) (by decide) (by decide) ?_
    refine ga_iload F dL_plans_566 rfl ?_
    refine ga_iload F dL_plans_568 rfl ?_
    refine ga_iconst (v := 2) F dL_plans_570 (by decide) ?_
    refine ga_icmp_ne (tgt := 579) F dL_plans_571 (by decide) (fun c49 => ?_) (fun c49 => ?_)
    · have h := if_t c49 h
      refine ga_iload F dL_plans_579 rfl ?_
      refine ga_if_ne (tgt := 590) F dL_plans_581 (by decide) (fun c50 => ?_) (fun c50 => ?_)
      · have h := if_t c50 h
        refine ga_iconst (v := 0) F dL_plans_590 (by decide) ?_
        exact GA.weak (by exact ⟨rfl, ⟨rfl, ⟨rfl, ⟨rfl, ⟨rfl, ⟨rfl, ⟨rfl, ⟨rfl, ⟨rfl, trivial⟩⟩⟩⟩⟩⟩⟩⟩⟩) (lL_plans_J591 F hr post h)
      · have h := if_f (not_not_intro c50) h
        refine ga_iload F dL_plans_584 rfl ?_
        refine ga_ineg F dL_plans_586 ?_
        refine ga_goto (tgt := 591) F dL_plans_587 (by decide) ?_
        exact GA.weak (by exact ⟨rfl, ⟨rfl, ⟨rfl, ⟨rfl, ⟨rfl, ⟨rfl, ⟨rfl, ⟨rfl, ⟨rfl, trivial⟩⟩⟩⟩⟩⟩⟩⟩⟩) (lL_plans_J591 F hr post h)
    · have h := if_f (not_not_intro c49) h
      refine ga_iload F dL_plans_574 rfl ?_
      refine ga_goto (tgt := 591) F dL_plans_576 (by decide) ?_
      exact GA.weak (by exact ⟨rfl, ⟨rfl, ⟨rfl, ⟨rfl, ⟨rfl, ⟨rfl, ⟨rfl, ⟨rfl, ⟨rfl, trivial⟩⟩⟩⟩⟩⟩⟩⟩⟩) (lL_plans_J591 F hr post h)
set_option maxRecDepth 100000 in
set_option maxHeartbeats 4000000 in
theorem lL_plans_J515 {X : Cx} {n0 : Nat} {q : II} {Po : PQ} {r : Int32 × AbS} (F : Fx X RL cL_plans 22 8 0 0) (hr : Fr X (some .boolean) Po 0 0) (post : ∀ (n' : Nat) (Ly : LL) (I : II) (P : PP), n' = n0 + 0 → Ac n' Ly I P r.2 → Po (some (.inl r.1)) n' Ly I P) {A : AbS} {x4 : Int32} {x6 : Int32} {x13 : Int32} {x14 : Int32} {x15 : Int32} {x16 : Int32} {s0 : Int32} (h : hL_plans_J515 A x4 x6 x13 x14 x15 x16 s0 = some r) : GA none X 22 0 0 n0 0 515 [some (.inr (some 0)), none, none, none, some (.inl x4), none, some (.inl x6), none, none, none, none, none, none, some (.inl x13), some (.inl x14), some (.inl x15), some (.inl x16), none, none, none, none, none] [.inl s0] A q := by
  unfold hL_plans_J515 at h
  refine ga_istore F dL_plans_515 (by decide) (by decide) ?_
  refine ga_iload F dL_plans_517 rfl ?_
  refine ga_iload F dL_plans_519 rfl ?_
  refine ga_icmp_ge (tgt := 529) F dL_plans_521 (by decide) (fun c46 => ?_) (fun c46 => ?_)
  · have h := if_t c46 h
    refine ga_iload F dL_plans_529 rfl ?_
    exact GA.weak (by exact ⟨rfl, ⟨rfl, ⟨rfl, ⟨rfl, ⟨rfl, ⟨rfl, ⟨rfl, trivial⟩⟩⟩⟩⟩⟩⟩) (lL_plans_J531 F hr post h)
  · have h := if_f c46 h
    refine ga_iload F dL_plans_524 rfl ?_
    refine ga_goto (tgt := 531) F dL_plans_526 (by decide) ?_
    exact GA.weak (by exact ⟨rfl, ⟨rfl, ⟨rfl, ⟨rfl, ⟨rfl, ⟨rfl, ⟨rfl, trivial⟩⟩⟩⟩⟩⟩⟩) (lL_plans_J531 F hr post h)
set_option maxRecDepth 100000 in
set_option maxHeartbeats 4000000 in
theorem lL_plans_J413 {X : Cx} {n0 : Nat} {q : II} {Po : PQ} {r : Int32 × AbS} (F : Fx X RL cL_plans 22 8 0 0) (hr : Fr X (some .boolean) Po 0 0) (post : ∀ (n' : Nat) (Ly : LL) (I : II) (P : PP), n' = n0 + 0 → Ac n' Ly I P r.2 → Po (some (.inl r.1)) n' Ly I P) {A : AbS} {x2 : Int32} {x4 : Int32} {x13 : Int32} {s1 : Int32} (h : hL_plans_J413 A x2 x4 x13 s1 = some r) : GA none X 22 0 0 n0 0 413 [some (.inr (some 0)), none, some (.inl x2), none, some (.inl x4), none, none, none, none, none, none, none, none, some (.inl x13), none, none, none, none, none, none, none, none] [.inl s1, .inr (some 0)] A q := by
  unfold hL_plans_J413 at h
  obtain ⟨hc37, h⟩ := ck_s h
  have h := bd_s h
  refine ga_call F dL_plans_413 (ac_type _ hc37) lkL_54 okX8_type rfl rfl (Nat.le_of_ble_eq_true rfl) (by decide) (by decide) (by decide) ?_
  refine ga_pop F dL_plans_416 ?_
  refine ga_aload_n F dL_plans_417 rfl ?_
  refine ga_bipush (v := 49) F dL_plans_418 (by decide) ?_
  refine ga_iload_n F dL_plans_420 rfl ?_
  refine ga_bipush (v := 7) F dL_plans_421 (by decide) ?_
  refine ga_ishr F dL_plans_423 ?_
  refine ga_iconst (v := 4) F dL_plans_424 (by decide) ?_
  obtain ⟨v39, hv39, h⟩ := bd_i h
  refine ga_callL0 F dL_plans_425 (al_low hv39) lkL_51 okL_low rfl (Nat.le_of_ble_eq_true rfl) (by decide) (by decide) (by decide) ?_
  refine ga_iadd F dL_plans_428 ?_
  refine ga_c16 F dL_plans_429 ?_
  obtain ⟨hc40, h⟩ := ck_s h
  have h := bd_s h
  refine ga_call F dL_plans_430 (ac_type _ hc40) lkL_54 okX8_type rfl rfl (Nat.le_of_ble_eq_true rfl) (by decide) (by decide) (by decide) ?_
  refine ga_istore F dL_plans_433 (by decide) (by decide) ?_
  refine ga_iconst (v := 1) F dL_plans_435 (by decide) ?_
  refine ga_iload_n F dL_plans_436 rfl ?_
  refine ga_bipush (v := 7) F dL_plans_437 (by decide) ?_
  refine ga_ishr F dL_plans_439 ?_
  refine ga_iconst (v := 4) F dL_plans_440 (by decide) ?_
  obtain ⟨v42, hv42, h⟩ := bd_i h
  refine ga_callL0 F dL_plans_441 (al_low hv42) lkL_51 okL_low rfl (Nat.le_of_ble_eq_true rfl) (by decide) (by decide) (by decide) ?_
  refine ga_iadd F dL_plans_444 ?_
  refine ga_istore F dL_plans_445 (by decide) (by decide) ?_
  refine ga_aload_n F dL_plans_447 rfl ?_
  refine ga_iload F dL_plans_448 rfl ?_
  refine ga_iconst (v := 0) F dL_plans_450 (by decide) ?_
  refine ga_call F dL_plans_451 (ac_walker _ _) lkL_25 okX8_walker rfl rfl (Nat.le_of_ble_eq_true rfl) (by decide) (by decide) (by decide) ?_
  refine ga_istore F dL_plans_454 (by decide) (by decide) ?_
  refine ga_aload_n F dL_plans_456 rfl ?_
  refine ga_iload F dL_plans_457 rfl ?_
  refine ga_iconst (v := 1) F dL_plans_459 (by decide) ?_
  refine ga_call F dL_plans_460 (ac_walker _ _) lkL_25 okX8_walker rfl rfl (Nat.le_of_ble_eq_true rfl) (by decide) (by decide) (by decide) ?_
  refine ga_istore F dL_plans_463 (by decide) (by decide) ?_
  refine ga_iload F dL_plans_465 rfl ?_
  refine ga_if_ne (tgt := 475) F dL_plans_467 (by decide) (fun c43 => ?_) (fun c43 => ?_)
  · have h := if_t c43 h
    refine ga_iload F dL_plans_475 rfl ?_
    refine ga_iconst (v := 1) F dL_plans_477 (by decide) ?_
    refine ga_icmp_ne (tgt := 494) F dL_plans_478 (by decide) (fun c44 => ?_) (fun c44 => ?_)
    · have h := if_t c44 h
      refine ga_iload F dL_plans_494 rfl ?_
      refine ga_iconst (v := 2) F dL_plans_496 (by decide) ?_
      refine ga_icmp_ne (tgt := 513) F dL_plans_497 (by decide) (fun c45 => ?_) (fun c45 => ?_)
      · have h := if_t c45 h
        refine ga_iload F dL_plans_513 rfl ?_
        exact GA.weak (by exact ⟨rfl, ⟨rfl, ⟨rfl, ⟨rfl, ⟨rfl, ⟨rfl, ⟨rfl, trivial⟩⟩⟩⟩⟩⟩⟩) (lL_plans_J515 F hr post h)
      · have h := if_f (not_not_intro c45) h
        refine ga_aload_n F dL_plans_500 rfl ?_
        refine ga_iconst (v := 0) F dL_plans_501 (by decide) ?_
        refine ga_call F dL_plans_502 (ac_count _) lkL_9 okX8_count rfl rfl (Nat.le_of_ble_eq_true rfl) (by decide) (by decide) (by decide) ?_
        refine ga_iconst (v := 1) F dL_plans_505 (by decide) ?_
        refine ga_isub F dL_plans_506 ?_
        refine ga_iload F dL_plans_507 rfl ?_
        refine ga_isub F dL_plans_509 ?_
        refine ga_goto (tgt := 515) F dL_plans_510 (by decide) ?_
        exact GA.weak (by exact ⟨rfl, ⟨rfl, ⟨rfl, ⟨rfl, ⟨rfl, ⟨rfl, ⟨rfl, trivial⟩⟩⟩⟩⟩⟩⟩) (lL_plans_J515 F hr post h)
    · have h := if_f (not_not_intro c44) h
      refine ga_aload_n F dL_plans_481 rfl ?_
      refine ga_iconst (v := 1) F dL_plans_482 (by decide) ?_
      refine ga_call F dL_plans_483 (ac_count _) lkL_9 okX8_count rfl rfl (Nat.le_of_ble_eq_true rfl) (by decide) (by decide) (by decide) ?_
      refine ga_iconst (v := 1) F dL_plans_486 (by decide) ?_
      refine ga_isub F dL_plans_487 ?_
      refine ga_iload F dL_plans_488 rfl ?_
      refine ga_isub F dL_plans_490 ?_
      refine ga_goto (tgt := 515) F dL_plans_491 (by decide) ?_
      exact GA.weak (by exact ⟨rfl, ⟨rfl, ⟨rfl, ⟨rfl, ⟨rfl, ⟨rfl, ⟨rfl, trivial⟩⟩⟩⟩⟩⟩⟩) (lL_plans_J515 F hr post h)
  · have h := if_f (not_not_intro c43) h
    refine ga_iload F dL_plans_470 rfl ?_
    refine ga_goto (tgt := 515) F dL_plans_472 (by decide) ?_
    exact GA.weak (by exact ⟨rfl, ⟨rfl, ⟨rfl, ⟨rfl, ⟨rfl, ⟨rfl, ⟨rfl, trivial⟩⟩⟩⟩⟩⟩⟩) (lL_plans_J515 F hr post h)
set_option maxRecDepth 100000 in
set_option maxHeartbeats 4000000 in
theorem lL_plans_J250 {X : Cx} {n0 : Nat} {q : II} {Po : PQ} {r : Int32 × AbS} (F : Fx X RL cL_plans 22 8 0 0) (hr : Fr X (some .boolean) Po 0 0) (post : ∀ (n' : Nat) (Ly : LL) (I : II) (P : PP), n' = n0 + 0 → Ac n' Ly I P r.2 → Po (some (.inl r.1)) n' Ly I P) {A : AbS} {x2 : Int32} {x4 : Int32} {x5 : Int32} {x6 : Int32} {x8 : Int32} {x9 : Int32} {s0 : Int32} (h : hL_plans_J250 A x2 x4 x5 x6 x8 x9 s0 = some r) : GA none X 22 0 0 n0 0 250 [some (.inr (some 0)), none, some (.inl x2), none, some (.inl x4), some (.inl x5), some (.inl x6), none, some (.inl x8), some (.inl x9), none, none, none, none, none, none, none, none, none, none, none, none] [.inl s0] A q := by
  unfold hL_plans_J250 at h
  refine ga_istore F dL_plans_250 (by decide) (by decide) ?_
  refine ga_aload_n F dL_plans_252 rfl ?_
  refine ga_bipush (v := 6) F dL_plans_253 (by decide) ?_
  refine ga_call F dL_plans_255 (ac_count _) lkL_9 okX8_count rfl rfl (Nat.le_of_ble_eq_true rfl) (by decide) (by decide) (by decide) ?_
  refine ga_aload_n F dL_plans_258 rfl ?_
  refine ga_bipush (v := 7) F dL_plans_259 (by decide) ?_
  refine ga_call F dL_plans_261 (ac_count _) lkL_9 okX8_count rfl rfl (Nat.le_of_ble_eq_true rfl) (by decide) (by decide) (by decide) ?_
  refine ga_iadd F dL_plans_264 ?_
  refine ga_istore F dL_plans_265 (by decide) (by decide) ?_
  refine ga_iload F dL_plans_267 rfl ?_
  refine ga_if_eq (tgt := 344) F dL_plans_269 (by decide) (fun c22 => ?_) (fun c22 => ?_)
  · have h := if_t c22 h
    refine ga_iconst (v := 0) F dL_plans_344 (by decide) ?_
    have h := Option.some.inj h
    subst h
    exact ga_iret F rfl hr dL_plans_345 rfl (by decide) (by decide) (fun Ly I P hA => post _ Ly I P rfl hA)
  · have h := if_f c22 h
    refine ga_iload F dL_plans_272 rfl ?_
    refine ga_iconst (v := 3) F dL_plans_274 (by decide) ?_
    refine ga_icmp_ne (tgt := 344) F dL_plans_275 (by decide) (fun c23 => ?_) (fun c23 => ?_)
    · have h := if_t c23 h
      refine ga_iconst (v := 0) F dL_plans_344 (by decide) ?_
      have h := Option.some.inj h
      subst h
      exact ga_iret F rfl hr dL_plans_345 rfl (by decide) (by decide) (fun Ly I P hA => post _ Ly I P rfl hA)
    · have h := if_f (not_not_intro c23) h
      refine ga_aload_n F dL_plans_278 rfl ?_
      have h := bd_s h
      refine ga_call F dL_plans_279 (ac_run) lkL_48 okX8_run rfl rfl (Nat.le_of_ble_eq_true rfl) (by decide) (by decide) (by decide) ?_
      refine ga_if_ne (tgt := 344) F dL_plans_282 (by decide) (fun c25 => ?_) (fun c25 => ?_)
      · have h := if_t c25 h
        refine ga_iconst (v := 0) F dL_plans_344 (by decide) ?_
        have h := Option.some.inj h
        subst h
        exact ga_iret F rfl hr dL_plans_345 rfl (by decide) (by decide) (fun Ly I P hA => post _ Ly I P rfl hA)
      · have h := if_f (not_not_intro c25) h
        refine ga_aload_n F dL_plans_285 rfl ?_
        refine ga_iload F dL_plans_286 rfl ?_
        refine ga_iconst (v := 3) F dL_plans_288 (by decide) ?_
        refine ga_call F dL_plans_289 (ac_walker _ _) lkL_25 okX8_walker rfl rfl (Nat.le_of_ble_eq_true rfl) (by decide) (by decide) (by decide) ?_
        refine ga_iload F dL_plans_292 rfl ?_
        refine ga_iload F dL_plans_294 rfl ?_
        refine ga_iadd F dL_plans_296 ?_
        refine ga_icmp_ne (tgt := 344) F dL_plans_297 (by decide) (fun c26 => ?_) (fun c26 => ?_)
        · have h := if_t c26 h
          refine ga_iconst (v := 0) F dL_plans_344 (by decide) ?_
          have h := Option.some.inj h
          subst h
          exact ga_iret F rfl hr dL_plans_345 rfl (by decide) (by decide) (fun Ly I P hA => post _ Ly I P rfl hA)
        · have h := if_f (not_not_intro c26) h
          refine ga_aload_n F dL_plans_300 rfl ?_
          refine ga_aload_n F dL_plans_301 rfl ?_
          refine ga_iload F dL_plans_302 rfl ?_
          refine ga_iconst (v := 0) F dL_plans_304 (by decide) ?_
          refine ga_call F dL_plans_305 (ac_walker _ _) lkL_25 okX8_walker rfl rfl (Nat.le_of_ble_eq_true rfl) (by decide) (by decide) (by decide) ?_
          refine ga_aload_n F dL_plans_308 rfl ?_
          refine ga_iload F dL_plans_309 rfl ?_
          refine ga_iconst (v := 1) F dL_plans_311 (by decide) ?_
          refine ga_call F dL_plans_312 (ac_walker _ _) lkL_25 okX8_walker rfl rfl (Nat.le_of_ble_eq_true rfl) (by decide) (by decide) (by decide) ?_
          refine ga_call F dL_plans_315 (ac_chips _ _) lkL_15 okX8_chips rfl rfl (Nat.le_of_ble_eq_true rfl) (by decide) (by decide) (by decide) ?_
          refine ga_iload F dL_plans_318 rfl ?_
          refine ga_iload F dL_plans_320 rfl ?_
          refine ga_isub F dL_plans_322 ?_
          refine ga_icmp_ne (tgt := 344) F dL_plans_323 (by decide) (fun c27 => ?_) (fun c27 => ?_)
          · have h := if_t c27 h
            refine ga_iconst (v := 0) F dL_plans_344 (by decide) ?_
            have h := Option.some.inj h
            subst h
            exact ga_iret F rfl hr dL_plans_345 rfl (by decide) (by decide) (fun Ly I P hA => post _ Ly I P rfl hA)
          · have h := if_f (not_not_intro c27) h
            refine ga_aload_n F dL_plans_326 rfl ?_
            refine ga_bipush (v := 6) F dL_plans_327 (by decide) ?_
            refine ga_call F dL_plans_329 (ac_count _) lkL_9 okX8_count rfl rfl (Nat.le_of_ble_eq_true rfl) (by decide) (by decide) (by decide) ?_
            refine ga_aload_n F dL_plans_332 rfl ?_
            refine ga_bipush (v := 7) F dL_plans_333 (by decide) ?_
            refine ga_call F dL_plans_335 (ac_count _) lkL_9 okX8_count rfl rfl (Nat.le_of_ble_eq_true rfl) (by decide) (by decide) (by decide) ?_
            refine ga_iadd F dL_plans_338 ?_
            refine ga_iload F dL_plans_339 rfl ?_
            refine ga_icmp_eq (tgt := 346) F dL_plans_341 (by decide) (fun c28 => ?_) (fun c28 => ?_)
            · have h := if_t c28 h
              refine ga_aload_n F dL_plans_346 rfl ?_
              have h := bd_s h
              refine ga_call F dL_plans_347 (ac_clearText) lkL_44 okX8_clearText rfl rfl (Nat.le_of_ble_eq_true rfl) (by decide) (by decide) (by decide) ?_
              refine ga_pop F dL_plans_350 ?_
              refine ga_aload_n F dL_plans_351 rfl ?_
              refine ga_bipush (v := 35) F dL_plans_352 (by decide) ?_
              have h := bd_s h
              refine ga_call F dL_plans_354 (ac_type _ (by decide +kernel)) lkL_54 okX8_type rfl rfl (Nat.le_of_ble_eq_true rfl) (by decide) (by decide) (by decide) ?_
              refine ga_pop F dL_plans_357 ?_
              refine ga_aload_n F dL_plans_358 rfl ?_
              refine ga_bipush (v := 48) F dL_plans_359 (by decide) ?_
              refine ga_iload F dL_plans_361 rfl ?_
              refine ga_iadd F dL_plans_363 ?_
              refine ga_c16 F dL_plans_364 ?_
              obtain ⟨hc31, h⟩ := ck_s h
              have h := bd_s h
              refine ga_call F dL_plans_365 (ac_type _ hc31) lkL_54 okX8_type rfl rfl (Nat.le_of_ble_eq_true rfl) (by decide) (by decide) (by decide) ?_
              refine ga_pop F dL_plans_368 ?_
              refine ga_iload_n F dL_plans_369 rfl ?_
              refine ga_iconst (v := 5) F dL_plans_370 (by decide) ?_
              refine ga_ishr F dL_plans_371 ?_
              refine ga_iconst (v := 4) F dL_plans_372 (by decide) ?_
              obtain ⟨v33, hv33, h⟩ := bd_i h
              refine ga_callL0 F dL_plans_373 (al_low hv33) lkL_51 okL_low rfl (Nat.le_of_ble_eq_true rfl) (by decide) (by decide) (by decide) ?_
              refine ga_istore F dL_plans_376 (by decide) (by decide) ?_
              refine ga_aload_n F dL_plans_378 rfl ?_
              refine ga_iload F dL_plans_379 rfl ?_
              refine ga_if_ne (tgt := 389) F dL_plans_381 (by decide) (fun c34 => ?_) (fun c34 => ?_)
              · have h := if_t c34 h
                refine ga_iload F dL_plans_389 rfl ?_
                refine ga_iconst (v := 1) F dL_plans_391 (by decide) ?_
                refine ga_icmp_ne (tgt := 400) F dL_plans_392 (by decide) (fun c35 => ?_) (fun c35 => ?_)
                · have h := if_t c35 h
                  refine ga_iload F dL_plans_400 rfl ?_
                  refine ga_iconst (v := 2) F dL_plans_402 (by decide) ?_
                  refine ga_icmp_ne (tgt := 411) F dL_plans_403 (by decide) (fun c36 => ?_) (fun c36 => ?_)
                  · have h := if_t c36 h
                    refine ga_bipush (v := 119) F dL_plans_411 (by decide) ?_
                    exact GA.weak (by exact ⟨rfl, ⟨rfl, ⟨rfl, ⟨rfl, trivial⟩⟩⟩⟩) (lL_plans_J413 F hr post h)
                  · have h := if_f (not_not_intro c36) h
                    refine ga_bipush (v := 115) F dL_plans_406 (by decide) ?_
                    refine ga_goto (tgt := 413) F dL_plans_408 (by decide) ?_
                    exact GA.weak (by exact ⟨rfl, ⟨rfl, ⟨rfl, ⟨rfl, trivial⟩⟩⟩⟩) (lL_plans_J413 F hr post h)
                · have h := if_f (not_not_intro c35) h
                  refine ga_bipush (v := 101) F dL_plans_395 (by decide) ?_
                  refine ga_goto (tgt := 413) F dL_plans_397 (by decide) ?_
                  exact GA.weak (by exact ⟨rfl, ⟨rfl, ⟨rfl, ⟨rfl, trivial⟩⟩⟩⟩) (lL_plans_J413 F hr post h)
              · have h := if_f (not_not_intro c34) h
                refine ga_bipush (v := 110) F dL_plans_384 (by decide) ?_
                refine ga_goto (tgt := 413) F dL_plans_386 (by decide) ?_
                exact GA.weak (by exact ⟨rfl, ⟨rfl, ⟨rfl, ⟨rfl, trivial⟩⟩⟩⟩) (lL_plans_J413 F hr post h)
            · have h := if_f c28 h
              refine ga_iconst (v := 0) F dL_plans_344 (by decide) ?_
              have h := Option.some.inj h
              subst h
              exact ga_iret F rfl hr dL_plans_345 rfl (by decide) (by decide) (fun Ly I P hA => post _ Ly I P rfl hA)
set_option maxRecDepth 100000 in
set_option maxHeartbeats 4000000 in
theorem lL_plans_J216 {X : Cx} {n0 : Nat} {q : II} {Po : PQ} {r : Int32 × AbS} (F : Fx X RL cL_plans 22 8 0 0) (hr : Fr X (some .boolean) Po 0 0) (post : ∀ (n' : Nat) (Ly : LL) (I : II) (P : PP), n' = n0 + 0 → Ac n' Ly I P r.2 → Po (some (.inl r.1)) n' Ly I P) {A : AbS} {x2 : Int32} {x4 : Int32} {x5 : Int32} {x6 : Int32} {x8 : Int32} {x9 : Int32} {x10 : Int32} {s0 : Int32} (h : hL_plans_J216 A x2 x4 x5 x6 x8 x9 x10 s0 = some r) : GA none X 22 0 0 n0 0 216 [some (.inr (some 0)), none, some (.inl x2), none, some (.inl x4), some (.inl x5), some (.inl x6), none, some (.inl x8), some (.inl x9), some (.inl x10), none, none, none, none, none, none, none, none, none, none, none] [.inl s0] A q := by
  unfold hL_plans_J216 at h
  refine ga_istore F dL_plans_216 (by decide) (by decide) ?_
  refine ga_iload F dL_plans_218 rfl ?_
  refine ga_iload F dL_plans_220 rfl ?_
  refine ga_icmp_le (tgt := 230) F dL_plans_222 (by decide) (fun c20 => ?_) (fun c20 => ?_)
  · have h := if_t c20 h
    refine ga_iload F dL_plans_230 rfl ?_
    refine ga_iload F dL_plans_232 rfl ?_
    refine ga_bipush (v := 99) F dL_plans_234 (by decide) ?_
    refine ga_isub F dL_plans_236 ?_
    refine ga_icmp_ge (tgt := 248) F dL_plans_237 (by decide) (fun c21 => ?_) (fun c21 => ?_)
    · have h := if_t c21 h
      refine ga_iload F dL_plans_248 rfl ?_
      exact GA.weak (by exact ⟨rfl, ⟨rfl, ⟨rfl, ⟨rfl, ⟨rfl, ⟨rfl, ⟨rfl, trivial⟩⟩⟩⟩⟩⟩⟩) (lL_plans_J250 F hr post h)
    · have h := if_f c21 h
      refine ga_iload F dL_plans_240 rfl ?_
      refine ga_bipush (v := 99) F dL_plans_242 (by decide) ?_
      refine ga_isub F dL_plans_244 ?_
      refine ga_goto (tgt := 250) F dL_plans_245 (by decide) ?_
      exact GA.weak (by exact ⟨rfl, ⟨rfl, ⟨rfl, ⟨rfl, ⟨rfl, ⟨rfl, ⟨rfl, trivial⟩⟩⟩⟩⟩⟩⟩) (lL_plans_J250 F hr post h)
  · have h := if_f c20 h
    refine ga_iload F dL_plans_225 rfl ?_
    refine ga_goto (tgt := 250) F dL_plans_227 (by decide) ?_
    exact GA.weak (by exact ⟨rfl, ⟨rfl, ⟨rfl, ⟨rfl, ⟨rfl, ⟨rfl, ⟨rfl, trivial⟩⟩⟩⟩⟩⟩⟩) (lL_plans_J250 F hr post h)
set_option maxRecDepth 100000 in
set_option maxHeartbeats 4000000 in
theorem lL_plans_J215 {X : Cx} {n0 : Nat} {q : II} {Po : PQ} {r : Int32 × AbS} (F : Fx X RL cL_plans 22 8 0 0) (hr : Fr X (some .boolean) Po 0 0) (post : ∀ (n' : Nat) (Ly : LL) (I : II) (P : PP), n' = n0 + 0 → Ac n' Ly I P r.2 → Po (some (.inl r.1)) n' Ly I P) {A : AbS} {x2 : Int32} {x4 : Int32} {x5 : Int32} {x6 : Int32} {x8 : Int32} {x9 : Int32} {x10 : Int32} {s0 : Int32} (h : hL_plans_J215 A x2 x4 x5 x6 x8 x9 x10 s0 = some r) : GA none X 22 0 0 n0 0 215 [some (.inr (some 0)), none, some (.inl x2), none, some (.inl x4), some (.inl x5), some (.inl x6), none, some (.inl x8), some (.inl x9), some (.inl x10), none, none, none, none, none, none, none, none, none, none, none] [.inl s0] A q := by
  unfold hL_plans_J215 at h
  refine ga_ineg F dL_plans_215 ?_
  exact GA.weak (by exact ⟨rfl, ⟨rfl, ⟨rfl, ⟨rfl, ⟨rfl, ⟨rfl, ⟨rfl, ⟨rfl, trivial⟩⟩⟩⟩⟩⟩⟩⟩) (lL_plans_J216 F hr post h)
set_option maxRecDepth 100000 in
set_option maxHeartbeats 4000000 in
theorem lL_plans_J109 {X : Cx} {n0 : Nat} {q : II} {Po : PQ} {r : Int32 × AbS} (F : Fx X RL cL_plans 22 8 0 0) (hr : Fr X (some .boolean) Po 0 0) (post : ∀ (n' : Nat) (Ly : LL) (I : II) (P : PP), n' = n0 + 0 → Ac n' Ly I P r.2 → Po (some (.inl r.1)) n' Ly I P) {A : AbS} {x2 : Int32} {x4 : Int32} {x5 : Int32} {s1 : Int32} (h : hL_plans_J109 A x2 x4 x5 s1 = some r) : GA none X 22 0 0 n0 0 109 [some (.inr (some 0)), none, some (.inl x2), none, some (.inl x4), some (.inl x5), none, none, none, none, none, none, none, none, none, none, none, none, none, none, none, none] [.inl s1, .inr (some 0)] A q := by
  unfold hL_plans_J109 at h
  obtain ⟨hc13, h⟩ := ck_s h
  have h := bd_s h
  refine ga_call F dL_plans_109 (ac_type _ hc13) lkL_54 okX8_type rfl rfl (Nat.le_of_ble_eq_true rfl) (by decide) (by decide) (by decide) ?_
  refine ga_istore F dL_plans_112 (by decide) (by decide) ?_
  refine ga_iconst (v := 1) F dL_plans_114 (by decide) ?_
  refine ga_iload_n F dL_plans_115 rfl ?_
  refine ga_iconst (v := 1) F dL_plans_116 (by decide) ?_
  refine ga_ishr F dL_plans_117 ?_
  refine ga_bipush (v := 9) F dL_plans_118 (by decide) ?_
  obtain ⟨v15, hv15, h⟩ := bd_i h
  refine ga_callL0 F dL_plans_120 (al_low hv15) lkL_51 okL_low rfl (Nat.le_of_ble_eq_true rfl) (by decide) (by decide) (by decide) ?_
  refine ga_iadd F dL_plans_123 ?_
  refine ga_istore F dL_plans_124 (by decide) (by decide) ?_
  refine ga_aload_n F dL_plans_126 rfl ?_
  refine ga_bipush (v := 48) F dL_plans_127 (by decide) ?_
  refine ga_iload F dL_plans_129 rfl ?_
  refine ga_iadd F dL_plans_131 ?_
  refine ga_c16 F dL_plans_132 ?_
  obtain ⟨hc16, h⟩ := ck_s h
  have h := bd_s h
  refine ga_call F dL_plans_133 (ac_type _ hc16) lkL_54 okX8_type rfl rfl (Nat.le_of_ble_eq_true rfl) (by decide) (by decide) (by decide) ?_
  refine ga_pop F dL_plans_136 ?_
  refine ga_aload_n F dL_plans_137 rfl ?_
  refine ga_iload F dL_plans_138 rfl ?_
  refine ga_iconst (v := 3) F dL_plans_140 (by decide) ?_
  refine ga_call F dL_plans_141 (ac_walker _ _) lkL_25 okX8_walker rfl rfl (Nat.le_of_ble_eq_true rfl) (by decide) (by decide) (by decide) ?_
  refine ga_istore F dL_plans_144 (by decide) (by decide) ?_
  refine ga_aload_n F dL_plans_146 rfl ?_
  refine ga_aload_n F dL_plans_147 rfl ?_
  refine ga_iload F dL_plans_148 rfl ?_
  refine ga_iconst (v := 0) F dL_plans_150 (by decide) ?_
  refine ga_call F dL_plans_151 (ac_walker _ _) lkL_25 okX8_walker rfl rfl (Nat.le_of_ble_eq_true rfl) (by decide) (by decide) (by decide) ?_
  refine ga_aload_n F dL_plans_154 rfl ?_
  refine ga_iload F dL_plans_155 rfl ?_
  refine ga_iconst (v := 1) F dL_plans_157 (by decide) ?_
  refine ga_call F dL_plans_158 (ac_walker _ _) lkL_25 okX8_walker rfl rfl (Nat.le_of_ble_eq_true rfl) (by decide) (by decide) (by decide) ?_
  refine ga_call F dL_plans_161 (ac_chips _ _) lkL_15 okX8_chips rfl rfl (Nat.le_of_ble_eq_true rfl) (by decide) (by decide) (by decide) ?_
  refine ga_istore F dL_plans_164 (by decide) (by decide) ?_
  refine ga_aload_n F dL_plans_166 rfl ?_
  refine ga_iload F dL_plans_167 rfl ?_
  refine ga_iconst (v := 4) F dL_plans_169 (by decide) ?_
  refine ga_call F dL_plans_170 (ac_walker _ _) lkL_25 okX8_walker rfl rfl (Nat.le_of_ble_eq_true rfl) (by decide) (by decide) (by decide) ?_
  refine ga_iload F dL_plans_173 rfl ?_
  refine ga_isub F dL_plans_175 ?_
  refine ga_istore F dL_plans_176 (by decide) (by decide) ?_
  refine ga_iload_n F dL_plans_178 rfl ?_
  refine ga_iconst (v := 1) F dL_plans_179 (by decide) ?_
  refine ga_iand F dL_plans_180 ?_
  refine ga_if_ne (tgt := 201) F dL_plans_181 (by decide) (fun c18 => ?_) (fun c18 => ?_)
  · have h := if_t c18 h
    refine ga_iload F dL_plans_201 rfl ?_
    refine ga_iload F dL_plans_203 rfl ?_
    refine ga_icmp_ge (tgt := 213) F dL_plans_205 (by decide) (fun c19 => ?_) (fun c19 => ?_)
    · have h := if_t c19 h
      refine ga_iload F dL_plans_213 rfl ?_
      exact GA.weak (by exact ⟨rfl, ⟨rfl, ⟨rfl, ⟨rfl, ⟨rfl, ⟨rfl, ⟨rfl, ⟨rfl, trivial⟩⟩⟩⟩⟩⟩⟩⟩) (lL_plans_J215 F hr post h)
    · have h := if_f c19 h
      refine ga_iload F dL_plans_208 rfl ?_
      refine ga_goto (tgt := 215) F dL_plans_210 (by decide) ?_
      exact GA.weak (by exact ⟨rfl, ⟨rfl, ⟨rfl, ⟨rfl, ⟨rfl, ⟨rfl, ⟨rfl, ⟨rfl, trivial⟩⟩⟩⟩⟩⟩⟩⟩) (lL_plans_J215 F hr post h)
  · have h := if_f (not_not_intro c18) h
    refine ga_iload F dL_plans_184 rfl ?_
    refine ga_iload F dL_plans_186 rfl ?_
    refine ga_icmp_ge (tgt := 196) F dL_plans_188 (by decide) (fun c68 => ?_) (fun c68 => ?_)
    · have h := if_t c68 h
      refine ga_iload F dL_plans_196 rfl ?_
      refine ga_goto (tgt := 216) F dL_plans_198 (by decide) ?_
      exact GA.weak (by exact ⟨rfl, ⟨rfl, ⟨rfl, ⟨rfl, ⟨rfl, ⟨rfl, ⟨rfl, ⟨rfl, trivial⟩⟩⟩⟩⟩⟩⟩⟩) (lL_plans_J216 F hr post h)
    · have h := if_f c68 h
      refine ga_iload F dL_plans_191 rfl ?_
      refine ga_goto (tgt := 216) F dL_plans_193 (by decide) ?_
      exact GA.weak (by exact ⟨rfl, ⟨rfl, ⟨rfl, ⟨rfl, ⟨rfl, ⟨rfl, ⟨rfl, ⟨rfl, trivial⟩⟩⟩⟩⟩⟩⟩⟩) (lL_plans_J216 F hr post h)
set_option maxRecDepth 100000 in
set_option maxHeartbeats 4000000 in
theorem lL_plans_J58 {X : Cx} {n0 : Nat} {q : II} {Po : PQ} {r : Int32 × AbS} (F : Fx X RL cL_plans 22 8 0 0) (hr : Fr X (some .boolean) Po 0 0) (post : ∀ (n' : Nat) (Ly : LL) (I : II) (P : PP), n' = n0 + 0 → Ac n' Ly I P r.2 → Po (some (.inl r.1)) n' Ly I P) {A : AbS} {x2 : Int32} {x3 : Int32} {x4 : Int32} {s0 : Int32} (h : hL_plans_J58 A x2 x3 x4 s0 = some r) : GA none X 22 0 0 n0 0 58 [some (.inr (some 0)), none, some (.inl x2), some (.inl x3), some (.inl x4), none, none, none, none, none, none, none, none, none, none, none, none, none, none, none, none, none] [.inl s0] A q := by
  unfold hL_plans_J58 at h
  refine ga_istore F dL_plans_58 (by decide) (by decide) ?_
  refine ga_aload_n F dL_plans_60 rfl ?_
  refine ga_bipush (v := 48) F dL_plans_61 (by decide) ?_
  refine ga_iload F dL_plans_63 rfl ?_
  refine ga_iadd F dL_plans_65 ?_
  refine ga_c16 F dL_plans_66 ?_
  obtain ⟨hc9, h⟩ := ck_s h
  have h := bd_s h
  refine ga_call F dL_plans_67 (ac_type _ hc9) lkL_54 okX8_type rfl rfl (Nat.le_of_ble_eq_true rfl) (by decide) (by decide) (by decide) ?_
  refine ga_pop F dL_plans_70 ?_
  refine ga_iload_n F dL_plans_71 rfl ?_
  refine ga_if_ne (tgt := 95) F dL_plans_72 (by decide) (fun c11 => ?_) (fun c11 => ?_)
  · have h := if_t c11 h
    refine ga_aload_n F dL_plans_95 rfl ?_
    refine ga_iload_n F dL_plans_96 rfl ?_
    refine ga_iconst (v := 1) F dL_plans_97 (by decide) ?_
    refine ga_iand F dL_plans_98 ?_
    refine ga_if_ne (tgt := 107) F dL_plans_99 (by decide) (fun c12 => ?_) (fun c12 => ?_)
    · have h := if_t c12 h
      refine ga_bipush (v := 100) F dL_plans_107 (by decide) ?_
      exact GA.weak (by exact ⟨rfl, ⟨rfl, ⟨rfl, ⟨rfl, trivial⟩⟩⟩⟩) (lL_plans_J109 F hr post h)
    · have h := if_f (not_not_intro c12) h
      refine ga_bipush (v := 103) F dL_plans_102 (by decide) ?_
      refine ga_goto (tgt := 109) F dL_plans_104 (by decide) ?_
      exact GA.weak (by exact ⟨rfl, ⟨rfl, ⟨rfl, ⟨rfl, trivial⟩⟩⟩⟩) (lL_plans_J109 F hr post h)
  · have h := if_f (not_not_intro c11) h
    refine ga_iload F dL_plans_75 rfl ?_
    refine ga_if_eq (tgt := 93) F dL_plans_77 (by decide) (fun c69 => ?_) (fun c69 => ?_)
    · have h := if_t c69 h
      refine ga_iconst (v := 0) F dL_plans_93 (by decide) ?_
      have h := Option.some.inj h
      subst h
      exact ga_iret F rfl hr dL_plans_94 rfl (by decide) (by decide) (fun Ly I P hA => post _ Ly I P rfl hA)
    · have h := if_f c69 h
      refine ga_aload_n F dL_plans_80 rfl ?_
      have h := bd_s h
      refine ga_call F dL_plans_81 (ac_run) lkL_48 okX8_run rfl rfl (Nat.le_of_ble_eq_true rfl) (by decide) (by decide) (by decide) ?_
      refine ga_bipush (v := (-101)) F dL_plans_84 (by decide) ?_
      refine ga_icmp_ne (tgt := 93) F dL_plans_86 (by decide) (fun c71 => ?_) (fun c71 => ?_)
      · have h := if_t c71 h
        refine ga_iconst (v := 0) F dL_plans_93 (by decide) ?_
        have h := Option.some.inj h
        subst h
        exact ga_iret F rfl hr dL_plans_94 rfl (by decide) (by decide) (fun Ly I P hA => post _ Ly I P rfl hA)
      · have h := if_f (not_not_intro c71) h
        refine ga_iconst (v := 1) F dL_plans_89 (by decide) ?_
        refine ga_goto (tgt := 94) F dL_plans_90 (by decide) ?_
        have h := Option.some.inj h
        subst h
        exact ga_iret F rfl hr dL_plans_94 rfl (by decide) (by decide) (fun Ly I P hA => post _ Ly I P rfl hA)
set_option maxRecDepth 100000 in
set_option maxHeartbeats 4000000 in
theorem lL_plans_J35 {X : Cx} {n0 : Nat} {q : II} {Po : PQ} {r : Int32 × AbS} (F : Fx X RL cL_plans 22 8 0 0) (hr : Fr X (some .boolean) Po 0 0) (post : ∀ (n' : Nat) (Ly : LL) (I : II) (P : PP), n' = n0 + 0 → Ac n' Ly I P r.2 → Po (some (.inl r.1)) n' Ly I P) {A : AbS} {x2 : Int32} {x3 : Int32} {s0 : Int32} (h : hL_plans_J35 A x2 x3 s0 = some r) : GA none X 22 0 0 n0 0 35 [some (.inr (some 0)), none, some (.inl x2), some (.inl x3), none, none, none, none, none, none, none, none, none, none, none, none, none, none, none, none, none, none] [.inl s0] A q := by
  unfold hL_plans_J35 at h
  refine ga_istore F dL_plans_35 (by decide) (by decide) ?_
  refine ga_aload_n F dL_plans_37 rfl ?_
  refine ga_bipush (v := 35) F dL_plans_38 (by decide) ?_
  have h := bd_s h
  refine ga_call F dL_plans_40 (ac_type _ (by decide +kernel)) lkL_54 okX8_type rfl rfl (Nat.le_of_ble_eq_true rfl) (by decide) (by decide) (by decide) ?_
  refine ga_pop F dL_plans_43 ?_
  refine ga_aload_n F dL_plans_44 rfl ?_
  have h := bd_s h
  refine ga_call F dL_plans_45 (ac_run) lkL_48 okX8_run rfl rfl (Nat.le_of_ble_eq_true rfl) (by decide) (by decide) (by decide) ?_
  refine ga_bipush (v := (-101)) F dL_plans_48 (by decide) ?_
  refine ga_icmp_ne (tgt := 57) F dL_plans_50 (by decide) (fun c8 => ?_) (fun c8 => ?_)
  · have h := if_t c8 h
    refine ga_iconst (v := 0) F dL_plans_57 (by decide) ?_
    exact GA.weak (by exact ⟨rfl, ⟨rfl, ⟨rfl, ⟨rfl, trivial⟩⟩⟩⟩) (lL_plans_J58 F hr post h)
  · have h := if_f (not_not_intro c8) h
    refine ga_iconst (v := 1) F dL_plans_53 (by decide) ?_
    refine ga_goto (tgt := 58) F dL_plans_54 (by decide) ?_
    exact GA.weak (by exact ⟨rfl, ⟨rfl, ⟨rfl, ⟨rfl, trivial⟩⟩⟩⟩) (lL_plans_J58 F hr post h)
set_option maxRecDepth 100000 in
set_option maxHeartbeats 4000000 in
theorem bL_plans {X : Cx} {n0 : Nat} {q : II} {Po : PQ} {r : Int32 × AbS} (F : Fx X RL cL_plans 22 8 0 0) (hr : Fr X (some .boolean) Po 0 0) (post : ∀ (n' : Nat) (Ly : LL) (I : II) (P : PP), n' = n0 + 0 → Ac n' Ly I P r.2 → Po (some (.inl r.1)) n' Ly I P) {A : AbS} {x1 : Int32} {x2 : Int32} (h : hL_plans A x1 x2 = some r) : GA none X 22 0 0 n0 0 0 [some (.inr (some 0)), some (.inl x1), some (.inl x2), none, none, none, none, none, none, none, none, none, none, none, none, none, none, none, none, none, none, none] [] A q := by
  unfold hL_plans at h
  refine ga_aload_n F dL_plans_0 rfl ?_
  have h := bd_s h
  refine ga_call F dL_plans_1 (ac_clearText) lkL_44 okX8_clearText rfl rfl (Nat.le_of_ble_eq_true rfl) (by decide) (by decide) (by decide) ?_
  refine ga_pop F dL_plans_4 ?_
  refine ga_aload_n F dL_plans_5 rfl ?_
  refine ga_iconst (v := 2) F dL_plans_6 (by decide) ?_
  refine ga_call F dL_plans_7 (ac_count _) lkL_9 okX8_count rfl rfl (Nat.le_of_ble_eq_true rfl) (by decide) (by decide) (by decide) ?_
  refine ga_istore_n F dL_plans_10 (by decide) (by decide) ?_
  refine ga_aload_n F dL_plans_11 rfl ?_
  have h := bd_s h
  refine ga_call F dL_plans_12 (ac_run) lkL_48 okX8_run rfl rfl (Nat.le_of_ble_eq_true rfl) (by decide) (by decide) (by decide) ?_
  refine ga_bipush (v := (-100)) F dL_plans_15 (by decide) ?_
  refine ga_icmp_eq (tgt := 22) F dL_plans_17 (by decide) (fun c3 => ?_) (fun c3 => ?_)
  · have h := if_t c3 h
    refine ga_iload_n F dL_plans_22 rfl ?_
    refine ga_if_ne (tgt := 30) F dL_plans_23 (by decide) (fun c4 => ?_) (fun c4 => ?_)
    · have h := if_t c4 h
      refine ga_iload_n F dL_plans_30 rfl ?_
      refine ga_iload_n F dL_plans_31 rfl ?_
      obtain ⟨v5, hv5, h⟩ := bd_i h
      refine ga_callL0 F dL_plans_32 (al_low hv5) lkL_51 okL_low rfl (Nat.le_of_ble_eq_true rfl) (by decide) (by decide) (by decide) ?_
      exact GA.weak (by exact ⟨rfl, ⟨rfl, ⟨rfl, trivial⟩⟩⟩) (lL_plans_J35 F hr post h)
    · have h := if_f (not_not_intro c4) h
      refine ga_iconst (v := 0) F dL_plans_26 (by decide) ?_
      refine ga_goto (tgt := 35) F dL_plans_27 (by decide) ?_
      exact GA.weak (by exact ⟨rfl, ⟨rfl, ⟨rfl, trivial⟩⟩⟩) (lL_plans_J35 F hr post h)
  · have h := if_f c3 h
    refine ga_iconst (v := 0) F dL_plans_20 (by decide) ?_
    have h := Option.some.inj h
    subst h
    exact ga_iret F rfl hr dL_plans_21 rfl (by decide) (by decide) (fun Ly I P hA => post _ Ly I P rfl hA)
set_option maxRecDepth 100000 in
set_option maxHeartbeats 4000000 in
theorem al_plans {A : AbS} {r : Int32 × AbS} {x1 : Int32} {x2 : Int32} (h : hL_plans A x1 x2 = some r) : AL mL_plans [.inr (some 0), .inl x1, .inl x2] 0 0 A r.1 r.2   := al_of (by decide +kernel) (Nat.le_of_ble_eq_true rfl) (by decide) (fun X n q Po F hr post => bL_plans F hr post h)
-- until
noncomputable def hL_until (A : AbS) (x1 : Int32) : Option (Int32 × AbS) := (if x1 < (qCount A 5) then (if 0 ≤ (qUntil A x1) then (if (qUntil A x1) ≤ 50 then (some (aRounds A (qUntil A x1))).bind fun v4 => (if ¬ v4.1 = (qCount v4.2 5) then some (0, v4.2) else (if x1 < v4.1 then some (0, v4.2) else (some (aUndo v4.2)).bind fun v7 => (if v7.1 < 0 then some (0, v7.2) else (if (qCount v7.2 5) = (qCount A 5) then (if (qUntil A x1) < 2 then some (1, v7.2) else (some (aRounds v7.2 ((qUntil A x1) - 1))).bind fun v11 => (if v11.1 ≤ x1 then some (0, v11.2) else (some (aUndo v11.2)).bind fun v13 => (if v13.1 < 0 then some (0, v13.2) else some (1, v13.2)))) else some (0, v7.2))))) else (if 200 < (qUntil A x1) then some (0, A) else (if (qCount A 2) ≤ 0 then some (0, A) else some (1, A)))) else (if ¬ (qUntil A x1) = (-5) then some (0, A) else some (1, A))) else (if ¬ (qUntil A x1) = 0 then some (0, A) else some (1, A)))
set_option maxRecDepth 100000 in
set_option maxHeartbeats 4000000 in
theorem bL_until {X : Cx} {n0 : Nat} {q : II} {Po : PQ} {r : Int32 × AbS} (F : Fx X RL cL_until 5 8 0 0) (hr : Fr X (some .boolean) Po 0 0) (post : ∀ (n' : Nat) (Ly : LL) (I : II) (P : PP), n' = n0 + 0 → Ac n' Ly I P r.2 → Po (some (.inl r.1)) n' Ly I P) {A : AbS} {x1 : Int32} (h : hL_until A x1 = some r) : GA none X 5 0 0 n0 0 0 [some (.inr (some 0)), some (.inl x1), none, none, none] [] A q := by
  unfold hL_until at h
  refine ga_aload_n F dL_until_0 rfl ?_
  refine ga_iconst (v := 5) F dL_until_1 (by decide) ?_
  refine ga_call F dL_until_2 (ac_count _) lkL_9 okX8_count rfl rfl (Nat.le_of_ble_eq_true rfl) (by decide) (by decide) (by decide) ?_
  refine ga_istore_n F dL_until_5 (by decide) (by decide) ?_
  refine ga_aload_n F dL_until_6 rfl ?_
  refine ga_iload_n F dL_until_7 rfl ?_
  refine ga_call F dL_until_8 (ac_roundsUntil _) lkL_61 okX8_roundsUntil rfl rfl (Nat.le_of_ble_eq_true rfl) (by decide) (by decide) (by decide) ?_
  refine ga_istore_n F dL_until_11 (by decide) (by decide) ?_
  refine ga_iload_n F dL_until_12 rfl ?_
  refine ga_iload_n F dL_until_13 rfl ?_
  refine ga_icmp_gt (tgt := 27) F dL_until_14 (by decide) (fun c1 => ?_) (fun c1 => ?_)
  · have h := if_t c1 h
    refine ga_iload_n F dL_until_27 rfl ?_
    refine ga_if_ge (tgt := 43) F dL_until_28 (by decide) (fun c2 => ?_) (fun c2 => ?_)
    · have h := if_t c2 h
      refine ga_iload_n F dL_until_43 rfl ?_
      refine ga_bipush (v := 50) F dL_until_44 (by decide) ?_
      refine ga_icmp_le (tgt := 70) F dL_until_46 (by decide) (fun c3 => ?_) (fun c3 => ?_)
      · have h := if_t c3 h
        refine ga_aload_n F dL_until_70 rfl ?_
        refine ga_iload_n F dL_until_71 rfl ?_
        have h := bd_s h
        refine ga_call F dL_until_72 (ac_rounds _) lkL_64 okX8_rounds rfl rfl (Nat.le_of_ble_eq_true rfl) (by decide) (by decide) (by decide) ?_
        refine ga_istore F dL_until_75 (by decide) (by decide) ?_
        refine ga_iload F dL_until_77 rfl ?_
        refine ga_aload_n F dL_until_79 rfl ?_
        refine ga_iconst (v := 5) F dL_until_80 (by decide) ?_
        refine ga_call F dL_until_81 (ac_count _) lkL_9 okX8_count rfl rfl (Nat.le_of_ble_eq_true rfl) (by decide) (by decide) (by decide) ?_
        refine ga_icmp_ne (tgt := 109) F dL_until_84 (by decide) (fun c5 => ?_) (fun c5 => ?_)
        · have h := if_t c5 h
          refine ga_iconst (v := 0) F dL_until_109 (by decide) ?_
          have h := Option.some.inj h
          subst h
          exact ga_iret F rfl hr dL_until_110 rfl (by decide) (by decide) (fun Ly I P hA => post _ Ly I P rfl hA)
        · have h := if_f (not_not_intro c5) h
          refine ga_iload F dL_until_87 rfl ?_
          refine ga_iload_n F dL_until_89 rfl ?_
          refine ga_icmp_gt (tgt := 109) F dL_until_90 (by decide) (fun c6 => ?_) (fun c6 => ?_)
          · have h := if_t c6 h
            refine ga_iconst (v := 0) F dL_until_109 (by decide) ?_
            have h := Option.some.inj h
            subst h
            exact ga_iret F rfl hr dL_until_110 rfl (by decide) (by decide) (fun Ly I P hA => post _ Ly I P rfl hA)
          · have h := if_f c6 h
            refine ga_aload_n F dL_until_93 rfl ?_
            have h := bd_s h
            refine ga_call F dL_until_94 (ac_undo) lkL_58 okX8_undo rfl rfl (Nat.le_of_ble_eq_true rfl) (by decide) (by decide) (by decide) ?_
            refine ga_if_lt (tgt := 109) F dL_until_97 (by decide) (fun c8 => ?_) (fun c8 => ?_)
            · have h := if_t c8 h
              refine ga_iconst (v := 0) F dL_until_109 (by decide) ?_
              have h := Option.some.inj h
              subst h
              exact ga_iret F rfl hr dL_until_110 rfl (by decide) (by decide) (fun Ly I P hA => post _ Ly I P rfl hA)
            · have h := if_f c8 h
              refine ga_aload_n F dL_until_100 rfl ?_
              refine ga_iconst (v := 5) F dL_until_101 (by decide) ?_
              refine ga_call F dL_until_102 (ac_count _) lkL_9 okX8_count rfl rfl (Nat.le_of_ble_eq_true rfl) (by decide) (by decide) (by decide) ?_
              refine ga_iload_n F dL_until_105 rfl ?_
              refine ga_icmp_eq (tgt := 111) F dL_until_106 (by decide) (fun c9 => ?_) (fun c9 => ?_)
              · have h := if_t c9 h
                refine ga_iload_n F dL_until_111 rfl ?_
                refine ga_iconst (v := 2) F dL_until_112 (by decide) ?_
                refine ga_icmp_lt (tgt := 134) F dL_until_113 (by decide) (fun c10 => ?_) (fun c10 => ?_)
                · have h := if_t c10 h
                  refine ga_iconst (v := 1) F dL_until_134 (by decide) ?_
                  refine ga_goto (tgt := 139) F dL_until_135 (by decide) ?_
                  have h := Option.some.inj h
                  subst h
                  exact ga_iret F rfl hr dL_until_139 rfl (by decide) (by decide) (fun Ly I P hA => post _ Ly I P rfl hA)
                · have h := if_f c10 h
                  refine ga_aload_n F dL_until_116 rfl ?_
                  refine ga_iload_n F dL_until_117 rfl ?_
                  refine ga_iconst (v := 1) F dL_until_118 (by decide) ?_
                  refine ga_isub F dL_until_119 ?_
                  have h := bd_s h
                  refine ga_call F dL_until_120 (ac_rounds _) lkL_64 okX8_rounds rfl rfl (Nat.le_of_ble_eq_true rfl) (by decide) (by decide) (by decide) ?_
                  refine ga_iload_n F dL_until_123 rfl ?_
                  refine ga_icmp_le (tgt := 138) F dL_until_124 (by decide) (fun c12 => ?_) (fun c12 => ?_)
                  · have h := if_t c12 h
                    refine ga_iconst (v := 0) F dL_until_138 (by decide) ?_
                    have h := Option.some.inj h
                    subst h
                    exact ga_iret F rfl hr dL_until_139 rfl (by decide) (by decide) (fun Ly I P hA => post _ Ly I P rfl hA)
                  · have h := if_f c12 h
                    refine ga_aload_n F dL_until_127 rfl ?_
                    have h := bd_s h
                    refine ga_call F dL_until_128 (ac_undo) lkL_58 okX8_undo rfl rfl (Nat.le_of_ble_eq_true rfl) (by decide) (by decide) (by decide) ?_
                    refine ga_if_lt (tgt := 138) F dL_until_131 (by decide) (fun c14 => ?_) (fun c14 => ?_)
                    · have h := if_t c14 h
                      refine ga_iconst (v := 0) F dL_until_138 (by decide) ?_
                      have h := Option.some.inj h
                      subst h
                      exact ga_iret F rfl hr dL_until_139 rfl (by decide) (by decide) (fun Ly I P hA => post _ Ly I P rfl hA)
                    · have h := if_f c14 h
                      refine ga_iconst (v := 1) F dL_until_134 (by decide) ?_
                      refine ga_goto (tgt := 139) F dL_until_135 (by decide) ?_
                      have h := Option.some.inj h
                      subst h
                      exact ga_iret F rfl hr dL_until_139 rfl (by decide) (by decide) (fun Ly I P hA => post _ Ly I P rfl hA)
              · have h := if_f c9 h
                refine ga_iconst (v := 0) F dL_until_109 (by decide) ?_
                have h := Option.some.inj h
                subst h
                exact ga_iret F rfl hr dL_until_110 rfl (by decide) (by decide) (fun Ly I P hA => post _ Ly I P rfl hA)
      · have h := if_f c3 h
        refine ga_iload_n F dL_until_49 rfl ?_
        refine ga_sipush (v := 200) F dL_until_50 (by decide) ?_
        refine ga_icmp_gt (tgt := 68) F dL_until_53 (by decide) (fun c15 => ?_) (fun c15 => ?_)
        · have h := if_t c15 h
          refine ga_iconst (v := 0) F dL_until_68 (by decide) ?_
          have h := Option.some.inj h
          subst h
          exact ga_iret F rfl hr dL_until_69 rfl (by decide) (by decide) (fun Ly I P hA => post _ Ly I P rfl hA)
        · have h := if_f c15 h
          refine ga_aload_n F dL_until_56 rfl ?_
          refine ga_iconst (v := 2) F dL_until_57 (by decide) ?_
          refine ga_call F dL_until_58 (ac_count _) lkL_9 okX8_count rfl rfl (Nat.le_of_ble_eq_true rfl) (by decide) (by decide) (by decide) ?_
          refine ga_if_le (tgt := 68) F dL_until_61 (by decide) (fun c16 => ?_) (fun c16 => ?_)
          · have h := if_t c16 h
            refine ga_iconst (v := 0) F dL_until_68 (by decide) ?_
            have h := Option.some.inj h
            subst h
            exact ga_iret F rfl hr dL_until_69 rfl (by decide) (by decide) (fun Ly I P hA => post _ Ly I P rfl hA)
          · have h := if_f c16 h
            refine ga_iconst (v := 1) F dL_until_64 (by decide) ?_
            refine ga_goto (tgt := 69) F dL_until_65 (by decide) ?_
            have h := Option.some.inj h
            subst h
            exact ga_iret F rfl hr dL_until_69 rfl (by decide) (by decide) (fun Ly I P hA => post _ Ly I P rfl hA)
    · have h := if_f c2 h
      refine ga_iload_n F dL_until_31 rfl ?_
      refine ga_bipush (v := (-5)) F dL_until_32 (by decide) ?_
      refine ga_icmp_ne (tgt := 41) F dL_until_34 (by decide) (fun c17 => ?_) (fun c17 => ?_)
      · have h := if_t c17 h
        refine ga_iconst (v := 0) F dL_until_41 (by decide) ?_
        have h := Option.some.inj h
        subst h
        exact ga_iret F rfl hr dL_until_42 rfl (by decide) (by decide) (fun Ly I P hA => post _ Ly I P rfl hA)
      · have h := if_f (not_not_intro c17) h
        refine ga_iconst (v := 1) F dL_until_37 (by decide) ?_
        refine ga_goto (tgt := 42) F dL_until_38 (by decide) ?_
        have h := Option.some.inj h
        subst h
        exact ga_iret F rfl hr dL_until_42 rfl (by decide) (by decide) (fun Ly I P hA => post _ Ly I P rfl hA)
  · have h := if_f c1 h
    refine ga_iload_n F dL_until_17 rfl ?_
    refine ga_if_ne (tgt := 25) F dL_until_18 (by decide) (fun c18 => ?_) (fun c18 => ?_)
    · have h := if_t c18 h
      refine ga_iconst (v := 0) F dL_until_25 (by decide) ?_
      have h := Option.some.inj h
      subst h
      exact ga_iret F rfl hr dL_until_26 rfl (by decide) (by decide) (fun Ly I P hA => post _ Ly I P rfl hA)
    · have h := if_f (not_not_intro c18) h
      refine ga_iconst (v := 1) F dL_until_21 (by decide) ?_
      refine ga_goto (tgt := 26) F dL_until_22 (by decide) ?_
      have h := Option.some.inj h
      subst h
      exact ga_iret F rfl hr dL_until_26 rfl (by decide) (by decide) (fun Ly I P hA => post _ Ly I P rfl hA)
set_option maxRecDepth 100000 in
set_option maxHeartbeats 4000000 in
theorem al_until {A : AbS} {r : Int32 × AbS} {x1 : Int32} (h : hL_until A x1 = some r) : AL mL_until [.inr (some 0), .inl x1] 0 0 A r.1 r.2   := al_of (by decide +kernel) (Nat.le_of_ble_eq_true rfl) (by decide) (fun X n q Po F hr post => bL_until F hr post h)
-- errors
noncomputable def hL_errors_J179 (A : AbS) (x1 : Int32) (x2 : Int32) (s0 : Int32) : Option (Int32 × AbS) := (if s0 = 0 then some (0, A) else (some (aEmpty A x2)).bind fun v4 => (if ¬ v4.1 = (-1) then some (0, v4.2) else (some (aAddTurn v4.2 10)).bind fun v6 => (if ¬ v6.1 = (-2) then some (0, v6.2) else (some (aWalk v6.2 x2 1)).bind fun v8 => (if ¬ v8.1 = (-1) then some (0, v8.2) else (some (aRounds v8.2 0)).bind fun v10 => (if ¬ v10.1 = (-2) then some (0, v10.2) else (some (aRounds v10.2 51)).bind fun v12 => (if ¬ v12.1 = (-2) then some (0, v12.2) else (if ¬ (qChips v12.2 x1 0) = (-1) then some (0, v12.2) else (if ¬ (qHeapOf v12.2 (-1) 0) = (-1) then some (0, v12.2) else (if ¬ (qUntil v12.2 257) = (-2) then some (0, v12.2) else some (1, v12.2))))))))))
noncomputable def hL_errors_J178 (A : AbS) (x1 : Int32) (x2 : Int32) : Option (Int32 × AbS) := hL_errors_J179 A x1 x2 0
noncomputable def hL_errors (A : AbS)  : Option (Int32 × AbS) := (some (aReset A 1 5)).bind fun v1 => (if ¬ v1.1 = (-2) then hL_errors_J178 v1.2 (qCount A 0) (qCount A 2) else (some (aReset v1.2 5 17)).bind fun v17 => (if ¬ v17.1 = (-2) then hL_errors_J178 v17.2 (qCount A 0) (qCount A 2) else (some (aPut v17.2 (qCount A 0) 0 0)).bind fun v19 => (if ¬ v19.1 = (-1) then hL_errors_J178 v19.2 (qCount A 0) (qCount A 2) else (some (aPut v19.2 0 (-1) 0)).bind fun v21 => (if ¬ v21.1 = (-1) then hL_errors_J178 v21.2 (qCount A 0) (qCount A 2) else (some (aPut v21.2 0 0 100)).bind fun v23 => (if ¬ v23.1 = (-2) then hL_errors_J178 v23.2 (qCount A 0) (qCount A 2) else (some (aStrew v23.2 10 0 1)).bind fun v25 => (if ¬ v25.1 = (-2) then hL_errors_J178 v25.2 (qCount A 0) (qCount A 2) else (some (aStrew v25.2 0 0 21)).bind fun v27 => (if ¬ v27.1 = (-2) then hL_errors_J178 v27.2 (qCount A 0) (qCount A 2) else (some (aStrew v27.2 0 0 0)).bind fun v29 => (if ¬ v29.1 = (-2) then hL_errors_J178 v29.2 (qCount A 0) (qCount A 2) else (some (aAddWalker v29.2 (qCount A 0) 0 0 0 1)).bind fun v31 => (if ¬ v31.1 = (-1) then hL_errors_J178 v31.2 (qCount A 0) (qCount A 2) else (some (aAddWalker v31.2 0 0 4 0 1)).bind fun v33 => (if ¬ v33.1 = (-2) then hL_errors_J178 v33.2 (qCount A 0) (qCount A 2) else (some (aAddWalker v33.2 0 0 0 3 1)).bind fun v35 => (if ¬ v35.1 = (-2) then hL_errors_J178 v35.2 (qCount A 0) (qCount A 2) else (some (aAddWalker v35.2 0 0 0 0 10)).bind fun v37 => (if ¬ v37.1 = (-2) then hL_errors_J178 v37.2 (qCount A 0) (qCount A 2) else (some (aSetSort v37.2 (qCount A 2) 0)).bind fun v39 => (if ¬ v39.1 = (-1) then hL_errors_J178 v39.2 (qCount A 0) (qCount A 2) else hL_errors_J179 v39.2 (qCount A 0) (qCount A 2) 1)))))))))))))
set_option maxRecDepth 100000 in
set_option maxHeartbeats 4000000 in
theorem lL_errors_J179 {X : Cx} {n0 : Nat} {q : II} {Po : PQ} {r : Int32 × AbS} (F : Fx X RL cL_errors 4 8 0 0) (hr : Fr X (some .boolean) Po 0 0) (post : ∀ (n' : Nat) (Ly : LL) (I : II) (P : PP), n' = n0 + 0 → Ac n' Ly I P r.2 → Po (some (.inl r.1)) n' Ly I P) {A : AbS} {x1 : Int32} {x2 : Int32} {s0 : Int32} (h : hL_errors_J179 A x1 x2 s0 = some r) : GA none X 4 0 0 n0 0 179 [some (.inr (some 0)), some (.inl x1), some (.inl x2), none] [.inl s0] A q := by
  unfold hL_errors_J179 at h
  refine ga_istore_n F dL_errors_179 (by decide) (by decide) ?_
  refine ga_iload_n F dL_errors_180 rfl ?_
  refine ga_if_eq (tgt := 289) F dL_errors_181 (by decide) (fun c3 => ?_) (fun c3 => ?_)
  · have h := if_t c3 h
    refine ga_iconst (v := 0) F dL_errors_289 (by decide) ?_
    have h := Option.some.inj h
    subst h
    exact ga_iret F rfl hr dL_errors_290 rfl (by decide) (by decide) (fun Ly I P hA => post _ Ly I P rfl hA)
  · have h := if_f c3 h
    refine ga_aload_n F dL_errors_184 rfl ?_
    refine ga_iload_n F dL_errors_185 rfl ?_
    have h := bd_s h
    refine ga_call F dL_errors_186 (ac_empty _) lkL_84 okX8_empty rfl rfl (Nat.le_of_ble_eq_true rfl) (by decide) (by decide) (by decide) ?_
    refine ga_iconst (v := (-1)) F dL_errors_189 (by decide) ?_
    refine ga_icmp_ne (tgt := 289) F dL_errors_190 (by decide) (fun c5 => ?_) (fun c5 => ?_)
    · have h := if_t c5 h
      refine ga_iconst (v := 0) F dL_errors_289 (by decide) ?_
      have h := Option.some.inj h
      subst h
      exact ga_iret F rfl hr dL_errors_290 rfl (by decide) (by decide) (fun Ly I P hA => post _ Ly I P rfl hA)
    · have h := if_f (not_not_intro c5) h
      refine ga_aload_n F dL_errors_193 rfl ?_
      refine ga_bipush (v := 10) F dL_errors_194 (by decide) ?_
      have h := bd_s h
      refine ga_call F dL_errors_196 (ac_addTurn _) lkL_87 okX8_addTurn rfl rfl (Nat.le_of_ble_eq_true rfl) (by decide) (by decide) (by decide) ?_
      refine ga_bipush (v := (-2)) F dL_errors_199 (by decide) ?_
      refine ga_icmp_ne (tgt := 289) F dL_errors_201 (by decide) (fun c7 => ?_) (fun c7 => ?_)
      · have h := if_t c7 h
        refine ga_iconst (v := 0) F dL_errors_289 (by decide) ?_
        have h := Option.some.inj h
        subst h
        exact ga_iret F rfl hr dL_errors_290 rfl (by decide) (by decide) (fun Ly I P hA => post _ Ly I P rfl hA)
      · have h := if_f (not_not_intro c7) h
        refine ga_aload_n F dL_errors_204 rfl ?_
        refine ga_iload_n F dL_errors_205 rfl ?_
        refine ga_iconst (v := 1) F dL_errors_206 (by decide) ?_
        have h := bd_s h
        refine ga_call F dL_errors_207 (ac_walk _ _) lkL_41 okX8_walk rfl rfl (Nat.le_of_ble_eq_true rfl) (by decide) (by decide) (by decide) ?_
        refine ga_iconst (v := (-1)) F dL_errors_210 (by decide) ?_
        refine ga_icmp_ne (tgt := 289) F dL_errors_211 (by decide) (fun c9 => ?_) (fun c9 => ?_)
        · have h := if_t c9 h
          refine ga_iconst (v := 0) F dL_errors_289 (by decide) ?_
          have h := Option.some.inj h
          subst h
          exact ga_iret F rfl hr dL_errors_290 rfl (by decide) (by decide) (fun Ly I P hA => post _ Ly I P rfl hA)
        · have h := if_f (not_not_intro c9) h
          refine ga_aload_n F dL_errors_214 rfl ?_
          refine ga_iconst (v := 0) F dL_errors_215 (by decide) ?_
          have h := bd_s h
          refine ga_call F dL_errors_216 (ac_rounds _) lkL_64 okX8_rounds rfl rfl (Nat.le_of_ble_eq_true rfl) (by decide) (by decide) (by decide) ?_
          refine ga_bipush (v := (-2)) F dL_errors_219 (by decide) ?_
          refine ga_icmp_ne (tgt := 289) F dL_errors_221 (by decide) (fun c11 => ?_) (fun c11 => ?_)
          · have h := if_t c11 h
            refine ga_iconst (v := 0) F dL_errors_289 (by decide) ?_
            have h := Option.some.inj h
            subst h
            exact ga_iret F rfl hr dL_errors_290 rfl (by decide) (by decide) (fun Ly I P hA => post _ Ly I P rfl hA)
          · have h := if_f (not_not_intro c11) h
            refine ga_aload_n F dL_errors_224 rfl ?_
            refine ga_bipush (v := 51) F dL_errors_225 (by decide) ?_
            have h := bd_s h
            refine ga_call F dL_errors_227 (ac_rounds _) lkL_64 okX8_rounds rfl rfl (Nat.le_of_ble_eq_true rfl) (by decide) (by decide) (by decide) ?_
            refine ga_bipush (v := (-2)) F dL_errors_230 (by decide) ?_
            refine ga_icmp_ne (tgt := 289) F dL_errors_232 (by decide) (fun c13 => ?_) (fun c13 => ?_)
            · have h := if_t c13 h
              refine ga_iconst (v := 0) F dL_errors_289 (by decide) ?_
              have h := Option.some.inj h
              subst h
              exact ga_iret F rfl hr dL_errors_290 rfl (by decide) (by decide) (fun Ly I P hA => post _ Ly I P rfl hA)
            · have h := if_f (not_not_intro c13) h
              refine ga_aload_n F dL_errors_235 rfl ?_
              refine ga_iload_n F dL_errors_236 rfl ?_
              refine ga_iconst (v := 0) F dL_errors_237 (by decide) ?_
              refine ga_call F dL_errors_238 (ac_chips _ _) lkL_15 okX8_chips rfl rfl (Nat.le_of_ble_eq_true rfl) (by decide) (by decide) (by decide) ?_
              refine ga_iconst (v := (-1)) F dL_errors_241 (by decide) ?_
              refine ga_icmp_ne (tgt := 289) F dL_errors_242 (by decide) (fun c14 => ?_) (fun c14 => ?_)
              · have h := if_t c14 h
                refine ga_iconst (v := 0) F dL_errors_289 (by decide) ?_
                have h := Option.some.inj h
                subst h
                exact ga_iret F rfl hr dL_errors_290 rfl (by decide) (by decide) (fun Ly I P hA => post _ Ly I P rfl hA)
              · have h := if_f (not_not_intro c14) h
                refine ga_aload_n F dL_errors_245 rfl ?_
                refine ga_iconst (v := (-1)) F dL_errors_246 (by decide) ?_
                refine ga_iconst (v := 0) F dL_errors_247 (by decide) ?_
                refine ga_call F dL_errors_248 (ac_heapOf _ _) lkL_19 okX8_heapOf rfl rfl (Nat.le_of_ble_eq_true rfl) (by decide) (by decide) (by decide) ?_
                refine ga_iconst (v := (-1)) F dL_errors_251 (by decide) ?_
                refine ga_icmp_ne (tgt := 289) F dL_errors_252 (by decide) (fun c15 => ?_) (fun c15 => ?_)
                · have h := if_t c15 h
                  refine ga_iconst (v := 0) F dL_errors_289 (by decide) ?_
                  have h := Option.some.inj h
                  subst h
                  exact ga_iret F rfl hr dL_errors_290 rfl (by decide) (by decide) (fun Ly I P hA => post _ Ly I P rfl hA)
                · have h := if_f (not_not_intro c15) h
                  refine ga_aload_n F dL_errors_255 rfl ?_
                  refine ga_sipush (v := 257) F dL_errors_256 (by decide) ?_
                  refine ga_call F dL_errors_259 (ac_roundsUntil _) lkL_61 okX8_roundsUntil rfl rfl (Nat.le_of_ble_eq_true rfl) (by decide) (by decide) (by decide) ?_
                  refine ga_bipush (v := (-2)) F dL_errors_262 (by decide) ?_
                  refine ga_icmp_ne (tgt := 289) F dL_errors_264 (by decide) (fun c16 => ?_) (fun c16 => ?_)
                  · have h := if_t c16 h
                    refine ga_iconst (v := 0) F dL_errors_289 (by decide) ?_
                    have h := Option.some.inj h
                    subst h
                    exact ga_iret F rfl hr dL_errors_290 rfl (by decide) (by decide) (fun Ly I P hA => post _ Ly I P rfl hA)
                  · have h := if_f (not_not_intro c16) h
                    refine ga_aload_n F dL_errors_267 rfl ?_
                    refine ga_iconst (v := 2) F dL_errors_268 (by decide) ?_
                    refine ga_call F dL_errors_269 ac_keep lkL_90 okX8_keep rfl rfl (Nat.le_of_ble_eq_true rfl) (by decide) (by decide) (by decide) ?_
                    refine ga_iconst (v := (-1)) F dL_errors_272 (by decide) ?_
                    refine ga_icmp_ne (tgt := 289) F dL_errors_273 (by decide) (fun q => absurd q (by decide)) (fun _ => ?_)
                    refine ga_aload_n F dL_errors_276 rfl ?_
                    refine ga_iconst (v := 2) F dL_errors_277 (by decide) ?_
                    refine ga_call F dL_errors_278 ac_restore lkL_93 okX8_restore rfl rfl (Nat.le_of_ble_eq_true rfl) (by decide) (by decide) (by decide) ?_
                    refine ga_iconst (v := (-1)) F dL_errors_281 (by decide) ?_
                    refine ga_icmp_ne (tgt := 289) F dL_errors_282 (by decide) (fun q => absurd q (by decide)) (fun _ => ?_)
                    refine ga_iconst (v := 1) F dL_errors_285 (by decide) ?_
                    refine ga_goto (tgt := 290) F dL_errors_286 (by decide) ?_
                    have h := Option.some.inj h
                    subst h
                    exact ga_iret F rfl hr dL_errors_290 rfl (by decide) (by decide) (fun Ly I P hA => post _ Ly I P rfl hA)
set_option maxRecDepth 100000 in
set_option maxHeartbeats 4000000 in
theorem lL_errors_J178 {X : Cx} {n0 : Nat} {q : II} {Po : PQ} {r : Int32 × AbS} (F : Fx X RL cL_errors 4 8 0 0) (hr : Fr X (some .boolean) Po 0 0) (post : ∀ (n' : Nat) (Ly : LL) (I : II) (P : PP), n' = n0 + 0 → Ac n' Ly I P r.2 → Po (some (.inl r.1)) n' Ly I P) {A : AbS} {x1 : Int32} {x2 : Int32} (h : hL_errors_J178 A x1 x2 = some r) : GA none X 4 0 0 n0 0 178 [some (.inr (some 0)), some (.inl x1), some (.inl x2), none] [] A q := by
  unfold hL_errors_J178 at h
  refine ga_iconst (v := 0) F dL_errors_178 (by decide) ?_
  exact GA.weak (by exact ⟨rfl, ⟨rfl, ⟨rfl, trivial⟩⟩⟩) (lL_errors_J179 F hr post h)
set_option maxRecDepth 100000 in
set_option maxHeartbeats 4000000 in
theorem bL_errors {X : Cx} {n0 : Nat} {q : II} {Po : PQ} {r : Int32 × AbS} (F : Fx X RL cL_errors 4 8 0 0) (hr : Fr X (some .boolean) Po 0 0) (post : ∀ (n' : Nat) (Ly : LL) (I : II) (P : PP), n' = n0 + 0 → Ac n' Ly I P r.2 → Po (some (.inl r.1)) n' Ly I P) {A : AbS}  (h : hL_errors A = some r) : GA none X 4 0 0 n0 0 0 [some (.inr (some 0)), none, none, none] [] A q := by
  unfold hL_errors at h
  refine ga_aload_n F dL_errors_0 rfl ?_
  refine ga_iconst (v := 0) F dL_errors_1 (by decide) ?_
  refine ga_call F dL_errors_2 (ac_count _) lkL_9 okX8_count rfl rfl (Nat.le_of_ble_eq_true rfl) (by decide) (by decide) (by decide) ?_
  refine ga_istore_n F dL_errors_5 (by decide) (by decide) ?_
  refine ga_aload_n F dL_errors_6 rfl ?_
  refine ga_iconst (v := 2) F dL_errors_7 (by decide) ?_
  refine ga_call F dL_errors_8 (ac_count _) lkL_9 okX8_count rfl rfl (Nat.le_of_ble_eq_true rfl) (by decide) (by decide) (by decide) ?_
  refine ga_istore_n F dL_errors_11 (by decide) (by decide) ?_
  refine ga_aload_n F dL_errors_12 rfl ?_
  refine ga_iconst (v := 1) F dL_errors_13 (by decide) ?_
  refine ga_iconst (v := 5) F dL_errors_14 (by decide) ?_
  have h := bd_s h
  refine ga_call F dL_errors_15 (ac_reset _ _) lkL_67 okX8_reset rfl rfl (Nat.le_of_ble_eq_true rfl) (by decide) (by decide) (by decide) ?_
  refine ga_bipush (v := (-2)) F dL_errors_18 (by decide) ?_
  refine ga_icmp_ne (tgt := 178) F dL_errors_20 (by decide) (fun c2 => ?_) (fun c2 => ?_)
  · have h := if_t c2 h
    exact GA.weak (by exact ⟨rfl, ⟨rfl, ⟨rfl, trivial⟩⟩⟩) (lL_errors_J178 F hr post h)
  · have h := if_f (not_not_intro c2) h
    refine ga_aload_n F dL_errors_23 rfl ?_
    refine ga_iconst (v := 5) F dL_errors_24 (by decide) ?_
    refine ga_bipush (v := 17) F dL_errors_25 (by decide) ?_
    have h := bd_s h
    refine ga_call F dL_errors_27 (ac_reset _ _) lkL_67 okX8_reset rfl rfl (Nat.le_of_ble_eq_true rfl) (by decide) (by decide) (by decide) ?_
    refine ga_bipush (v := (-2)) F dL_errors_30 (by decide) ?_
    refine ga_icmp_ne (tgt := 178) F dL_errors_32 (by decide) (fun c18 => ?_) (fun c18 => ?_)
    · have h := if_t c18 h
      exact GA.weak (by exact ⟨rfl, ⟨rfl, ⟨rfl, trivial⟩⟩⟩) (lL_errors_J178 F hr post h)
    · have h := if_f (not_not_intro c18) h
      refine ga_aload_n F dL_errors_35 rfl ?_
      refine ga_iload_n F dL_errors_36 rfl ?_
      refine ga_iconst (v := 0) F dL_errors_37 (by decide) ?_
      refine ga_iconst (v := 0) F dL_errors_38 (by decide) ?_
      have h := bd_s h
      refine ga_call F dL_errors_39 (ac_put _ _ _) lkL_70 okX8_put rfl rfl (Nat.le_of_ble_eq_true rfl) (by decide) (by decide) (by decide) ?_
      refine ga_iconst (v := (-1)) F dL_errors_42 (by decide) ?_
      refine ga_icmp_ne (tgt := 178) F dL_errors_43 (by decide) (fun c20 => ?_) (fun c20 => ?_)
      · have h := if_t c20 h
        exact GA.weak (by exact ⟨rfl, ⟨rfl, ⟨rfl, trivial⟩⟩⟩) (lL_errors_J178 F hr post h)
      · have h := if_f (not_not_intro c20) h
        refine ga_aload_n F dL_errors_46 rfl ?_
        refine ga_iconst (v := 0) F dL_errors_47 (by decide) ?_
        refine ga_iconst (v := (-1)) F dL_errors_48 (by decide) ?_
        refine ga_iconst (v := 0) F dL_errors_49 (by decide) ?_
        have h := bd_s h
        refine ga_call F dL_errors_50 (ac_put _ _ _) lkL_70 okX8_put rfl rfl (Nat.le_of_ble_eq_true rfl) (by decide) (by decide) (by decide) ?_
        refine ga_iconst (v := (-1)) F dL_errors_53 (by decide) ?_
        refine ga_icmp_ne (tgt := 178) F dL_errors_54 (by decide) (fun c22 => ?_) (fun c22 => ?_)
        · have h := if_t c22 h
          exact GA.weak (by exact ⟨rfl, ⟨rfl, ⟨rfl, trivial⟩⟩⟩) (lL_errors_J178 F hr post h)
        · have h := if_f (not_not_intro c22) h
          refine ga_aload_n F dL_errors_57 rfl ?_
          refine ga_iconst (v := 0) F dL_errors_58 (by decide) ?_
          refine ga_iconst (v := 0) F dL_errors_59 (by decide) ?_
          refine ga_bipush (v := 100) F dL_errors_60 (by decide) ?_
          have h := bd_s h
          refine ga_call F dL_errors_62 (ac_put _ _ _) lkL_70 okX8_put rfl rfl (Nat.le_of_ble_eq_true rfl) (by decide) (by decide) (by decide) ?_
          refine ga_bipush (v := (-2)) F dL_errors_65 (by decide) ?_
          refine ga_icmp_ne (tgt := 178) F dL_errors_67 (by decide) (fun c24 => ?_) (fun c24 => ?_)
          · have h := if_t c24 h
            exact GA.weak (by exact ⟨rfl, ⟨rfl, ⟨rfl, trivial⟩⟩⟩) (lL_errors_J178 F hr post h)
          · have h := if_f (not_not_intro c24) h
            refine ga_aload_n F dL_errors_70 rfl ?_
            refine ga_bipush (v := 10) F dL_errors_71 (by decide) ?_
            refine ga_iconst (v := 0) F dL_errors_73 (by decide) ?_
            refine ga_iconst (v := 1) F dL_errors_74 (by decide) ?_
            have h := bd_s h
            refine ga_call F dL_errors_75 (ac_strew _ _ _) lkL_74 okX8_strew rfl rfl (Nat.le_of_ble_eq_true rfl) (by decide) (by decide) (by decide) ?_
            refine ga_bipush (v := (-2)) F dL_errors_78 (by decide) ?_
            refine ga_icmp_ne (tgt := 178) F dL_errors_80 (by decide) (fun c26 => ?_) (fun c26 => ?_)
            · have h := if_t c26 h
              exact GA.weak (by exact ⟨rfl, ⟨rfl, ⟨rfl, trivial⟩⟩⟩) (lL_errors_J178 F hr post h)
            · have h := if_f (not_not_intro c26) h
              refine ga_aload_n F dL_errors_83 rfl ?_
              refine ga_iconst (v := 0) F dL_errors_84 (by decide) ?_
              refine ga_iconst (v := 0) F dL_errors_85 (by decide) ?_
              refine ga_bipush (v := 21) F dL_errors_86 (by decide) ?_
              have h := bd_s h
              refine ga_call F dL_errors_88 (ac_strew _ _ _) lkL_74 okX8_strew rfl rfl (Nat.le_of_ble_eq_true rfl) (by decide) (by decide) (by decide) ?_
              refine ga_bipush (v := (-2)) F dL_errors_91 (by decide) ?_
              refine ga_icmp_ne (tgt := 178) F dL_errors_93 (by decide) (fun c28 => ?_) (fun c28 => ?_)
              · have h := if_t c28 h
                exact GA.weak (by exact ⟨rfl, ⟨rfl, ⟨rfl, trivial⟩⟩⟩) (lL_errors_J178 F hr post h)
              · have h := if_f (not_not_intro c28) h
                refine ga_aload_n F dL_errors_96 rfl ?_
                refine ga_iconst (v := 0) F dL_errors_97 (by decide) ?_
                refine ga_iconst (v := 0) F dL_errors_98 (by decide) ?_
                refine ga_iconst (v := 0) F dL_errors_99 (by decide) ?_
                have h := bd_s h
                refine ga_call F dL_errors_100 (ac_strew _ _ _) lkL_74 okX8_strew rfl rfl (Nat.le_of_ble_eq_true rfl) (by decide) (by decide) (by decide) ?_
                refine ga_bipush (v := (-2)) F dL_errors_103 (by decide) ?_
                refine ga_icmp_ne (tgt := 178) F dL_errors_105 (by decide) (fun c30 => ?_) (fun c30 => ?_)
                · have h := if_t c30 h
                  exact GA.weak (by exact ⟨rfl, ⟨rfl, ⟨rfl, trivial⟩⟩⟩) (lL_errors_J178 F hr post h)
                · have h := if_f (not_not_intro c30) h
                  refine ga_aload_n F dL_errors_108 rfl ?_
                  refine ga_iload_n F dL_errors_109 rfl ?_
                  refine ga_iconst (v := 0) F dL_errors_110 (by decide) ?_
                  refine ga_iconst (v := 0) F dL_errors_111 (by decide) ?_
                  refine ga_iconst (v := 0) F dL_errors_112 (by decide) ?_
                  refine ga_iconst (v := 1) F dL_errors_113 (by decide) ?_
                  have h := bd_s h
                  refine ga_call F dL_errors_114 (ac_addWalker _ _ _ _ _) lkL_77 okX8_addWalker rfl rfl (Nat.le_of_ble_eq_true rfl) (by decide) (by decide) (by decide) ?_
                  refine ga_iconst (v := (-1)) F dL_errors_117 (by decide) ?_
                  refine ga_icmp_ne (tgt := 178) F dL_errors_118 (by decide) (fun c32 => ?_) (fun c32 => ?_)
                  · have h := if_t c32 h
                    exact GA.weak (by exact ⟨rfl, ⟨rfl, ⟨rfl, trivial⟩⟩⟩) (lL_errors_J178 F hr post h)
                  · have h := if_f (not_not_intro c32) h
                    refine ga_aload_n F dL_errors_121 rfl ?_
                    refine ga_iconst (v := 0) F dL_errors_122 (by decide) ?_
                    refine ga_iconst (v := 0) F dL_errors_123 (by decide) ?_
                    refine ga_iconst (v := 4) F dL_errors_124 (by decide) ?_
                    refine ga_iconst (v := 0) F dL_errors_125 (by decide) ?_
                    refine ga_iconst (v := 1) F dL_errors_126 (by decide) ?_
                    have h := bd_s h
                    refine ga_call F dL_errors_127 (ac_addWalker _ _ _ _ _) lkL_77 okX8_addWalker rfl rfl (Nat.le_of_ble_eq_true rfl) (by decide) (by decide) (by decide) ?_
                    refine ga_bipush (v := (-2)) F dL_errors_130 (by decide) ?_
                    refine ga_icmp_ne (tgt := 178) F dL_errors_132 (by decide) (fun c34 => ?_) (fun c34 => ?_)
                    · have h := if_t c34 h
                      exact GA.weak (by exact ⟨rfl, ⟨rfl, ⟨rfl, trivial⟩⟩⟩) (lL_errors_J178 F hr post h)
                    · have h := if_f (not_not_intro c34) h
                      refine ga_aload_n F dL_errors_135 rfl ?_
                      refine ga_iconst (v := 0) F dL_errors_136 (by decide) ?_
                      refine ga_iconst (v := 0) F dL_errors_137 (by decide) ?_
                      refine ga_iconst (v := 0) F dL_errors_138 (by decide) ?_
                      refine ga_iconst (v := 3) F dL_errors_139 (by decide) ?_
                      refine ga_iconst (v := 1) F dL_errors_140 (by decide) ?_
                      have h := bd_s h
                      refine ga_call F dL_errors_141 (ac_addWalker _ _ _ _ _) lkL_77 okX8_addWalker rfl rfl (Nat.le_of_ble_eq_true rfl) (by decide) (by decide) (by decide) ?_
                      refine ga_bipush (v := (-2)) F dL_errors_144 (by decide) ?_
                      refine ga_icmp_ne (tgt := 178) F dL_errors_146 (by decide) (fun c36 => ?_) (fun c36 => ?_)
                      · have h := if_t c36 h
                        exact GA.weak (by exact ⟨rfl, ⟨rfl, ⟨rfl, trivial⟩⟩⟩) (lL_errors_J178 F hr post h)
                      · have h := if_f (not_not_intro c36) h
                        refine ga_aload_n F dL_errors_149 rfl ?_
                        refine ga_iconst (v := 0) F dL_errors_150 (by decide) ?_
                        refine ga_iconst (v := 0) F dL_errors_151 (by decide) ?_
                        refine ga_iconst (v := 0) F dL_errors_152 (by decide) ?_
                        refine ga_iconst (v := 0) F dL_errors_153 (by decide) ?_
                        refine ga_bipush (v := 10) F dL_errors_154 (by decide) ?_
                        have h := bd_s h
                        refine ga_call F dL_errors_156 (ac_addWalker _ _ _ _ _) lkL_77 okX8_addWalker rfl rfl (Nat.le_of_ble_eq_true rfl) (by decide) (by decide) (by decide) ?_
                        refine ga_bipush (v := (-2)) F dL_errors_159 (by decide) ?_
                        refine ga_icmp_ne (tgt := 178) F dL_errors_161 (by decide) (fun c38 => ?_) (fun c38 => ?_)
                        · have h := if_t c38 h
                          exact GA.weak (by exact ⟨rfl, ⟨rfl, ⟨rfl, trivial⟩⟩⟩) (lL_errors_J178 F hr post h)
                        · have h := if_f (not_not_intro c38) h
                          refine ga_aload_n F dL_errors_164 rfl ?_
                          refine ga_iload_n F dL_errors_165 rfl ?_
                          refine ga_iconst (v := 0) F dL_errors_166 (by decide) ?_
                          have h := bd_s h
                          refine ga_call F dL_errors_167 (ac_setSort _ _) lkL_81 okX8_setSort rfl rfl (Nat.le_of_ble_eq_true rfl) (by decide) (by decide) (by decide) ?_
                          refine ga_iconst (v := (-1)) F dL_errors_170 (by decide) ?_
                          refine ga_icmp_ne (tgt := 178) F dL_errors_171 (by decide) (fun c40 => ?_) (fun c40 => ?_)
                          · have h := if_t c40 h
                            exact GA.weak (by exact ⟨rfl, ⟨rfl, ⟨rfl, trivial⟩⟩⟩) (lL_errors_J178 F hr post h)
                          · have h := if_f (not_not_intro c40) h
                            refine ga_iconst (v := 1) F dL_errors_174 (by decide) ?_
                            refine ga_goto (tgt := 179) F dL_errors_175 (by decide) ?_
                            exact GA.weak (by exact ⟨rfl, ⟨rfl, ⟨rfl, trivial⟩⟩⟩) (lL_errors_J179 F hr post h)
set_option maxRecDepth 100000 in
set_option maxHeartbeats 4000000 in
theorem al_errors {A : AbS} {r : Int32 × AbS}  (h : hL_errors A = some r) : AL mL_errors [.inr (some 0)] 0 0 A r.1 r.2   := al_of (by decide +kernel) (Nat.le_of_ble_eq_true rfl) (by decide) (fun X n q Po F hr post => bL_errors F hr post h)
-- heaps
noncomputable def hL_heaps_J268 (bk : Int32 → Int32 → Int32 → II → Option Int32) (ct : Int32 → Int32 → II → Option Int32) (A : AbS) (q : II) (x1 : Int32) (x2 : Int32) (x3 : Int32) (x8 : Int32) (x9 : Int32) (x10 : Int32) : Option Int32 := (if x10 ≤ 0 then bk (x2 + x10) (x3 + 0) (x9 + 1) q else bk (x2 + x10) (x3 + 1) (x9 + 1) q)
noncomputable def hL_heaps_J238 (bk : Int32 → Int32 → Int32 → II → Option Int32) (ct : Int32 → Int32 → II → Option Int32) (A : AbS) (q : II) (x1 : Int32) (x2 : Int32) (x3 : Int32) (x8 : Int32) (x9 : Int32) (x10 : Int32) (x11 : Int32) : Option Int32 := (if (qChips A (x8 + 1) x9) ≤ 0 then hL_heaps_J268 bk ct A q x1 x2 x3 x8 x9 x10 else (if (qHeapOf A (x8 + 1) x9) = x11 then hL_heaps_J268 bk ct A q x1 x2 x3 x8 x9 x10 else some 0))
noncomputable def hL_heaps_J209 (bk : Int32 → Int32 → Int32 → II → Option Int32) (ct : Int32 → Int32 → II → Option Int32) (A : AbS) (q : II) (x1 : Int32) (x2 : Int32) (x3 : Int32) (x8 : Int32) (x9 : Int32) (x10 : Int32) (x11 : Int32) (s1 : Int32) (s2 : Int32) : Option Int32 := ck (ix s1 64) ((some (up2 q 1 s1.toNatClampNeg s2)).bind fun q27 => (if (qChips A x8 (x9 + 1)) ≤ 0 then hL_heaps_J238 bk ct A q27 x1 x2 x3 x8 x9 x10 x11 else (if ¬ (qHeapOf A x8 (x9 + 1)) = x11 then some 0 else hL_heaps_J238 bk ct A q27 x1 x2 x3 x8 x9 x10 x11)))
noncomputable def hL_heaps_J165 (bk : Int32 → Int32 → Int32 → II → Option Int32) (ct : Int32 → Int32 → II → Option Int32) (A : AbS) (q : II) (x1 : Int32) (x2 : Int32) (x3 : Int32) (x8 : Int32) (x9 : Int32) (x10 : Int32) (x11 : Int32) (s1 : Int32) (s2 : Int32) : Option Int32 := ck (ix s1 64) ((some (up2 q 2 s1.toNatClampNeg s2)).bind fun q16 => ck (ix x11 64) (ck (ix x11 64) ((some (up2 q16 0 x11.toNatClampNeg ((q16 0 x11.toNatClampNeg) + 1))).bind fun q19 => ck (ix x11 64) (ck (ix x11 64) ((some (up2 q19 3 x11.toNatClampNeg ((q19 3 x11.toNatClampNeg) + x10))).bind fun q22 => ck (ix x11 64) ((if x10 ≤ (q22 1 x11.toNatClampNeg) then ck (ix x11 64) (hL_heaps_J209 bk ct A q22 x1 x2 x3 x8 x9 x10 x11 x11 (q22 1 x11.toNatClampNeg)) else hL_heaps_J209 bk ct A q22 x1 x2 x3 x8 x9 x10 x11 x11 x10)))))))
noncomputable def hL_heaps_J114 (bk : Int32 → Int32 → Int32 → II → Option Int32) (ct : Int32 → Int32 → II → Option Int32) (A : AbS) (q : II) (x1 : Int32) (x2 : Int32) (x3 : Int32) (x8 : Int32) (x9 : Int32) (x10 : Int32) (x11 : Int32) (s0 : Int32) (s1 : Int32) : Option Int32 := (if ¬ s0 = s1 then some 0 else (if x11 < x1 then (if x10 ≤ 0 then hL_heaps_J268 bk ct A q x1 x2 x3 x8 x9 x10 else (if 64 ≤ x11 then hL_heaps_J268 bk ct A q x1 x2 x3 x8 x9 x10 else ck (ix x11 64) ((if ¬ (q 0 x11.toNatClampNeg) = 0 then ck (ix x11 64) (hL_heaps_J165 bk ct A q x1 x2 x3 x8 x9 x10 x11 x11 (q 2 x11.toNatClampNeg)) else hL_heaps_J165 bk ct A q x1 x2 x3 x8 x9 x10 x11 x11 ((100 * x8) + x9))))) else some 0))
noncomputable def hL_heaps_J102 (bk : Int32 → Int32 → Int32 → II → Option Int32) (ct : Int32 → Int32 → II → Option Int32) (A : AbS) (q : II) (x1 : Int32) (x2 : Int32) (x3 : Int32) (x8 : Int32) (x9 : Int32) (x10 : Int32) (x11 : Int32) (s0 : Int32) : Option Int32 := (if ¬ x11 = (-5) then hL_heaps_J114 bk ct A q x1 x2 x3 x8 x9 x10 x11 s0 0 else hL_heaps_J114 bk ct A q x1 x2 x3 x8 x9 x10 x11 s0 1)
noncomputable def hL_heaps_L50 : Nat → (Int32 → Int32 → II → Option Int32) → Int32 → Int32 → AbS → Int32 → Int32 → Int32 → II → Option Int32
  | 0, _, _, _, _, _, _, _, _ => none
  | k + 1, ct, x1, x8, A, x2, x3, x9, q => (if (qCount A 1) ≤ x9 then ct x2 x3 q else (if (qChips A x8 x9) < 0 then some 0 else (if 99 < (qChips A x8 x9) then some 0 else (if ¬ (qChips A x8 x9) = 0 then hL_heaps_J102 (hL_heaps_L50 k ct x1 x8 A) ct A q x1 x2 x3 x8 x9 (qChips A x8 x9) (qHeapOf A x8 x9) 0 else hL_heaps_J102 (hL_heaps_L50 k ct x1 x8 A) ct A q x1 x2 x3 x8 x9 (qChips A x8 x9) (qHeapOf A x8 x9) 1))))
noncomputable def hL_heaps_L37 : Nat → (Int32 → Int32 → II → Option Int32) → Int32 → AbS → Int32 → Int32 → Int32 → II → Option Int32
  | 0, _, _, _, _, _, _, _ => none
  | k + 1, ct, x1, A, x2, x3, x8, q => (if (qCount A 0) ≤ x8 then ct x2 x3 q else hL_heaps_L50 2000 (fun z32 z33 q34 => hL_heaps_L37 k ct x1 A z32 z33 (x8 + 1) q34) x1 x8 A x2 x3 0 q)
noncomputable def hL_heaps_L304 : Nat → (Int32 → Option Int32) → Int32 → Int32 → Int32 → AbS → II → Int32 → Int32 → Option Int32
  | 0, _, _, _, _, _, _, _, _ => none
  | k + 1, ct, x1, x2, x3, A, q, x8, x9 => (if x1 ≤ x9 then ct x8 else (if 64 ≤ x9 then ct x8 else ck (ix x9 64) ((if ¬ (qHeap A x9 0) = (q 3 x9.toNatClampNeg) then some 0 else ck (ix x9 64) ((if ¬ (qHeap A x9 1) = (q 0 x9.toNatClampNeg) then some 0 else ck (ix x9 64) ((if ¬ (qHeap A x9 2) = ((q 2 x9.toNatClampNeg) / 100) then some 0 else ck (ix x9 64) ((if ¬ (qHeap A x9 3) = (rm (q 2 x9.toNatClampNeg) 100) then some 0 else ck (ix x9 64) ((if ¬ (qHeap A x9 4) = (q 1 x9.toNatClampNeg) then some 0 else ck (ix x9 64) ((if ¬ (q 0 x9.toNatClampNeg) = 0 then (if x9 ≤ 0 then hL_heaps_L304 k ct x1 x2 x3 A q (x8 + (qHeap A x9 1)) (x9 + 1) else ck (ix x9 64) (ck (ix (x9 - 1) 64) ((if (q 3 (x9 - 1).toNatClampNeg) < (q 3 x9.toNatClampNeg) then some 0 else ck (ix x9 64) (ck (ix (x9 - 1) 64) ((if ¬ (q 3 x9.toNatClampNeg) = (q 3 (x9 - 1).toNatClampNeg) then hL_heaps_L304 k ct x1 x2 x3 A q (x8 + (qHeap A x9 1)) (x9 + 1) else ck (ix x9 64) (ck (ix (x9 - 1) 64) ((if (q 0 x9.toNatClampNeg) < (q 0 (x9 - 1).toNatClampNeg) then some 0 else ck (ix x9 64) (ck (ix (x9 - 1) 64) ((if ¬ (q 0 x9.toNatClampNeg) = (q 0 (x9 - 1).toNatClampNeg) then hL_heaps_L304 k ct x1 x2 x3 A q (x8 + (qHeap A x9 1)) (x9 + 1) else ck (ix x9 64) (ck (ix (x9 - 1) 64) ((if (q 2 (x9 - 1).toNatClampNeg) ≤ (q 2 x9.toNatClampNeg) then hL_heaps_L304 k ct x1 x2 x3 A q (x8 + (qHeap A x9 1)) (x9 + 1) else some 0)))))))))))))))) else some 0))))))))))))))
noncomputable def hL_heaps_J529 (A : AbS) (q : II) (x1 : Int32) : Option Int32 := (if ¬ (qHeap A x1 0) = (-5) then some 0 else (if ¬ (qHeap A (-1) 0) = (-2) then some 0 else (if ¬ (qHeap A 0 5) = (-2) then some 0 else some 1)))
noncomputable def hL_heaps (A : AbS)  : Option Int32 := hL_heaps_L37 2000 (fun z35 z36 q37 => hL_heaps_L304 2000 (fun z68 => (if ¬ (qCount A 3) = z35 then some 0 else (if 64 < (qCount A 5) then hL_heaps_J529 A q37 (qCount A 5) else (if ¬ z68 = z36 then some 0 else hL_heaps_J529 A q37 (qCount A 5))))) (qCount A 5) z35 z36 A q37 0 0) (qCount A 5) A 0 0 0 (nwI (nwI (nwI (nwI (fun _ _ => 0) 0) 1) 2) 3)
set_option maxRecDepth 100000 in
set_option maxHeartbeats 4000000 in
theorem lL_heaps_J268 {X : Cx} {n0 : Nat} {Po : PQ} {A : AbS} {r : Int32} (F : Fx X RL cL_heaps 12 5 4 256) (hr : Fr X (some .boolean) Po 4 256) (post : ∀ (n' : Nat) (Ly : LL) (I : II) (P : PP), n' = n0 + 4 → Ac n' Ly I P A → Po (some (.inl r)) n' Ly I P) {q : II} {x1 : Int32} {x2 : Int32} {x3 : Int32} {x8 : Int32} {x9 : Int32} {x10 : Int32} {bk : Int32 → Int32 → Int32 → II → Option Int32} {ct : Int32 → Int32 → II → Option Int32} (hbk : ∀ (y2 : Int32) (y3 : Int32) (y9 : Int32) (q : II), bk y2 y3 y9 q = some r → GA none X 12 4 256 n0 4 50 [some (.inr (some 0)), some (.inl x1), some (.inl y2), some (.inl y3), some (.inr (some (n0 + 0))), some (.inr (some (n0 + 1))), some (.inr (some (n0 + 2))), some (.inr (some (n0 + 3))), some (.inl x8), some (.inl y9), none, none] [] A q) (hct : ∀ (y2 : Int32) (y3 : Int32) (q : II), ct y2 y3 q = some r → GA none X 12 4 256 n0 4 292 [some (.inr (some 0)), some (.inl x1), some (.inl y2), some (.inl y3), some (.inr (some (n0 + 0))), some (.inr (some (n0 + 1))), some (.inr (some (n0 + 2))), some (.inr (some (n0 + 3))), some (.inl x8), none, none, none] [] A q) (h : hL_heaps_J268 bk ct A q x1 x2 x3 x8 x9 x10 = some r) : GA none X 12 4 256 n0 4 268 [some (.inr (some 0)), some (.inl x1), some (.inl x2), some (.inl x3), some (.inr (some (n0 + 0))), some (.inr (some (n0 + 1))), some (.inr (some (n0 + 2))), some (.inr (some (n0 + 3))), some (.inl x8), some (.inl x9), some (.inl x10), none] [] A q := by
  unfold hL_heaps_J268 at h
  refine ga_iload_n F dL_heaps_268 rfl ?_
  refine ga_iload F dL_heaps_269 rfl ?_
  refine ga_iadd F dL_heaps_271 ?_
  refine ga_istore_n F dL_heaps_272 (by decide) (by decide) ?_
  refine ga_iload_n F dL_heaps_273 rfl ?_
  refine ga_iload F dL_heaps_274 rfl ?_
  refine ga_if_le (tgt := 283) F dL_heaps_276 (by decide) (fun c10 => ?_) (fun c10 => ?_)
  · have h := if_t c10 h
    refine ga_iconst (v := 0) F dL_heaps_283 (by decide) ?_
    refine ga_iadd F dL_heaps_284 ?_
    refine ga_istore_n F dL_heaps_285 (by decide) (by decide) ?_
    refine ga_inc (c := 1) F dL_heaps_286 rfl (by decide) (by decide) (by decide) ?_
    refine ga_goto (tgt := 50) F dL_heaps_289 (by decide) ?_
    exact GA.weak (by exact ⟨rfl, ⟨rfl, ⟨rfl, ⟨rfl, ⟨rfl, ⟨rfl, ⟨rfl, ⟨rfl, ⟨rfl, ⟨rfl, trivial⟩⟩⟩⟩⟩⟩⟩⟩⟩⟩) (hbk _ _ _ _ h)
  · have h := if_f c10 h
    refine ga_iconst (v := 1) F dL_heaps_279 (by decide) ?_
    refine ga_goto (tgt := 284) F dL_heaps_280 (by decide) ?_
    refine ga_iadd F dL_heaps_284 ?_
    refine ga_istore_n F dL_heaps_285 (by decide) (by decide) ?_
    refine ga_inc (c := 1) F dL_heaps_286 rfl (by decide) (by decide) (by decide) ?_
    refine ga_goto (tgt := 50) F dL_heaps_289 (by decide) ?_
    exact GA.weak (by exact ⟨rfl, ⟨rfl, ⟨rfl, ⟨rfl, ⟨rfl, ⟨rfl, ⟨rfl, ⟨rfl, ⟨rfl, ⟨rfl, trivial⟩⟩⟩⟩⟩⟩⟩⟩⟩⟩) (hbk _ _ _ _ h)
set_option maxRecDepth 100000 in
set_option maxHeartbeats 4000000 in
theorem lL_heaps_J238 {X : Cx} {n0 : Nat} {Po : PQ} {A : AbS} {r : Int32} (F : Fx X RL cL_heaps 12 5 4 256) (hr : Fr X (some .boolean) Po 4 256) (post : ∀ (n' : Nat) (Ly : LL) (I : II) (P : PP), n' = n0 + 4 → Ac n' Ly I P A → Po (some (.inl r)) n' Ly I P) {q : II} {x1 : Int32} {x2 : Int32} {x3 : Int32} {x8 : Int32} {x9 : Int32} {x10 : Int32} {x11 : Int32} {bk : Int32 → Int32 → Int32 → II → Option Int32} {ct : Int32 → Int32 → II → Option Int32} (hbk : ∀ (y2 : Int32) (y3 : Int32) (y9 : Int32) (q : II), bk y2 y3 y9 q = some r → GA none X 12 4 256 n0 4 50 [some (.inr (some 0)), some (.inl x1), some (.inl y2), some (.inl y3), some (.inr (some (n0 + 0))), some (.inr (some (n0 + 1))), some (.inr (some (n0 + 2))), some (.inr (some (n0 + 3))), some (.inl x8), some (.inl y9), none, none] [] A q) (hct : ∀ (y2 : Int32) (y3 : Int32) (q : II), ct y2 y3 q = some r → GA none X 12 4 256 n0 4 292 [some (.inr (some 0)), some (.inl x1), some (.inl y2), some (.inl y3), some (.inr (some (n0 + 0))), some (.inr (some (n0 + 1))), some (.inr (some (n0 + 2))), some (.inr (some (n0 + 3))), some (.inl x8), none, none, none] [] A q) (h : hL_heaps_J238 bk ct A q x1 x2 x3 x8 x9 x10 x11 = some r) : GA none X 12 4 256 n0 4 238 [some (.inr (some 0)), some (.inl x1), some (.inl x2), some (.inl x3), some (.inr (some (n0 + 0))), some (.inr (some (n0 + 1))), some (.inr (some (n0 + 2))), some (.inr (some (n0 + 3))), some (.inl x8), some (.inl x9), some (.inl x10), some (.inl x11)] [] A q := by
  unfold hL_heaps_J238 at h
  refine ga_aload_n F dL_heaps_238 rfl ?_
  refine ga_iload F dL_heaps_239 rfl ?_
  refine ga_iconst (v := 1) F dL_heaps_241 (by decide) ?_
  refine ga_iadd F dL_heaps_242 ?_
  refine ga_iload F dL_heaps_243 rfl ?_
  refine ga_call F dL_heaps_245 (ac_chips _ _) lkL_15 okX8_chips rfl rfl (Nat.le_of_ble_eq_true rfl) (by decide) (by decide) (by decide) ?_
  refine ga_if_le (tgt := 268) F dL_heaps_248 (by decide) (fun c29 => ?_) (fun c29 => ?_)
  · have h := if_t c29 h
    exact GA.weak (by exact ⟨rfl, ⟨rfl, ⟨rfl, ⟨rfl, ⟨rfl, ⟨rfl, ⟨rfl, ⟨rfl, ⟨rfl, ⟨rfl, ⟨rfl, trivial⟩⟩⟩⟩⟩⟩⟩⟩⟩⟩⟩) (lL_heaps_J268 F hr post (fun y0 y1 y2 y3 h => hbk y0 y1 y2 y3 h) hct h)
  · have h := if_f c29 h
    refine ga_aload_n F dL_heaps_251 rfl ?_
    refine ga_iload F dL_heaps_252 rfl ?_
    refine ga_iconst (v := 1) F dL_heaps_254 (by decide) ?_
    refine ga_iadd F dL_heaps_255 ?_
    refine ga_iload F dL_heaps_256 rfl ?_
    refine ga_call F dL_heaps_258 (ac_heapOf _ _) lkL_19 okX8_heapOf rfl rfl (Nat.le_of_ble_eq_true rfl) (by decide) (by decide) (by decide) ?_
    refine ga_iload F dL_heaps_261 rfl ?_
    refine ga_icmp_eq (tgt := 268) F dL_heaps_263 (by decide) (fun c30 => ?_) (fun c30 => ?_)
    · have h := if_t c30 h
      exact GA.weak (by exact ⟨rfl, ⟨rfl, ⟨rfl, ⟨rfl, ⟨rfl, ⟨rfl, ⟨rfl, ⟨rfl, ⟨rfl, ⟨rfl, ⟨rfl, trivial⟩⟩⟩⟩⟩⟩⟩⟩⟩⟩⟩) (lL_heaps_J268 F hr post (fun y0 y1 y2 y3 h => hbk y0 y1 y2 y3 h) hct h)
    · have h := if_f c30 h
      refine ga_iconst (v := 0) F dL_heaps_266 (by decide) ?_
      have h := Option.some.inj h
      subst h
      exact ga_iret F rfl hr dL_heaps_267 rfl (by decide) (by decide) (fun Ly I P hA => post _ Ly I P rfl hA)
set_option maxRecDepth 100000 in
set_option maxHeartbeats 4000000 in
theorem lL_heaps_J209 {X : Cx} {n0 : Nat} {Po : PQ} {A : AbS} {r : Int32} (F : Fx X RL cL_heaps 12 5 4 256) (hr : Fr X (some .boolean) Po 4 256) (post : ∀ (n' : Nat) (Ly : LL) (I : II) (P : PP), n' = n0 + 4 → Ac n' Ly I P A → Po (some (.inl r)) n' Ly I P) {q : II} {x1 : Int32} {x2 : Int32} {x3 : Int32} {x8 : Int32} {x9 : Int32} {x10 : Int32} {x11 : Int32} {s1 : Int32} {s2 : Int32} {bk : Int32 → Int32 → Int32 → II → Option Int32} {ct : Int32 → Int32 → II → Option Int32} (hbk : ∀ (y2 : Int32) (y3 : Int32) (y9 : Int32) (q : II), bk y2 y3 y9 q = some r → GA none X 12 4 256 n0 4 50 [some (.inr (some 0)), some (.inl x1), some (.inl y2), some (.inl y3), some (.inr (some (n0 + 0))), some (.inr (some (n0 + 1))), some (.inr (some (n0 + 2))), some (.inr (some (n0 + 3))), some (.inl x8), some (.inl y9), none, none] [] A q) (hct : ∀ (y2 : Int32) (y3 : Int32) (q : II), ct y2 y3 q = some r → GA none X 12 4 256 n0 4 292 [some (.inr (some 0)), some (.inl x1), some (.inl y2), some (.inl y3), some (.inr (some (n0 + 0))), some (.inr (some (n0 + 1))), some (.inr (some (n0 + 2))), some (.inr (some (n0 + 3))), some (.inl x8), none, none, none] [] A q) (h : hL_heaps_J209 bk ct A q x1 x2 x3 x8 x9 x10 x11 s1 s2 = some r) : GA none X 12 4 256 n0 4 209 [some (.inr (some 0)), some (.inl x1), some (.inl x2), some (.inl x3), some (.inr (some (n0 + 0))), some (.inr (some (n0 + 1))), some (.inr (some (n0 + 2))), some (.inr (some (n0 + 3))), some (.inl x8), some (.inl x9), some (.inl x10), some (.inl x11)] [.inl s2, .inl s1, .inr (some (n0 + 1))] A q := by
  unfold hL_heaps_J209 at h
  obtain ⟨hc26, h⟩ := ck_s h
  have h := bd_s h
  refine ga_iast (i := 1) F dL_heaps_209 (by decide) (ix_s hc26) ?_
  refine ga_aload_n F dL_heaps_210 rfl ?_
  refine ga_iload F dL_heaps_211 rfl ?_
  refine ga_iload F dL_heaps_213 rfl ?_
  refine ga_iconst (v := 1) F dL_heaps_215 (by decide) ?_
  refine ga_iadd F dL_heaps_216 ?_
  refine ga_call F dL_heaps_217 (ac_chips _ _) lkL_15 okX8_chips rfl rfl (Nat.le_of_ble_eq_true rfl) (by decide) (by decide) (by decide) ?_
  refine ga_if_le (tgt := 238) F dL_heaps_220 (by decide) (fun c28 => ?_) (fun c28 => ?_)
  · have h := if_t c28 h
    exact GA.weak (by exact ⟨rfl, ⟨rfl, ⟨rfl, ⟨rfl, ⟨rfl, ⟨rfl, ⟨rfl, ⟨rfl, ⟨rfl, ⟨rfl, ⟨rfl, ⟨rfl, trivial⟩⟩⟩⟩⟩⟩⟩⟩⟩⟩⟩⟩) (lL_heaps_J238 F hr post (fun y0 y1 y2 y3 h => hbk y0 y1 y2 y3 h) hct h)
  · have h := if_f c28 h
    refine ga_aload_n F dL_heaps_223 rfl ?_
    refine ga_iload F dL_heaps_224 rfl ?_
    refine ga_iload F dL_heaps_226 rfl ?_
    refine ga_iconst (v := 1) F dL_heaps_228 (by decide) ?_
    refine ga_iadd F dL_heaps_229 ?_
    refine ga_call F dL_heaps_230 (ac_heapOf _ _) lkL_19 okX8_heapOf rfl rfl (Nat.le_of_ble_eq_true rfl) (by decide) (by decide) (by decide) ?_
    refine ga_iload F dL_heaps_233 rfl ?_
    refine ga_icmp_ne (tgt := 266) F dL_heaps_235 (by decide) (fun c31 => ?_) (fun c31 => ?_)
    · have h := if_t c31 h
      refine ga_iconst (v := 0) F dL_heaps_266 (by decide) ?_
      have h := Option.some.inj h
      subst h
      exact ga_iret F rfl hr dL_heaps_267 rfl (by decide) (by decide) (fun Ly I P hA => post _ Ly I P rfl hA)
    · have h := if_f (not_not_intro c31) h
      exact GA.weak (by exact ⟨rfl, ⟨rfl, ⟨rfl, ⟨rfl, ⟨rfl, ⟨rfl, ⟨rfl, ⟨rfl, ⟨rfl, ⟨rfl, ⟨rfl, ⟨rfl, trivial⟩⟩⟩⟩⟩⟩⟩⟩⟩⟩⟩⟩) (lL_heaps_J238 F hr post (fun y0 y1 y2 y3 h => hbk y0 y1 y2 y3 h) hct h)
set_option maxRecDepth 100000 in
set_option maxHeartbeats 4000000 in
theorem lL_heaps_J165 {X : Cx} {n0 : Nat} {Po : PQ} {A : AbS} {r : Int32} (F : Fx X RL cL_heaps 12 5 4 256) (hr : Fr X (some .boolean) Po 4 256) (post : ∀ (n' : Nat) (Ly : LL) (I : II) (P : PP), n' = n0 + 4 → Ac n' Ly I P A → Po (some (.inl r)) n' Ly I P) {q : II} {x1 : Int32} {x2 : Int32} {x3 : Int32} {x8 : Int32} {x9 : Int32} {x10 : Int32} {x11 : Int32} {s1 : Int32} {s2 : Int32} {bk : Int32 → Int32 → Int32 → II → Option Int32} {ct : Int32 → Int32 → II → Option Int32} (hbk : ∀ (y2 : Int32) (y3 : Int32) (y9 : Int32) (q : II), bk y2 y3 y9 q = some r → GA none X 12 4 256 n0 4 50 [some (.inr (some 0)), some (.inl x1), some (.inl y2), some (.inl y3), some (.inr (some (n0 + 0))), some (.inr (some (n0 + 1))), some (.inr (some (n0 + 2))), some (.inr (some (n0 + 3))), some (.inl x8), some (.inl y9), none, none] [] A q) (hct : ∀ (y2 : Int32) (y3 : Int32) (q : II), ct y2 y3 q = some r → GA none X 12 4 256 n0 4 292 [some (.inr (some 0)), some (.inl x1), some (.inl y2), some (.inl y3), some (.inr (some (n0 + 0))), some (.inr (some (n0 + 1))), some (.inr (some (n0 + 2))), some (.inr (some (n0 + 3))), some (.inl x8), none, none, none] [] A q) (h : hL_heaps_J165 bk ct A q x1 x2 x3 x8 x9 x10 x11 s1 s2 = some r) : GA none X 12 4 256 n0 4 165 [some (.inr (some 0)), some (.inl x1), some (.inl x2), some (.inl x3), some (.inr (some (n0 + 0))), some (.inr (some (n0 + 1))), some (.inr (some (n0 + 2))), some (.inr (some (n0 + 3))), some (.inl x8), some (.inl x9), some (.inl x10), some (.inl x11)] [.inl s2, .inl s1, .inr (some (n0 + 2))] A q := by
  unfold hL_heaps_J165 at h
  obtain ⟨hc15, h⟩ := ck_s h
  have h := bd_s h
  refine ga_iast (i := 2) F dL_heaps_165 (by decide) (ix_s hc15) ?_
  refine ga_aload F dL_heaps_166 rfl ?_
  refine ga_iload F dL_heaps_168 rfl ?_
  refine ga_dup2 F dL_heaps_170 ?_
  obtain ⟨hc17, h⟩ := ck_s h
  refine ga_iald (i := 0) F dL_heaps_171 (by decide) (ix_s hc17) ?_
  refine ga_iconst (v := 1) F dL_heaps_172 (by decide) ?_
  refine ga_iadd F dL_heaps_173 ?_
  obtain ⟨hc18, h⟩ := ck_s h
  have h := bd_s h
  refine ga_iast (i := 0) F dL_heaps_174 (by decide) (ix_s hc18) ?_
  refine ga_aload F dL_heaps_175 rfl ?_
  refine ga_iload F dL_heaps_177 rfl ?_
  refine ga_dup2 F dL_heaps_179 ?_
  obtain ⟨hc20, h⟩ := ck_s h
  refine ga_iald (i := 3) F dL_heaps_180 (by decide) (ix_s hc20) ?_
  refine ga_iload F dL_heaps_181 rfl ?_
  refine ga_iadd F dL_heaps_183 ?_
  obtain ⟨hc21, h⟩ := ck_s h
  have h := bd_s h
  refine ga_iast (i := 3) F dL_heaps_184 (by decide) (ix_s hc21) ?_
  refine ga_aload F dL_heaps_185 rfl ?_
  refine ga_iload F dL_heaps_187 rfl ?_
  refine ga_iload F dL_heaps_189 rfl ?_
  refine ga_aload F dL_heaps_191 rfl ?_
  refine ga_iload F dL_heaps_193 rfl ?_
  obtain ⟨hc23, h⟩ := ck_s h
  refine ga_iald (i := 1) F dL_heaps_195 (by decide) (ix_s hc23) ?_
  refine ga_icmp_le (tgt := 204) F dL_heaps_196 (by decide) (fun c24 => ?_) (fun c24 => ?_)
  · have h := if_t c24 h
    refine ga_aload F dL_heaps_204 rfl ?_
    refine ga_iload F dL_heaps_206 rfl ?_
    obtain ⟨hc25, h⟩ := ck_s h
    refine ga_iald (i := 1) F dL_heaps_208 (by decide) (ix_s hc25) ?_
    exact GA.weak (by exact ⟨rfl, ⟨rfl, ⟨rfl, ⟨rfl, ⟨rfl, ⟨rfl, ⟨rfl, ⟨rfl, ⟨rfl, ⟨rfl, ⟨rfl, ⟨rfl, trivial⟩⟩⟩⟩⟩⟩⟩⟩⟩⟩⟩⟩) (lL_heaps_J209 F hr post (fun y0 y1 y2 y3 h => hbk y0 y1 y2 y3 h) hct h)
  · have h := if_f c24 h
    refine ga_iload F dL_heaps_199 rfl ?_
    refine ga_goto (tgt := 209) F dL_heaps_201 (by decide) ?_
    exact GA.weak (by exact ⟨rfl, ⟨rfl, ⟨rfl, ⟨rfl, ⟨rfl, ⟨rfl, ⟨rfl, ⟨rfl, ⟨rfl, ⟨rfl, ⟨rfl, ⟨rfl, trivial⟩⟩⟩⟩⟩⟩⟩⟩⟩⟩⟩⟩) (lL_heaps_J209 F hr post (fun y0 y1 y2 y3 h => hbk y0 y1 y2 y3 h) hct h)
set_option maxRecDepth 100000 in
set_option maxHeartbeats 4000000 in
theorem lL_heaps_J114 {X : Cx} {n0 : Nat} {Po : PQ} {A : AbS} {r : Int32} (F : Fx X RL cL_heaps 12 5 4 256) (hr : Fr X (some .boolean) Po 4 256) (post : ∀ (n' : Nat) (Ly : LL) (I : II) (P : PP), n' = n0 + 4 → Ac n' Ly I P A → Po (some (.inl r)) n' Ly I P) {q : II} {x1 : Int32} {x2 : Int32} {x3 : Int32} {x8 : Int32} {x9 : Int32} {x10 : Int32} {x11 : Int32} {s0 : Int32} {s1 : Int32} {bk : Int32 → Int32 → Int32 → II → Option Int32} {ct : Int32 → Int32 → II → Option Int32} (hbk : ∀ (y2 : Int32) (y3 : Int32) (y9 : Int32) (q : II), bk y2 y3 y9 q = some r → GA none X 12 4 256 n0 4 50 [some (.inr (some 0)), some (.inl x1), some (.inl y2), some (.inl y3), some (.inr (some (n0 + 0))), some (.inr (some (n0 + 1))), some (.inr (some (n0 + 2))), some (.inr (some (n0 + 3))), some (.inl x8), some (.inl y9), none, none] [] A q) (hct : ∀ (y2 : Int32) (y3 : Int32) (q : II), ct y2 y3 q = some r → GA none X 12 4 256 n0 4 292 [some (.inr (some 0)), some (.inl x1), some (.inl y2), some (.inl y3), some (.inr (some (n0 + 0))), some (.inr (some (n0 + 1))), some (.inr (some (n0 + 2))), some (.inr (some (n0 + 3))), some (.inl x8), none, none, none] [] A q) (h : hL_heaps_J114 bk ct A q x1 x2 x3 x8 x9 x10 x11 s0 s1 = some r) : GA none X 12 4 256 n0 4 114 [some (.inr (some 0)), some (.inl x1), some (.inl x2), some (.inl x3), some (.inr (some (n0 + 0))), some (.inr (some (n0 + 1))), some (.inr (some (n0 + 2))), some (.inr (some (n0 + 3))), some (.inl x8), some (.inl x9), some (.inl x10), some (.inl x11)] [.inl s1, .inl s0] A q := by
  unfold hL_heaps_J114 at h
  refine ga_icmp_ne (tgt := 123) F dL_heaps_114 (by decide) (fun c7 => ?_) (fun c7 => ?_)
  · have h := if_t c7 h
    refine ga_iconst (v := 0) F dL_heaps_123 (by decide) ?_
    have h := Option.some.inj h
    subst h
    exact ga_iret F rfl hr dL_heaps_124 rfl (by decide) (by decide) (fun Ly I P hA => post _ Ly I P rfl hA)
  · have h := if_f (not_not_intro c7) h
    refine ga_iload F dL_heaps_117 rfl ?_
    refine ga_iload_n F dL_heaps_119 rfl ?_
    refine ga_icmp_lt (tgt := 125) F dL_heaps_120 (by decide) (fun c8 => ?_) (fun c8 => ?_)
    · have h := if_t c8 h
      refine ga_iload F dL_heaps_125 rfl ?_
      refine ga_if_le (tgt := 268) F dL_heaps_127 (by decide) (fun c9 => ?_) (fun c9 => ?_)
      · have h := if_t c9 h
        exact GA.weak (by exact ⟨rfl, ⟨rfl, ⟨rfl, ⟨rfl, ⟨rfl, ⟨rfl, ⟨rfl, ⟨rfl, ⟨rfl, ⟨rfl, ⟨rfl, trivial⟩⟩⟩⟩⟩⟩⟩⟩⟩⟩⟩) (lL_heaps_J268 F hr post (fun y0 y1 y2 y3 h => hbk y0 y1 y2 y3 h) hct h)
      · have h := if_f c9 h
        refine ga_iload F dL_heaps_130 rfl ?_
        refine ga_bipush (v := 64) F dL_heaps_132 (by decide) ?_
        refine ga_icmp_ge (tgt := 268) F dL_heaps_134 (by decide) (fun c11 => ?_) (fun c11 => ?_)
        · have h := if_t c11 h
          exact GA.weak (by exact ⟨rfl, ⟨rfl, ⟨rfl, ⟨rfl, ⟨rfl, ⟨rfl, ⟨rfl, ⟨rfl, ⟨rfl, ⟨rfl, ⟨rfl, trivial⟩⟩⟩⟩⟩⟩⟩⟩⟩⟩⟩) (lL_heaps_J268 F hr post (fun y0 y1 y2 y3 h => hbk y0 y1 y2 y3 h) hct h)
        · have h := if_f c11 h
          refine ga_aload F dL_heaps_137 rfl ?_
          refine ga_iload F dL_heaps_139 rfl ?_
          refine ga_aload F dL_heaps_141 rfl ?_
          refine ga_iload F dL_heaps_143 rfl ?_
          obtain ⟨hc12, h⟩ := ck_s h
          refine ga_iald (i := 0) F dL_heaps_145 (by decide) (ix_s hc12) ?_
          refine ga_if_ne (tgt := 160) F dL_heaps_146 (by decide) (fun c13 => ?_) (fun c13 => ?_)
          · have h := if_t c13 h
            refine ga_aload F dL_heaps_160 rfl ?_
            refine ga_iload F dL_heaps_162 rfl ?_
            obtain ⟨hc14, h⟩ := ck_s h
            refine ga_iald (i := 2) F dL_heaps_164 (by decide) (ix_s hc14) ?_
            exact GA.weak (by exact ⟨rfl, ⟨rfl, ⟨rfl, ⟨rfl, ⟨rfl, ⟨rfl, ⟨rfl, ⟨rfl, ⟨rfl, ⟨rfl, ⟨rfl, ⟨rfl, trivial⟩⟩⟩⟩⟩⟩⟩⟩⟩⟩⟩⟩) (lL_heaps_J165 F hr post (fun y0 y1 y2 y3 h => hbk y0 y1 y2 y3 h) hct h)
          · have h := if_f (not_not_intro c13) h
            refine ga_bipush (v := 100) F dL_heaps_149 (by decide) ?_
            refine ga_iload F dL_heaps_151 rfl ?_
            refine ga_imul F dL_heaps_153 ?_
            refine ga_iload F dL_heaps_154 rfl ?_
            refine ga_iadd F dL_heaps_156 ?_
            refine ga_goto (tgt := 165) F dL_heaps_157 (by decide) ?_
            exact GA.weak (by exact ⟨rfl, ⟨rfl, ⟨rfl, ⟨rfl, ⟨rfl, ⟨rfl, ⟨rfl, ⟨rfl, ⟨rfl, ⟨rfl, ⟨rfl, ⟨rfl, trivial⟩⟩⟩⟩⟩⟩⟩⟩⟩⟩⟩⟩) (lL_heaps_J165 F hr post (fun y0 y1 y2 y3 h => hbk y0 y1 y2 y3 h) hct h)
    · have h := if_f c8 h
      refine ga_iconst (v := 0) F dL_heaps_123 (by decide) ?_
      have h := Option.some.inj h
      subst h
      exact ga_iret F rfl hr dL_heaps_124 rfl (by decide) (by decide) (fun Ly I P hA => post _ Ly I P rfl hA)
set_option maxRecDepth 100000 in
set_option maxHeartbeats 4000000 in
theorem lL_heaps_J102 {X : Cx} {n0 : Nat} {Po : PQ} {A : AbS} {r : Int32} (F : Fx X RL cL_heaps 12 5 4 256) (hr : Fr X (some .boolean) Po 4 256) (post : ∀ (n' : Nat) (Ly : LL) (I : II) (P : PP), n' = n0 + 4 → Ac n' Ly I P A → Po (some (.inl r)) n' Ly I P) {q : II} {x1 : Int32} {x2 : Int32} {x3 : Int32} {x8 : Int32} {x9 : Int32} {x10 : Int32} {x11 : Int32} {s0 : Int32} {bk : Int32 → Int32 → Int32 → II → Option Int32} {ct : Int32 → Int32 → II → Option Int32} (hbk : ∀ (y2 : Int32) (y3 : Int32) (y9 : Int32) (q : II), bk y2 y3 y9 q = some r → GA none X 12 4 256 n0 4 50 [some (.inr (some 0)), some (.inl x1), some (.inl y2), some (.inl y3), some (.inr (some (n0 + 0))), some (.inr (some (n0 + 1))), some (.inr (some (n0 + 2))), some (.inr (some (n0 + 3))), some (.inl x8), some (.inl y9), none, none] [] A q) (hct : ∀ (y2 : Int32) (y3 : Int32) (q : II), ct y2 y3 q = some r → GA none X 12 4 256 n0 4 292 [some (.inr (some 0)), some (.inl x1), some (.inl y2), some (.inl y3), some (.inr (some (n0 + 0))), some (.inr (some (n0 + 1))), some (.inr (some (n0 + 2))), some (.inr (some (n0 + 3))), some (.inl x8), none, none, none] [] A q) (h : hL_heaps_J102 bk ct A q x1 x2 x3 x8 x9 x10 x11 s0 = some r) : GA none X 12 4 256 n0 4 102 [some (.inr (some 0)), some (.inl x1), some (.inl x2), some (.inl x3), some (.inr (some (n0 + 0))), some (.inr (some (n0 + 1))), some (.inr (some (n0 + 2))), some (.inr (some (n0 + 3))), some (.inl x8), some (.inl x9), some (.inl x10), some (.inl x11)] [.inl s0] A q := by
  unfold hL_heaps_J102 at h
  refine ga_iload F dL_heaps_102 rfl ?_
  refine ga_bipush (v := (-5)) F dL_heaps_104 (by decide) ?_
  refine ga_icmp_ne (tgt := 113) F dL_heaps_106 (by decide) (fun c6 => ?_) (fun c6 => ?_)
  · have h := if_t c6 h
    refine ga_iconst (v := 0) F dL_heaps_113 (by decide) ?_
    exact GA.weak (by exact ⟨rfl, ⟨rfl, ⟨rfl, ⟨rfl, ⟨rfl, ⟨rfl, ⟨rfl, ⟨rfl, ⟨rfl, ⟨rfl, ⟨rfl, ⟨rfl, trivial⟩⟩⟩⟩⟩⟩⟩⟩⟩⟩⟩⟩) (lL_heaps_J114 F hr post (fun y0 y1 y2 y3 h => hbk y0 y1 y2 y3 h) hct h)
  · have h := if_f (not_not_intro c6) h
    refine ga_iconst (v := 1) F dL_heaps_109 (by decide) ?_
    refine ga_goto (tgt := 114) F dL_heaps_110 (by decide) ?_
    exact GA.weak (by exact ⟨rfl, ⟨rfl, ⟨rfl, ⟨rfl, ⟨rfl, ⟨rfl, ⟨rfl, ⟨rfl, ⟨rfl, ⟨rfl, ⟨rfl, ⟨rfl, trivial⟩⟩⟩⟩⟩⟩⟩⟩⟩⟩⟩⟩) (lL_heaps_J114 F hr post (fun y0 y1 y2 y3 h => hbk y0 y1 y2 y3 h) hct h)
set_option maxRecDepth 100000 in
set_option maxHeartbeats 4000000 in
theorem lL_heaps_L50 {X : Cx} {n0 : Nat} {Po : PQ} {A : AbS} {r : Int32} (F : Fx X RL cL_heaps 12 5 4 256) (hr : Fr X (some .boolean) Po 4 256) (post : ∀ (n' : Nat) (Ly : LL) (I : II) (P : PP), n' = n0 + 4 → Ac n' Ly I P A → Po (some (.inl r)) n' Ly I P) {x1 : Int32} {x8 : Int32} {ct : Int32 → Int32 → II → Option Int32} (hct : ∀ (x2 : Int32) (x3 : Int32) (q : II), ct x2 x3 q = some r → GA none X 12 4 256 n0 4 292 [some (.inr (some 0)), some (.inl x1), some (.inl x2), some (.inl x3), some (.inr (some (n0 + 0))), some (.inr (some (n0 + 1))), some (.inr (some (n0 + 2))), some (.inr (some (n0 + 3))), some (.inl x8), none, none, none] [] A q) : ∀ (k : Nat) (x2 : Int32) (x3 : Int32) (x9 : Int32) (q : II), hL_heaps_L50 k ct x1 x8 A x2 x3 x9 q = some r → GA none X 12 4 256 n0 4 50 [some (.inr (some 0)), some (.inl x1), some (.inl x2), some (.inl x3), some (.inr (some (n0 + 0))), some (.inr (some (n0 + 1))), some (.inr (some (n0 + 2))), some (.inr (some (n0 + 3))), some (.inl x8), some (.inl x9), none, none] [] A q := by
  intro k
  induction k with
  | zero =>
    intro x2 x3 x9 q h
    cases h
  | succ k ih =>
    intro x2 x3 x9 q h
    rw [hL_heaps_L50] at h
    refine ga_iload F dL_heaps_50 rfl ?_
    refine ga_aload_n F dL_heaps_52 rfl ?_
    refine ga_iconst (v := 1) F dL_heaps_53 (by decide) ?_
    refine ga_call F dL_heaps_54 (ac_count _) lkL_9 okX8_count rfl rfl (Nat.le_of_ble_eq_true rfl) (by decide) (by decide) (by decide) ?_
    refine ga_icmp_ge (tgt := 292) F dL_heaps_57 (by decide) (fun c2 => ?_) (fun c2 => ?_)
    · have h := if_t c2 h
      exact GA.weak (by exact ⟨rfl, ⟨rfl, ⟨rfl, ⟨rfl, ⟨rfl, ⟨rfl, ⟨rfl, ⟨rfl, ⟨rfl, trivial⟩⟩⟩⟩⟩⟩⟩⟩⟩) (hct _ _ _ h)
    · have h := if_f c2 h
      refine ga_aload_n F dL_heaps_60 rfl ?_
      refine ga_iload F dL_heaps_61 rfl ?_
      refine ga_iload F dL_heaps_63 rfl ?_
      refine ga_call F dL_heaps_65 (ac_chips _ _) lkL_15 okX8_chips rfl rfl (Nat.le_of_ble_eq_true rfl) (by decide) (by decide) (by decide) ?_
      refine ga_istore F dL_heaps_68 (by decide) (by decide) ?_
      refine ga_aload_n F dL_heaps_70 rfl ?_
      refine ga_iload F dL_heaps_71 rfl ?_
      refine ga_iload F dL_heaps_73 rfl ?_
      refine ga_call F dL_heaps_75 (ac_heapOf _ _) lkL_19 okX8_heapOf rfl rfl (Nat.le_of_ble_eq_true rfl) (by decide) (by decide) (by decide) ?_
      refine ga_istore F dL_heaps_78 (by decide) (by decide) ?_
      refine ga_iload F dL_heaps_80 rfl ?_
      refine ga_if_lt (tgt := 123) F dL_heaps_82 (by decide) (fun c3 => ?_) (fun c3 => ?_)
      · have h := if_t c3 h
        refine ga_iconst (v := 0) F dL_heaps_123 (by decide) ?_
        have h := Option.some.inj h
        subst h
        exact ga_iret F rfl hr dL_heaps_124 rfl (by decide) (by decide) (fun Ly I P hA => post _ Ly I P rfl hA)
      · have h := if_f c3 h
        refine ga_iload F dL_heaps_85 rfl ?_
        refine ga_bipush (v := 99) F dL_heaps_87 (by decide) ?_
        refine ga_icmp_gt (tgt := 123) F dL_heaps_89 (by decide) (fun c4 => ?_) (fun c4 => ?_)
        · have h := if_t c4 h
          refine ga_iconst (v := 0) F dL_heaps_123 (by decide) ?_
          have h := Option.some.inj h
          subst h
          exact ga_iret F rfl hr dL_heaps_124 rfl (by decide) (by decide) (fun Ly I P hA => post _ Ly I P rfl hA)
        · have h := if_f c4 h
          refine ga_iload F dL_heaps_92 rfl ?_
          refine ga_if_ne (tgt := 101) F dL_heaps_94 (by decide) (fun c5 => ?_) (fun c5 => ?_)
          · have h := if_t c5 h
            refine ga_iconst (v := 0) F dL_heaps_101 (by decide) ?_
            exact GA.weak (by exact ⟨rfl, ⟨rfl, ⟨rfl, ⟨rfl, ⟨rfl, ⟨rfl, ⟨rfl, ⟨rfl, ⟨rfl, ⟨rfl, ⟨rfl, ⟨rfl, trivial⟩⟩⟩⟩⟩⟩⟩⟩⟩⟩⟩⟩) (lL_heaps_J102 F hr post (fun y0 y1 y2 y3 h => ih y0 y1 y2 y3 h) hct h)
          · have h := if_f (not_not_intro c5) h
            refine ga_iconst (v := 1) F dL_heaps_97 (by decide) ?_
            refine ga_goto (tgt := 102) F dL_heaps_98 (by decide) ?_
            exact GA.weak (by exact ⟨rfl, ⟨rfl, ⟨rfl, ⟨rfl, ⟨rfl, ⟨rfl, ⟨rfl, ⟨rfl, ⟨rfl, ⟨rfl, ⟨rfl, ⟨rfl, trivial⟩⟩⟩⟩⟩⟩⟩⟩⟩⟩⟩⟩) (lL_heaps_J102 F hr post (fun y0 y1 y2 y3 h => ih y0 y1 y2 y3 h) hct h)
set_option maxRecDepth 100000 in
set_option maxHeartbeats 4000000 in
theorem lL_heaps_L37 {X : Cx} {n0 : Nat} {Po : PQ} {A : AbS} {r : Int32} (F : Fx X RL cL_heaps 12 5 4 256) (hr : Fr X (some .boolean) Po 4 256) (post : ∀ (n' : Nat) (Ly : LL) (I : II) (P : PP), n' = n0 + 4 → Ac n' Ly I P A → Po (some (.inl r)) n' Ly I P) {x1 : Int32} {ct : Int32 → Int32 → II → Option Int32} (hct : ∀ (x2 : Int32) (x3 : Int32) (q : II), ct x2 x3 q = some r → GA none X 12 4 256 n0 4 298 [some (.inr (some 0)), some (.inl x1), some (.inl x2), some (.inl x3), some (.inr (some (n0 + 0))), some (.inr (some (n0 + 1))), some (.inr (some (n0 + 2))), some (.inr (some (n0 + 3))), none, none, none, none] [] A q) : ∀ (k : Nat) (x2 : Int32) (x3 : Int32) (x8 : Int32) (q : II), hL_heaps_L37 k ct x1 A x2 x3 x8 q = some r → GA none X 12 4 256 n0 4 37 [some (.inr (some 0)), some (.inl x1), some (.inl x2), some (.inl x3), some (.inr (some (n0 + 0))), some (.inr (some (n0 + 1))), some (.inr (some (n0 + 2))), some (.inr (some (n0 + 3))), some (.inl x8), none, none, none] [] A q := by
  intro k
  induction k with
  | zero =>
    intro x2 x3 x8 q h
    cases h
  | succ k ih =>
    intro x2 x3 x8 q h
    rw [hL_heaps_L37] at h
    refine ga_iload F dL_heaps_37 rfl ?_
    refine ga_aload_n F dL_heaps_39 rfl ?_
    refine ga_iconst (v := 0) F dL_heaps_40 (by decide) ?_
    refine ga_call F dL_heaps_41 (ac_count _) lkL_9 okX8_count rfl rfl (Nat.le_of_ble_eq_true rfl) (by decide) (by decide) (by decide) ?_
    refine ga_icmp_ge (tgt := 298) F dL_heaps_44 (by decide) (fun c1 => ?_) (fun c1 => ?_)
    · have h := if_t c1 h
      exact GA.weak (by exact ⟨rfl, ⟨rfl, ⟨rfl, ⟨rfl, ⟨rfl, ⟨rfl, ⟨rfl, ⟨rfl, trivial⟩⟩⟩⟩⟩⟩⟩⟩) (hct _ _ _ h)
    · have h := if_f c1 h
      refine ga_iconst (v := 0) F dL_heaps_47 (by decide) ?_
      refine ga_istore F dL_heaps_48 (by decide) (by decide) ?_
      refine GA.weak (by exact ⟨rfl, ⟨rfl, ⟨rfl, ⟨rfl, ⟨rfl, ⟨rfl, ⟨rfl, ⟨rfl, ⟨rfl, ⟨rfl, trivial⟩⟩⟩⟩⟩⟩⟩⟩⟩⟩) (lL_heaps_L50 F hr post (fun z32 z33 q34 h => ?_) 2000 _ _ _ _ h)
      refine ga_inc (c := 1) F dL_heaps_292 rfl (by decide) (by decide) (by decide) ?_
      refine ga_goto (tgt := 37) F dL_heaps_295 (by decide) ?_
      exact GA.weak (by exact ⟨rfl, ⟨rfl, ⟨rfl, ⟨rfl, ⟨rfl, ⟨rfl, ⟨rfl, ⟨rfl, ⟨rfl, trivial⟩⟩⟩⟩⟩⟩⟩⟩⟩) (ih _ _ _ _ h)
set_option maxRecDepth 100000 in
set_option maxHeartbeats 4000000 in
theorem lL_heaps_L304 {X : Cx} {n0 : Nat} {Po : PQ} {A : AbS} {r : Int32} (F : Fx X RL cL_heaps 12 5 4 256) (hr : Fr X (some .boolean) Po 4 256) (post : ∀ (n' : Nat) (Ly : LL) (I : II) (P : PP), n' = n0 + 4 → Ac n' Ly I P A → Po (some (.inl r)) n' Ly I P) {x1 : Int32} {x2 : Int32} {x3 : Int32} {q : II} {ct : Int32 → Option Int32} (hct : ∀ (x8 : Int32), ct x8 = some r → GA none X 12 4 256 n0 4 508 [some (.inr (some 0)), some (.inl x1), some (.inl x2), some (.inl x3), none, none, none, none, some (.inl x8), none, none, none] [] A q) : ∀ (k : Nat) (x8 : Int32) (x9 : Int32), hL_heaps_L304 k ct x1 x2 x3 A q x8 x9 = some r → GA none X 12 4 256 n0 4 304 [some (.inr (some 0)), some (.inl x1), some (.inl x2), some (.inl x3), some (.inr (some (n0 + 0))), some (.inr (some (n0 + 1))), some (.inr (some (n0 + 2))), some (.inr (some (n0 + 3))), some (.inl x8), some (.inl x9), none, none] [] A q := by
  intro k
  induction k with
  | zero =>
    intro x8 x9 h
    cases h
  | succ k ih =>
    intro x8 x9 h
    rw [hL_heaps_L304] at h
    refine ga_iload F dL_heaps_304 rfl ?_
    refine ga_iload_n F dL_heaps_306 rfl ?_
    refine ga_icmp_ge (tgt := 508) F dL_heaps_307 (by decide) (fun c38 => ?_) (fun c38 => ?_)
    · have h := if_t c38 h
      exact GA.weak (by exact ⟨rfl, ⟨rfl, ⟨rfl, ⟨rfl, ⟨rfl, trivial⟩⟩⟩⟩⟩) (hct _ h)
    · have h := if_f c38 h
      refine ga_iload F dL_heaps_310 rfl ?_
      refine ga_bipush (v := 64) F dL_heaps_312 (by decide) ?_
      refine ga_icmp_ge (tgt := 508) F dL_heaps_314 (by decide) (fun c39 => ?_) (fun c39 => ?_)
      · have h := if_t c39 h
        exact GA.weak (by exact ⟨rfl, ⟨rfl, ⟨rfl, ⟨rfl, ⟨rfl, trivial⟩⟩⟩⟩⟩) (hct _ h)
      · have h := if_f c39 h
        refine ga_iload F dL_heaps_317 rfl ?_
        refine ga_aload_n F dL_heaps_319 rfl ?_
        refine ga_iload F dL_heaps_320 rfl ?_
        refine ga_iconst (v := 1) F dL_heaps_322 (by decide) ?_
        refine ga_call F dL_heaps_323 (ac_heap _ _) lkL_22 okX8_heap rfl rfl (Nat.le_of_ble_eq_true rfl) (by decide) (by decide) (by decide) ?_
        refine ga_iadd F dL_heaps_326 ?_
        refine ga_istore F dL_heaps_327 (by decide) (by decide) ?_
        refine ga_aload_n F dL_heaps_329 rfl ?_
        refine ga_iload F dL_heaps_330 rfl ?_
        refine ga_iconst (v := 0) F dL_heaps_332 (by decide) ?_
        refine ga_call F dL_heaps_333 (ac_heap _ _) lkL_22 okX8_heap rfl rfl (Nat.le_of_ble_eq_true rfl) (by decide) (by decide) (by decide) ?_
        refine ga_aload F dL_heaps_336 rfl ?_
        refine ga_iload F dL_heaps_338 rfl ?_
        obtain ⟨hc40, h⟩ := ck_s h
        refine ga_iald (i := 3) F dL_heaps_340 (by decide) (ix_s hc40) ?_
        refine ga_icmp_ne (tgt := 418) F dL_heaps_341 (by decide) (fun c41 => ?_) (fun c41 => ?_)
        · have h := if_t c41 h
          refine ga_iconst (v := 0) F dL_heaps_418 (by decide) ?_
          have h := Option.some.inj h
          subst h
          exact ga_iret F rfl hr dL_heaps_419 rfl (by decide) (by decide) (fun Ly I P hA => post _ Ly I P rfl hA)
        · have h := if_f (not_not_intro c41) h
          refine ga_aload_n F dL_heaps_344 rfl ?_
          refine ga_iload F dL_heaps_345 rfl ?_
          refine ga_iconst (v := 1) F dL_heaps_347 (by decide) ?_
          refine ga_call F dL_heaps_348 (ac_heap _ _) lkL_22 okX8_heap rfl rfl (Nat.le_of_ble_eq_true rfl) (by decide) (by decide) (by decide) ?_
          refine ga_aload F dL_heaps_351 rfl ?_
          refine ga_iload F dL_heaps_353 rfl ?_
          obtain ⟨hc42, h⟩ := ck_s h
          refine ga_iald (i := 0) F dL_heaps_355 (by decide) (ix_s hc42) ?_
          refine ga_icmp_ne (tgt := 418) F dL_heaps_356 (by decide) (fun c43 => ?_) (fun c43 => ?_)
          · have h := if_t c43 h
            refine ga_iconst (v := 0) F dL_heaps_418 (by decide) ?_
            have h := Option.some.inj h
            subst h
            exact ga_iret F rfl hr dL_heaps_419 rfl (by decide) (by decide) (fun Ly I P hA => post _ Ly I P rfl hA)
          · have h := if_f (not_not_intro c43) h
            refine ga_aload_n F dL_heaps_359 rfl ?_
            refine ga_iload F dL_heaps_360 rfl ?_
            refine ga_iconst (v := 2) F dL_heaps_362 (by decide) ?_
            refine ga_call F dL_heaps_363 (ac_heap _ _) lkL_22 okX8_heap rfl rfl (Nat.le_of_ble_eq_true rfl) (by decide) (by decide) (by decide) ?_
            refine ga_aload F dL_heaps_366 rfl ?_
            refine ga_iload F dL_heaps_368 rfl ?_
            obtain ⟨hc44, h⟩ := ck_s h
            refine ga_iald (i := 2) F dL_heaps_370 (by decide) (ix_s hc44) ?_
            refine ga_bipush (v := 100) F dL_heaps_371 (by decide) ?_
            refine ga_idiv F dL_heaps_373 (by decide) ?_
            refine ga_icmp_ne (tgt := 418) F dL_heaps_374 (by decide) (fun c45 => ?_) (fun c45 => ?_)
            · have h := if_t c45 h
              refine ga_iconst (v := 0) F dL_heaps_418 (by decide) ?_
              have h := Option.some.inj h
              subst h
              exact ga_iret F rfl hr dL_heaps_419 rfl (by decide) (by decide) (fun Ly I P hA => post _ Ly I P rfl hA)
            · have h := if_f (not_not_intro c45) h
              refine ga_aload_n F dL_heaps_377 rfl ?_
              refine ga_iload F dL_heaps_378 rfl ?_
              refine ga_iconst (v := 3) F dL_heaps_380 (by decide) ?_
              refine ga_call F dL_heaps_381 (ac_heap _ _) lkL_22 okX8_heap rfl rfl (Nat.le_of_ble_eq_true rfl) (by decide) (by decide) (by decide) ?_
              refine ga_aload F dL_heaps_384 rfl ?_
              refine ga_iload F dL_heaps_386 rfl ?_
              obtain ⟨hc46, h⟩ := ck_s h
              refine ga_iald (i := 2) F dL_heaps_388 (by decide) (ix_s hc46) ?_
              refine ga_bipush (v := 100) F dL_heaps_389 (by decide) ?_
              refine ga_rem F dL_heaps_391 (by decide) ?_
              refine ga_icmp_ne (tgt := 418) F dL_heaps_392 (by decide) (fun c47 => ?_) (fun c47 => ?_)
              · have h := if_t c47 h
                refine ga_iconst (v := 0) F dL_heaps_418 (by decide) ?_
                have h := Option.some.inj h
                subst h
                exact ga_iret F rfl hr dL_heaps_419 rfl (by decide) (by decide) (fun Ly I P hA => post _ Ly I P rfl hA)
              · have h := if_f (not_not_intro c47) h
                refine ga_aload_n F dL_heaps_395 rfl ?_
                refine ga_iload F dL_heaps_396 rfl ?_
                refine ga_iconst (v := 4) F dL_heaps_398 (by decide) ?_
                refine ga_call F dL_heaps_399 (ac_heap _ _) lkL_22 okX8_heap rfl rfl (Nat.le_of_ble_eq_true rfl) (by decide) (by decide) (by decide) ?_
                refine ga_aload F dL_heaps_402 rfl ?_
                refine ga_iload F dL_heaps_404 rfl ?_
                obtain ⟨hc48, h⟩ := ck_s h
                refine ga_iald (i := 1) F dL_heaps_406 (by decide) (ix_s hc48) ?_
                refine ga_icmp_ne (tgt := 418) F dL_heaps_407 (by decide) (fun c49 => ?_) (fun c49 => ?_)
                · have h := if_t c49 h
                  refine ga_iconst (v := 0) F dL_heaps_418 (by decide) ?_
                  have h := Option.some.inj h
                  subst h
                  exact ga_iret F rfl hr dL_heaps_419 rfl (by decide) (by decide) (fun Ly I P hA => post _ Ly I P rfl hA)
                · have h := if_f (not_not_intro c49) h
                  refine ga_aload F dL_heaps_410 rfl ?_
                  refine ga_iload F dL_heaps_412 rfl ?_
                  obtain ⟨hc50, h⟩ := ck_s h
                  refine ga_iald (i := 0) F dL_heaps_414 (by decide) (ix_s hc50) ?_
                  refine ga_if_ne (tgt := 420) F dL_heaps_415 (by decide) (fun c51 => ?_) (fun c51 => ?_)
                  · have h := if_t c51 h
                    refine ga_iload F dL_heaps_420 rfl ?_
                    refine ga_if_le (tgt := 502) F dL_heaps_422 (by decide) (fun c52 => ?_) (fun c52 => ?_)
                    · have h := if_t c52 h
                      refine ga_inc (c := 1) F dL_heaps_502 rfl (by decide) (by decide) (by decide) ?_
                      refine ga_goto (tgt := 304) F dL_heaps_505 (by decide) ?_
                      exact GA.weak (by exact ⟨rfl, ⟨rfl, ⟨rfl, ⟨rfl, ⟨rfl, ⟨rfl, ⟨rfl, ⟨rfl, ⟨rfl, ⟨rfl, trivial⟩⟩⟩⟩⟩⟩⟩⟩⟩⟩) (ih _ _ h)
                    · have h := if_f c52 h
                      refine ga_aload F dL_heaps_425 rfl ?_
                      refine ga_iload F dL_heaps_427 rfl ?_
                      obtain ⟨hc53, h⟩ := ck_s h
                      refine ga_iald (i := 3) F dL_heaps_429 (by decide) (ix_s hc53) ?_
                      refine ga_aload F dL_heaps_430 rfl ?_
                      refine ga_iload F dL_heaps_432 rfl ?_
                      refine ga_iconst (v := 1) F dL_heaps_434 (by decide) ?_
                      refine ga_isub F dL_heaps_435 ?_
                      obtain ⟨hc54, h⟩ := ck_s h
                      refine ga_iald (i := 3) F dL_heaps_436 (by decide) (ix_s hc54) ?_
                      refine ga_icmp_gt (tgt := 500) F dL_heaps_437 (by decide) (fun c55 => ?_) (fun c55 => ?_)
                      · have h := if_t c55 h
                        refine ga_iconst (v := 0) F dL_heaps_500 (by decide) ?_
                        have h := Option.some.inj h
                        subst h
                        exact ga_iret F rfl hr dL_heaps_501 rfl (by decide) (by decide) (fun Ly I P hA => post _ Ly I P rfl hA)
                      · have h := if_f c55 h
                        refine ga_aload F dL_heaps_440 rfl ?_
                        refine ga_iload F dL_heaps_442 rfl ?_
                        obtain ⟨hc56, h⟩ := ck_s h
                        refine ga_iald (i := 3) F dL_heaps_444 (by decide) (ix_s hc56) ?_
                        refine ga_aload F dL_heaps_445 rfl ?_
                        refine ga_iload F dL_heaps_447 rfl ?_
                        refine ga_iconst (v := 1) F dL_heaps_449 (by decide) ?_
                        refine ga_isub F dL_heaps_450 ?_
                        obtain ⟨hc57, h⟩ := ck_s h
                        refine ga_iald (i := 3) F dL_heaps_451 (by decide) (ix_s hc57) ?_
                        refine ga_icmp_ne (tgt := 502) F dL_heaps_452 (by decide) (fun c58 => ?_) (fun c58 => ?_)
                        · have h := if_t c58 h
                          refine ga_inc (c := 1) F dL_heaps_502 rfl (by decide) (by decide) (by decide) ?_
                          refine ga_goto (tgt := 304) F dL_heaps_505 (by decide) ?_
                          exact GA.weak (by exact ⟨rfl, ⟨rfl, ⟨rfl, ⟨rfl, ⟨rfl, ⟨rfl, ⟨rfl, ⟨rfl, ⟨rfl, ⟨rfl, trivial⟩⟩⟩⟩⟩⟩⟩⟩⟩⟩) (ih _ _ h)
                        · have h := if_f (not_not_intro c58) h
                          refine ga_aload F dL_heaps_455 rfl ?_
                          refine ga_iload F dL_heaps_457 rfl ?_
                          obtain ⟨hc59, h⟩ := ck_s h
                          refine ga_iald (i := 0) F dL_heaps_459 (by decide) (ix_s hc59) ?_
                          refine ga_aload F dL_heaps_460 rfl ?_
                          refine ga_iload F dL_heaps_462 rfl ?_
                          refine ga_iconst (v := 1) F dL_heaps_464 (by decide) ?_
                          refine ga_isub F dL_heaps_465 ?_
                          obtain ⟨hc60, h⟩ := ck_s h
                          refine ga_iald (i := 0) F dL_heaps_466 (by decide) (ix_s hc60) ?_
                          refine ga_icmp_lt (tgt := 500) F dL_heaps_467 (by decide) (fun c61 => ?_) (fun c61 => ?_)
                          · have h := if_t c61 h
                            refine ga_iconst (v := 0) F dL_heaps_500 (by decide) ?_
                            have h := Option.some.inj h
                            subst h
                            exact ga_iret F rfl hr dL_heaps_501 rfl (by decide) (by decide) (fun Ly I P hA => post _ Ly I P rfl hA)
                          · have h := if_f c61 h
                            refine ga_aload F dL_heaps_470 rfl ?_
                            refine ga_iload F dL_heaps_472 rfl ?_
                            obtain ⟨hc62, h⟩ := ck_s h
                            refine ga_iald (i := 0) F dL_heaps_474 (by decide) (ix_s hc62) ?_
                            refine ga_aload F dL_heaps_475 rfl ?_
                            refine ga_iload F dL_heaps_477 rfl ?_
                            refine ga_iconst (v := 1) F dL_heaps_479 (by decide) ?_
                            refine ga_isub F dL_heaps_480 ?_
                            obtain ⟨hc63, h⟩ := ck_s h
                            refine ga_iald (i := 0) F dL_heaps_481 (by decide) (ix_s hc63) ?_
                            refine ga_icmp_ne (tgt := 502) F dL_heaps_482 (by decide) (fun c64 => ?_) (fun c64 => ?_)
                            · have h := if_t c64 h
                              refine ga_inc (c := 1) F dL_heaps_502 rfl (by decide) (by decide) (by decide) ?_
                              refine ga_goto (tgt := 304) F dL_heaps_505 (by decide) ?_
                              exact GA.weak (by exact ⟨rfl, ⟨rfl, ⟨rfl, ⟨rfl, ⟨rfl, ⟨rfl, ⟨rfl, ⟨rfl, ⟨rfl, ⟨rfl, trivial⟩⟩⟩⟩⟩⟩⟩⟩⟩⟩) (ih _ _ h)
                            · have h := if_f (not_not_intro c64) h
                              refine ga_aload F dL_heaps_485 rfl ?_
                              refine ga_iload F dL_heaps_487 rfl ?_
                              obtain ⟨hc65, h⟩ := ck_s h
                              refine ga_iald (i := 2) F dL_heaps_489 (by decide) (ix_s hc65) ?_
                              refine ga_aload F dL_heaps_490 rfl ?_
                              refine ga_iload F dL_heaps_492 rfl ?_
                              refine ga_iconst (v := 1) F dL_heaps_494 (by decide) ?_
                              refine ga_isub F dL_heaps_495 ?_
                              obtain ⟨hc66, h⟩ := ck_s h
                              refine ga_iald (i := 2) F dL_heaps_496 (by decide) (ix_s hc66) ?_
                              refine ga_icmp_ge (tgt := 502) F dL_heaps_497 (by decide) (fun c67 => ?_) (fun c67 => ?_)
                              · have h := if_t c67 h
                                refine ga_inc (c := 1) F dL_heaps_502 rfl (by decide) (by decide) (by decide) ?_
                                refine ga_goto (tgt := 304) F dL_heaps_505 (by decide) ?_
                                exact GA.weak (by exact ⟨rfl, ⟨rfl, ⟨rfl, ⟨rfl, ⟨rfl, ⟨rfl, ⟨rfl, ⟨rfl, ⟨rfl, ⟨rfl, trivial⟩⟩⟩⟩⟩⟩⟩⟩⟩⟩) (ih _ _ h)
                              · have h := if_f c67 h
                                refine ga_iconst (v := 0) F dL_heaps_500 (by decide) ?_
                                have h := Option.some.inj h
                                subst h
                                exact ga_iret F rfl hr dL_heaps_501 rfl (by decide) (by decide) (fun Ly I P hA => post _ Ly I P rfl hA)
                  · have h := if_f (not_not_intro c51) h
                    refine ga_iconst (v := 0) F dL_heaps_418 (by decide) ?_
                    have h := Option.some.inj h
                    subst h
                    exact ga_iret F rfl hr dL_heaps_419 rfl (by decide) (by decide) (fun Ly I P hA => post _ Ly I P rfl hA)
set_option maxRecDepth 100000 in
set_option maxHeartbeats 4000000 in
theorem lL_heaps_J529 {X : Cx} {n0 : Nat} {Po : PQ} {A : AbS} {r : Int32} (F : Fx X RL cL_heaps 12 5 4 256) (hr : Fr X (some .boolean) Po 4 256) (post : ∀ (n' : Nat) (Ly : LL) (I : II) (P : PP), n' = n0 + 4 → Ac n' Ly I P A → Po (some (.inl r)) n' Ly I P) {q : II} {x1 : Int32} (h : hL_heaps_J529 A q x1 = some r) : GA none X 12 4 256 n0 4 529 [some (.inr (some 0)), some (.inl x1), none, none, none, none, none, none, none, none, none, none] [] A q := by
  unfold hL_heaps_J529 at h
  refine ga_aload_n F dL_heaps_529 rfl ?_
  refine ga_iload_n F dL_heaps_530 rfl ?_
  refine ga_iconst (v := 0) F dL_heaps_531 (by decide) ?_
  refine ga_call F dL_heaps_532 (ac_heap _ _) lkL_22 okX8_heap rfl rfl (Nat.le_of_ble_eq_true rfl) (by decide) (by decide) (by decide) ?_
  refine ga_bipush (v := (-5)) F dL_heaps_535 (by decide) ?_
  refine ga_icmp_ne (tgt := 566) F dL_heaps_537 (by decide) (fun c71 => ?_) (fun c71 => ?_)
  · have h := if_t c71 h
    refine ga_iconst (v := 0) F dL_heaps_566 (by decide) ?_
    have h := Option.some.inj h
    subst h
    exact ga_iret F rfl hr dL_heaps_567 rfl (by decide) (by decide) (fun Ly I P hA => post _ Ly I P rfl hA)
  · have h := if_f (not_not_intro c71) h
    refine ga_aload_n F dL_heaps_540 rfl ?_
    refine ga_iconst (v := (-1)) F dL_heaps_541 (by decide) ?_
    refine ga_iconst (v := 0) F dL_heaps_542 (by decide) ?_
    refine ga_call F dL_heaps_543 (ac_heap _ _) lkL_22 okX8_heap rfl rfl (Nat.le_of_ble_eq_true rfl) (by decide) (by decide) (by decide) ?_
    refine ga_bipush (v := (-2)) F dL_heaps_546 (by decide) ?_
    refine ga_icmp_ne (tgt := 566) F dL_heaps_548 (by decide) (fun c72 => ?_) (fun c72 => ?_)
    · have h := if_t c72 h
      refine ga_iconst (v := 0) F dL_heaps_566 (by decide) ?_
      have h := Option.some.inj h
      subst h
      exact ga_iret F rfl hr dL_heaps_567 rfl (by decide) (by decide) (fun Ly I P hA => post _ Ly I P rfl hA)
    · have h := if_f (not_not_intro c72) h
      refine ga_aload_n F dL_heaps_551 rfl ?_
      refine ga_iconst (v := 0) F dL_heaps_552 (by decide) ?_
      refine ga_iconst (v := 5) F dL_heaps_553 (by decide) ?_
      refine ga_call F dL_heaps_554 (ac_heap _ _) lkL_22 okX8_heap rfl rfl (Nat.le_of_ble_eq_true rfl) (by decide) (by decide) (by decide) ?_
      refine ga_bipush (v := (-2)) F dL_heaps_557 (by decide) ?_
      refine ga_icmp_ne (tgt := 566) F dL_heaps_559 (by decide) (fun c73 => ?_) (fun c73 => ?_)
      · have h := if_t c73 h
        refine ga_iconst (v := 0) F dL_heaps_566 (by decide) ?_
        have h := Option.some.inj h
        subst h
        exact ga_iret F rfl hr dL_heaps_567 rfl (by decide) (by decide) (fun Ly I P hA => post _ Ly I P rfl hA)
      · have h := if_f (not_not_intro c73) h
        refine ga_iconst (v := 1) F dL_heaps_562 (by decide) ?_
        refine ga_goto (tgt := 567) F dL_heaps_563 (by decide) ?_
        have h := Option.some.inj h
        subst h
        exact ga_iret F rfl hr dL_heaps_567 rfl (by decide) (by decide) (fun Ly I P hA => post _ Ly I P rfl hA)
set_option maxRecDepth 100000 in
set_option maxHeartbeats 4000000 in
theorem bL_heaps {X : Cx} {n0 : Nat} {Po : PQ} {A : AbS} {r : Int32} (F : Fx X RL cL_heaps 12 5 4 256) (hr : Fr X (some .boolean) Po 4 256) (post : ∀ (n' : Nat) (Ly : LL) (I : II) (P : PP), n' = n0 + 4 → Ac n' Ly I P A → Po (some (.inl r)) n' Ly I P)  (h : hL_heaps A = some r) : GA none X 12 0 0 n0 0 0 [some (.inr (some 0)), none, none, none, none, none, none, none, none, none, none, none] [] A (fun _ _ => 0) := by
  unfold hL_heaps at h
  refine ga_aload_n F dL_heaps_0 rfl ?_
  refine ga_iconst (v := 5) F dL_heaps_1 (by decide) ?_
  refine ga_call F dL_heaps_2 (ac_count _) lkL_9 okX8_count rfl rfl (Nat.le_of_ble_eq_true rfl) (by decide) (by decide) (by decide) ?_
  refine ga_istore_n F dL_heaps_5 (by decide) (by decide) ?_
  refine ga_iconst (v := 0) F dL_heaps_6 (by decide) ?_
  refine ga_istore_n F dL_heaps_7 (by decide) (by decide) ?_
  refine ga_iconst (v := 0) F dL_heaps_8 (by decide) ?_
  refine ga_istore_n F dL_heaps_9 (by decide) (by decide) ?_
  refine ga_bipush (v := 64) F dL_heaps_10 (by decide) ?_
  refine ga_newa (kc := 0) (ks := 0) (m := 0) F rfl dL_heaps_12 rfl (by decide) (by decide) ?_
  refine ga_astore F dL_heaps_14 (by decide) (by decide) ?_
  refine ga_bipush (v := 64) F dL_heaps_16 (by decide) ?_
  refine ga_newa (kc := 1) (ks := 64) (m := 1) F rfl dL_heaps_18 rfl (by decide) (by decide) ?_
  refine ga_astore F dL_heaps_20 (by decide) (by decide) ?_
  refine ga_bipush (v := 64) F dL_heaps_22 (by decide) ?_
  refine ga_newa (kc := 2) (ks := 128) (m := 2) F rfl dL_heaps_24 rfl (by decide) (by decide) ?_
  refine ga_astore F dL_heaps_26 (by decide) (by decide) ?_
  refine ga_bipush (v := 64) F dL_heaps_28 (by decide) ?_
  refine ga_newa (kc := 3) (ks := 192) (m := 3) F rfl dL_heaps_30 rfl (by decide) (by decide) ?_
  refine ga_astore F dL_heaps_32 (by decide) (by decide) ?_
  refine ga_iconst (v := 0) F dL_heaps_34 (by decide) ?_
  refine ga_istore F dL_heaps_35 (by decide) (by decide) ?_
  refine GA.weak (by exact ⟨rfl, ⟨rfl, ⟨rfl, ⟨rfl, ⟨rfl, ⟨rfl, ⟨rfl, ⟨rfl, ⟨rfl, trivial⟩⟩⟩⟩⟩⟩⟩⟩⟩) (lL_heaps_L37 F hr post (fun z35 z36 q37 h => ?_) 2000 _ _ _ _ h)
  refine ga_iconst (v := 0) F dL_heaps_298 (by decide) ?_
  refine ga_istore F dL_heaps_299 (by decide) (by decide) ?_
  refine ga_iconst (v := 0) F dL_heaps_301 (by decide) ?_
  refine ga_istore F dL_heaps_302 (by decide) (by decide) ?_
  refine GA.weak (by exact ⟨rfl, ⟨rfl, ⟨rfl, ⟨rfl, ⟨rfl, ⟨rfl, ⟨rfl, ⟨rfl, ⟨rfl, ⟨rfl, trivial⟩⟩⟩⟩⟩⟩⟩⟩⟩⟩) (lL_heaps_L304 F hr post (fun z68 h => ?_) 2000 _ _ h)
  refine ga_aload_n F dL_heaps_508 rfl ?_
  refine ga_iconst (v := 3) F dL_heaps_509 (by decide) ?_
  refine ga_call F dL_heaps_510 (ac_count _) lkL_9 okX8_count rfl rfl (Nat.le_of_ble_eq_true rfl) (by decide) (by decide) (by decide) ?_
  refine ga_iload_n F dL_heaps_513 rfl ?_
  refine ga_icmp_ne (tgt := 566) F dL_heaps_514 (by decide) (fun c69 => ?_) (fun c69 => ?_)
  · have h := if_t c69 h
    refine ga_iconst (v := 0) F dL_heaps_566 (by decide) ?_
    have h := Option.some.inj h
    subst h
    exact ga_iret F rfl hr dL_heaps_567 rfl (by decide) (by decide) (fun Ly I P hA => post _ Ly I P rfl hA)
  · have h := if_f (not_not_intro c69) h
    refine ga_iload_n F dL_heaps_517 rfl ?_
    refine ga_bipush (v := 64) F dL_heaps_518 (by decide) ?_
    refine ga_icmp_gt (tgt := 529) F dL_heaps_520 (by decide) (fun c70 => ?_) (fun c70 => ?_)
    · have h := if_t c70 h
      exact GA.weak (by exact ⟨rfl, ⟨rfl, trivial⟩⟩) (lL_heaps_J529 F hr post h)
    · have h := if_f c70 h
      refine ga_iload F dL_heaps_523 rfl ?_
      refine ga_iload_n F dL_heaps_525 rfl ?_
      refine ga_icmp_ne (tgt := 566) F dL_heaps_526 (by decide) (fun c74 => ?_) (fun c74 => ?_)
      · have h := if_t c74 h
        refine ga_iconst (v := 0) F dL_heaps_566 (by decide) ?_
        have h := Option.some.inj h
        subst h
        exact ga_iret F rfl hr dL_heaps_567 rfl (by decide) (by decide) (fun Ly I P hA => post _ Ly I P rfl hA)
      · have h := if_f (not_not_intro c74) h
        exact GA.weak (by exact ⟨rfl, ⟨rfl, trivial⟩⟩) (lL_heaps_J529 F hr post h)
set_option maxRecDepth 100000 in
set_option maxHeartbeats 4000000 in
theorem al_heaps {A : AbS} {r : Int32}  (h : hL_heaps A = some r) : AL mL_heaps [.inr (some 0)] 4 256 A r A   := al_of (by decide +kernel) (Nat.le_of_ble_eq_true rfl) (by decide) (fun X n q Po F hr post => fun Ly I P h1 hA hq => bL_heaps F hr post h Ly I P h1 hA (fun i hi => absurd hi (by omega)))
