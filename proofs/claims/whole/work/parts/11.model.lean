-- ChipPilersModel.in
def fX9_in (x0 : Int32) (x1 : Int32) (x2 : Int32) : Option (Int32) := (if x0 < x1 then some 0 else (if x2 < x0 then some 0 else some 1))
set_option maxRecDepth 100000 in
set_option maxHeartbeats 4000000 in
theorem bX9_in {X : Cx} {n : Nat} {Ly : LL} {I : II} {P : PP} {Po : PQ} {r : Int32} (F : Fx X RX9 cX9_in 3 1 0 0) (hs : ShM n Ly P) (hr : Fr X (some .boolean) Po 0 0) (post : Po (some (.inl r)) n Ly I P) {x0 : Int32} {x1 : Int32} {x2 : Int32} (h : fX9_in x0 x1 x2 = some r) : G X 3 0 0 n Ly 0 [some (.inl x0), some (.inl x1), some (.inl x2)] [] I P := by
  unfold fX9_in at h
  refine s_iload_n F dX9_in_0 rfl ?_
  refine s_iload_n F dX9_in_1 rfl ?_
  refine s_icmp_lt (tgt := 14) F dX9_in_2 (by decide) (fun c1 => ?_) (fun c1 => ?_)
  · have h := if_t c1 h
    refine s_iconst (v := 0) F dX9_in_14 (by decide) ?_
    have h := Option.some.inj h
    subst h
    exact s_iret F hr dX9_in_15 rfl (Nat.le_refl _) (Nat.le_refl _) post
  · have h := if_f c1 h
    refine s_iload_n F dX9_in_5 rfl ?_
    refine s_iload_n F dX9_in_6 rfl ?_
    refine s_icmp_gt (tgt := 14) F dX9_in_7 (by decide) (fun c2 => ?_) (fun c2 => ?_)
    · have h := if_t c2 h
      refine s_iconst (v := 0) F dX9_in_14 (by decide) ?_
      have h := Option.some.inj h
      subst h
      exact s_iret F hr dX9_in_15 rfl (Nat.le_refl _) (Nat.le_refl _) post
    · have h := if_f c2 h
      refine s_iconst (v := 1) F dX9_in_10 (by decide) ?_
      refine s_goto (tgt := 15) F dX9_in_11 (by decide) ?_
      have h := Option.some.inj h
      subst h
      exact s_iret F hr dX9_in_15 rfl (Nat.le_refl _) (Nat.le_refl _) post
set_option maxRecDepth 100000 in
set_option maxHeartbeats 4000000 in
theorem c_X9_in {n : Nat} {Ly : LL} {I : II} {P : PP} {r : Int32} (hs : ShM n Ly P) {x0 : Int32} {x1 : Int32} {x2 : Int32} (h : fX9_in x0 x1 x2 = some r) (l : Launch) (s0 : Nat) (D : va_G) (DA : Nat → ClassId) : Ct l s0 D DA mX9_in [.inl x0, .inl x1, .inl x2] 0 0 n Ly I P (PoD (some (.inl r)) n Ly I P) := ct_of (by decide +kernel) (Nat.le_of_ble_eq_true rfl) (fun X F hr _ => bX9_in F hs hr ⟨rfl, rfl, rfl, rfl, rfl⟩ h)
-- ChipPilersModel.lesser
def fX9_lesser (x0 : Int32) (x1 : Int32) : Option (Int32) := (if x1 ≤ x0 then some x1 else some x0)
set_option maxRecDepth 100000 in
set_option maxHeartbeats 4000000 in
theorem bX9_lesser {X : Cx} {n : Nat} {Ly : LL} {I : II} {P : PP} {Po : PQ} {r : Int32} (F : Fx X RX9 cX9_lesser 2 1 0 0) (hs : ShM n Ly P) (hr : Fr X (some .int) Po 0 0) (post : Po (some (.inl r)) n Ly I P) {x0 : Int32} {x1 : Int32} (h : fX9_lesser x0 x1 = some r) : G X 2 0 0 n Ly 0 [some (.inl x0), some (.inl x1)] [] I P := by
  unfold fX9_lesser at h
  refine s_iload_n F dX9_lesser_0 rfl ?_
  refine s_iload_n F dX9_lesser_1 rfl ?_
  refine s_icmp_ge (tgt := 9) F dX9_lesser_2 (by decide) (fun c1 => ?_) (fun c1 => ?_)
  · have h := if_t c1 h
    refine s_iload_n F dX9_lesser_9 rfl ?_
    have h := Option.some.inj h
    subst h
    exact s_iret F hr dX9_lesser_10 rfl (Nat.le_refl _) (Nat.le_refl _) post
  · have h := if_f c1 h
    refine s_iload_n F dX9_lesser_5 rfl ?_
    refine s_goto (tgt := 10) F dX9_lesser_6 (by decide) ?_
    have h := Option.some.inj h
    subst h
    exact s_iret F hr dX9_lesser_10 rfl (Nat.le_refl _) (Nat.le_refl _) post
set_option maxRecDepth 100000 in
set_option maxHeartbeats 4000000 in
theorem c_X9_lesser {n : Nat} {Ly : LL} {I : II} {P : PP} {r : Int32} (hs : ShM n Ly P) {x0 : Int32} {x1 : Int32} (h : fX9_lesser x0 x1 = some r) (l : Launch) (s0 : Nat) (D : va_G) (DA : Nat → ClassId) : Ct l s0 D DA mX9_lesser [.inl x0, .inl x1] 0 0 n Ly I P (PoD (some (.inl r)) n Ly I P) := ct_of (by decide +kernel) (Nat.le_of_ble_eq_true rfl) (fun X F hr _ => bX9_lesser F hs hr ⟨rfl, rfl, rfl, rfl, rfl⟩ h)
-- ChipPilersModel.begin
def fX9_begin_L2 : Nat → (II → Option (II)) → Int32 → II → Option (II)
  | 0, _, _, _ => none
  | k + 1, ct, x1, I => (if 367 ≤ x1 then ct I else ck (ix x1 367) (ck (ix x1 367) ((some (up2 I 136 x1.toNatClampNeg (I 135 x1.toNatClampNeg))).bind fun I4 => fX9_begin_L2 k ct (x1 + 1) I4)))
def fX9_begin (I : II) : Option (II) := fX9_begin_L2 2000 (fun I5 => some I5) 0 I
set_option maxRecDepth 100000 in
set_option maxHeartbeats 4000000 in
theorem lX9_begin_L2 {X : Cx} {n : Nat} {Ly : LL} {P : PP} {Po : PQ} {r : II} (F : Fx X RX9 cX9_begin 2 1 0 0) (hs : ShM n Ly P) (hr : Fr X none Po 0 0) (post : Po none n Ly r P)  {ct : II → Option (II)} (hct : ∀  (I : II), ct  I = some r → G X 2 0 0 n Ly 27 [none, none] [] I P) : ∀ (k : Nat) (x1 : Int32) (I : II), fX9_begin_L2 k ct x1 I = some r → G X 2 0 0 n Ly 2 [some (.inr (some 134)), some (.inl x1)] [] I P := by
  intro k
  induction k with
  | zero =>
    intro x1 I h
    cases h
  | succ k ih =>
    intro x1 I h
    rw [fX9_begin_L2] at h
    refine s_iload_n F dX9_begin_2 rfl ?_
    refine s_sipush (v := 367) F dX9_begin_3 (by decide) ?_
    refine s_icmp_ge (tgt := 27) F dX9_begin_6 (by decide) (fun c1 => ?_) (fun c1 => ?_)
    · have h := if_t c1 h
      exact G.weak (by exact trivial) (hct _ h)
    · have h := if_f c1 h
      refine s_aload_n F dX9_begin_9 rfl ?_
      refine s_getR F dX9_begin_10 flX9_13 (ly134 hs) (lt134 hs) rfl (p134_1 hs) ?_
      refine s_iload_n F dX9_begin_13 rfl ?_
      refine s_aload_n F dX9_begin_14 rfl ?_
      refine s_getR F dX9_begin_15 flX9_7 (ly134 hs) (lt134 hs) rfl (p134_0 hs) ?_
      refine s_iload_n F dX9_begin_18 rfl ?_
      obtain ⟨hc2, h⟩ := ck_s h
      refine s_iald F dX9_begin_19 (ly135 hs) (lt135 hs) (ix_s hc2) ?_
      obtain ⟨hc3, h⟩ := ck_s h
      have h := bd_s h
      refine s_iast F dX9_begin_20 (ly136 hs) (lt136 hs) (ix_s hc3) ?_
      refine s_inc (c := 1) F dX9_begin_21 rfl (by decide) (by decide) ?_
      refine s_goto (tgt := 2) F dX9_begin_24 (by decide) ?_
      exact G.weak (by exact ⟨rfl, ⟨rfl, trivial⟩⟩) (ih _ _ h)
set_option maxRecDepth 100000 in
set_option maxHeartbeats 4000000 in
theorem bX9_begin {X : Cx} {n : Nat} {Ly : LL} {I : II} {P : PP} {Po : PQ} {r : II} (F : Fx X RX9 cX9_begin 2 1 0 0) (hs : ShM n Ly P) (hr : Fr X none Po 0 0) (post : Po none n Ly r P)  (h : fX9_begin I = some r) : G X 2 0 0 n Ly 0 [some (.inr (some 134)), none] [] I P := by
  unfold fX9_begin at h
  refine s_iconst (v := 0) F dX9_begin_0 (by decide) ?_
  refine s_istore_n F dX9_begin_1 (by decide) ?_
  refine G.weak (by exact ⟨rfl, ⟨rfl, trivial⟩⟩) (lX9_begin_L2 F hs hr post (fun I5 h => ?_) 2000 _ _ h)
  have h := Option.some.inj h
  subst h
  exact s_vret F hr dX9_begin_27 (Nat.le_refl _) (Nat.le_refl _) post
set_option maxRecDepth 100000 in
set_option maxHeartbeats 4000000 in
theorem c_X9_begin {n : Nat} {Ly : LL} {I : II} {P : PP} {r : II} (hs : ShM n Ly P)  (h : fX9_begin I = some r) (l : Launch) (s0 : Nat) (D : va_G) (DA : Nat → ClassId) : Ct l s0 D DA mX9_begin [.inr (some 134)] 0 0 n Ly I P (PoD none n Ly r P) := ct_of (by decide +kernel) (Nat.le_of_ble_eq_true rfl) (fun X F hr _ => bX9_begin F hs hr ⟨rfl, rfl, rfl, rfl, rfl⟩ h)
-- ChipPilersModel.goBack
def fX9_goBack_L2 : Nat → (II → Option (II)) → Int32 → II → Option (II)
  | 0, _, _, _ => none
  | k + 1, ct, x1, I => (if 367 ≤ x1 then ct I else ck (ix x1 367) (ck (ix x1 367) ((some (up2 I 135 x1.toNatClampNeg (I 136 x1.toNatClampNeg))).bind fun I4 => fX9_goBack_L2 k ct (x1 + 1) I4)))
def fX9_goBack (I : II) : Option (II) := fX9_goBack_L2 2000 (fun I5 => some I5) 0 I
set_option maxRecDepth 100000 in
set_option maxHeartbeats 4000000 in
theorem lX9_goBack_L2 {X : Cx} {n : Nat} {Ly : LL} {P : PP} {Po : PQ} {r : II} (F : Fx X RX9 cX9_goBack 2 1 0 0) (hs : ShM n Ly P) (hr : Fr X none Po 0 0) (post : Po none n Ly r P)  {ct : II → Option (II)} (hct : ∀  (I : II), ct  I = some r → G X 2 0 0 n Ly 27 [none, none] [] I P) : ∀ (k : Nat) (x1 : Int32) (I : II), fX9_goBack_L2 k ct x1 I = some r → G X 2 0 0 n Ly 2 [some (.inr (some 134)), some (.inl x1)] [] I P := by
  intro k
  induction k with
  | zero =>
    intro x1 I h
    cases h
  | succ k ih =>
    intro x1 I h
    rw [fX9_goBack_L2] at h
    refine s_iload_n F dX9_goBack_2 rfl ?_
    refine s_sipush (v := 367) F dX9_goBack_3 (by decide) ?_
    refine s_icmp_ge (tgt := 27) F dX9_goBack_6 (by decide) (fun c1 => ?_) (fun c1 => ?_)
    · have h := if_t c1 h
      exact G.weak (by exact trivial) (hct _ h)
    · have h := if_f c1 h
      refine s_aload_n F dX9_goBack_9 rfl ?_
      refine s_getR F dX9_goBack_10 flX9_7 (ly134 hs) (lt134 hs) rfl (p134_0 hs) ?_
      refine s_iload_n F dX9_goBack_13 rfl ?_
      refine s_aload_n F dX9_goBack_14 rfl ?_
      refine s_getR F dX9_goBack_15 flX9_13 (ly134 hs) (lt134 hs) rfl (p134_1 hs) ?_
      refine s_iload_n F dX9_goBack_18 rfl ?_
      obtain ⟨hc2, h⟩ := ck_s h
      refine s_iald F dX9_goBack_19 (ly136 hs) (lt136 hs) (ix_s hc2) ?_
      obtain ⟨hc3, h⟩ := ck_s h
      have h := bd_s h
      refine s_iast F dX9_goBack_20 (ly135 hs) (lt135 hs) (ix_s hc3) ?_
      refine s_inc (c := 1) F dX9_goBack_21 rfl (by decide) (by decide) ?_
      refine s_goto (tgt := 2) F dX9_goBack_24 (by decide) ?_
      exact G.weak (by exact ⟨rfl, ⟨rfl, trivial⟩⟩) (ih _ _ h)
set_option maxRecDepth 100000 in
set_option maxHeartbeats 4000000 in
theorem bX9_goBack {X : Cx} {n : Nat} {Ly : LL} {I : II} {P : PP} {Po : PQ} {r : II} (F : Fx X RX9 cX9_goBack 2 1 0 0) (hs : ShM n Ly P) (hr : Fr X none Po 0 0) (post : Po none n Ly r P)  (h : fX9_goBack I = some r) : G X 2 0 0 n Ly 0 [some (.inr (some 134)), none] [] I P := by
  unfold fX9_goBack at h
  refine s_iconst (v := 0) F dX9_goBack_0 (by decide) ?_
  refine s_istore_n F dX9_goBack_1 (by decide) ?_
  refine G.weak (by exact ⟨rfl, ⟨rfl, trivial⟩⟩) (lX9_goBack_L2 F hs hr post (fun I5 h => ?_) 2000 _ _ h)
  have h := Option.some.inj h
  subst h
  exact s_vret F hr dX9_goBack_27 (Nat.le_refl _) (Nat.le_refl _) post
set_option maxRecDepth 100000 in
set_option maxHeartbeats 4000000 in
theorem c_X9_goBack {n : Nat} {Ly : LL} {I : II} {P : PP} {r : II} (hs : ShM n Ly P)  (h : fX9_goBack I = some r) (l : Launch) (s0 : Nat) (D : va_G) (DA : Nat → ClassId) : Ct l s0 D DA mX9_goBack [.inr (some 134)] 0 0 n Ly I P (PoD none n Ly r P) := ct_of (by decide +kernel) (Nat.le_of_ble_eq_true rfl) (fun X F hr _ => bX9_goBack F hs hr ⟨rfl, rfl, rfl, rfl, rfl⟩ h)
-- ChipPilersModel.done
def fX9_done_L56 : Nat → (II → Option (Int32 × II)) → Int32 → Int32 → II → Option (Int32 × II)
  | 0, _, _, _, _ => none
  | k + 1, ct, x1, x2, I => (if 367 ≤ x2 then ct I else ck (ix x2 367) (ck (ix ((367 * (I 134 3)) + x2) 1835) ((some (up2 I 137 ((367 * (I 134 3)) + x2).toNatClampNeg (I 136 x2.toNatClampNeg))).bind fun I5 => fX9_done_L56 k ct x1 (x2 + 1) I5)))
def fX9_done_L20 : Nat → (II → Option (Int32 × II)) → Int32 → Int32 → II → Option (Int32 × II)
  | 0, _, _, _, _ => none
  | k + 1, ct, x1, x2, I => (if (367 * (I 134 3)) ≤ x2 then ct I else ck (ix (x2 + 367) 1835) (ck (ix x2 1835) ((some (up2 I 137 x2.toNatClampNeg (I 137 (x2 + 367).toNatClampNeg))).bind fun I12 => fX9_done_L20 k ct x1 (x2 + 1) I12)))
def fX9_done (I : II) (x1 : Int32) : Option (Int32 × II) := (if ¬ (I 134 3) = 5 then fX9_done_L56 2000 (fun I6 => (some (up2 I6 134 3 ((I6 134 3) + 1))).bind fun I7 => some (x1, I7)) x1 0 I else (some (up2 I 134 3 ((I 134 3) - 1))).bind fun I8 => fX9_done_L20 2000 (fun I13 => fX9_done_L56 2000 (fun I14 => (some (up2 I14 134 3 ((I14 134 3) + 1))).bind fun I15 => some (x1, I15)) x1 0 I13) x1 0 I8)
set_option maxRecDepth 100000 in
set_option maxHeartbeats 4000000 in
theorem lX9_done_L56 {X : Cx} {n : Nat} {Ly : LL} {P : PP} {Po : PQ} {r : Int32 × II} (F : Fx X RX9 cX9_done 3 1 0 0) (hs : ShM n Ly P) (hr : Fr X (some .int) Po 0 0) (post : Po (some (.inl r.1)) n Ly r.2 P) {x1 : Int32} {ct : II → Option (Int32 × II)} (hct : ∀  (I : II), ct  I = some r → G X 3 0 0 n Ly 90 [some (.inr (some 134)), some (.inl x1), none] [] I P) : ∀ (k : Nat) (x2 : Int32) (I : II), fX9_done_L56 k ct x1 x2 I = some r → G X 3 0 0 n Ly 56 [some (.inr (some 134)), some (.inl x1), some (.inl x2)] [] I P := by
  intro k
  induction k with
  | zero =>
    intro x2 I h
    cases h
  | succ k ih =>
    intro x2 I h
    rw [fX9_done_L56] at h
    refine s_iload_n F dX9_done_56 rfl ?_
    refine s_sipush (v := 367) F dX9_done_57 (by decide) ?_
    refine s_icmp_ge (tgt := 90) F dX9_done_60 (by decide) (fun c2 => ?_) (fun c2 => ?_)
    · have h := if_t c2 h
      exact G.weak (by exact ⟨rfl, ⟨rfl, trivial⟩⟩) (hct _ h)
    · have h := if_f c2 h
      refine s_aload_n F dX9_done_63 rfl ?_
      refine s_getR F dX9_done_64 flX9_16 (ly134 hs) (lt134 hs) rfl (p134_2 hs) ?_
      refine s_sipush (v := 367) F dX9_done_67 (by decide) ?_
      refine s_aload_n F dX9_done_70 rfl ?_
      refine s_getI F dX9_done_71 flX9_54 (ly134 hs) (lt134 hs) rfl ?_
      refine s_imul F dX9_done_74 ?_
      refine s_iload_n F dX9_done_75 rfl ?_
      refine s_iadd F dX9_done_76 ?_
      refine s_aload_n F dX9_done_77 rfl ?_
      refine s_getR F dX9_done_78 flX9_13 (ly134 hs) (lt134 hs) rfl (p134_1 hs) ?_
      refine s_iload_n F dX9_done_81 rfl ?_
      obtain ⟨hc3, h⟩ := ck_s h
      refine s_iald F dX9_done_82 (ly136 hs) (lt136 hs) (ix_s hc3) ?_
      obtain ⟨hc4, h⟩ := ck_s h
      have h := bd_s h
      refine s_iast F dX9_done_83 (ly137 hs) (lt137 hs) (ix_s hc4) ?_
      refine s_inc (c := 1) F dX9_done_84 rfl (by decide) (by decide) ?_
      refine s_goto (tgt := 56) F dX9_done_87 (by decide) ?_
      exact G.weak (by exact ⟨rfl, ⟨rfl, ⟨rfl, trivial⟩⟩⟩) (ih _ _ h)
set_option maxRecDepth 100000 in
set_option maxHeartbeats 4000000 in
theorem lX9_done_L20 {X : Cx} {n : Nat} {Ly : LL} {P : PP} {Po : PQ} {r : Int32 × II} (F : Fx X RX9 cX9_done 3 1 0 0) (hs : ShM n Ly P) (hr : Fr X (some .int) Po 0 0) (post : Po (some (.inl r.1)) n Ly r.2 P) {x1 : Int32} {ct : II → Option (Int32 × II)} (hct : ∀  (I : II), ct  I = some r → G X 3 0 0 n Ly 54 [some (.inr (some 134)), some (.inl x1), none] [] I P) : ∀ (k : Nat) (x2 : Int32) (I : II), fX9_done_L20 k ct x1 x2 I = some r → G X 3 0 0 n Ly 20 [some (.inr (some 134)), some (.inl x1), some (.inl x2)] [] I P := by
  intro k
  induction k with
  | zero =>
    intro x2 I h
    cases h
  | succ k ih =>
    intro x2 I h
    rw [fX9_done_L20] at h
    refine s_iload_n F dX9_done_20 rfl ?_
    refine s_sipush (v := 367) F dX9_done_21 (by decide) ?_
    refine s_aload_n F dX9_done_24 rfl ?_
    refine s_getI F dX9_done_25 flX9_54 (ly134 hs) (lt134 hs) rfl ?_
    refine s_imul F dX9_done_28 ?_
    refine s_icmp_ge (tgt := 54) F dX9_done_29 (by decide) (fun c9 => ?_) (fun c9 => ?_)
    · have h := if_t c9 h
      exact G.weak (by exact ⟨rfl, ⟨rfl, trivial⟩⟩) (hct _ h)
    · have h := if_f c9 h
      refine s_aload_n F dX9_done_32 rfl ?_
      refine s_getR F dX9_done_33 flX9_16 (ly134 hs) (lt134 hs) rfl (p134_2 hs) ?_
      refine s_iload_n F dX9_done_36 rfl ?_
      refine s_aload_n F dX9_done_37 rfl ?_
      refine s_getR F dX9_done_38 flX9_16 (ly134 hs) (lt134 hs) rfl (p134_2 hs) ?_
      refine s_iload_n F dX9_done_41 rfl ?_
      refine s_sipush (v := 367) F dX9_done_42 (by decide) ?_
      refine s_iadd F dX9_done_45 ?_
      obtain ⟨hc10, h⟩ := ck_s h
      refine s_iald F dX9_done_46 (ly137 hs) (lt137 hs) (ix_s hc10) ?_
      obtain ⟨hc11, h⟩ := ck_s h
      have h := bd_s h
      refine s_iast F dX9_done_47 (ly137 hs) (lt137 hs) (ix_s hc11) ?_
      refine s_inc (c := 1) F dX9_done_48 rfl (by decide) (by decide) ?_
      refine s_goto (tgt := 20) F dX9_done_51 (by decide) ?_
      exact G.weak (by exact ⟨rfl, ⟨rfl, ⟨rfl, trivial⟩⟩⟩) (ih _ _ h)
set_option maxRecDepth 100000 in
set_option maxHeartbeats 4000000 in
theorem bX9_done {X : Cx} {n : Nat} {Ly : LL} {I : II} {P : PP} {Po : PQ} {r : Int32 × II} (F : Fx X RX9 cX9_done 3 1 0 0) (hs : ShM n Ly P) (hr : Fr X (some .int) Po 0 0) (post : Po (some (.inl r.1)) n Ly r.2 P) {x1 : Int32} (h : fX9_done I x1 = some r) : G X 3 0 0 n Ly 0 [some (.inr (some 134)), some (.inl x1), none] [] I P := by
  unfold fX9_done at h
  refine s_aload_n F dX9_done_0 rfl ?_
  refine s_getI F dX9_done_1 flX9_54 (ly134 hs) (lt134 hs) rfl ?_
  refine s_iconst (v := 5) F dX9_done_4 (by decide) ?_
  refine s_icmp_ne (tgt := 54) F dX9_done_5 (by decide) (fun c1 => ?_) (fun c1 => ?_)
  · have h := if_t c1 h
    refine s_iconst (v := 0) F dX9_done_54 (by decide) ?_
    refine s_istore_n F dX9_done_55 (by decide) ?_
    refine G.weak (by exact ⟨rfl, ⟨rfl, ⟨rfl, trivial⟩⟩⟩) (lX9_done_L56 F hs hr post (fun I6 h => ?_) 2000 _ _ h)
    refine s_aload_n F dX9_done_90 rfl ?_
    refine s_dup F dX9_done_91 ?_
    refine s_getI F dX9_done_92 flX9_54 (ly134 hs) (lt134 hs) rfl ?_
    refine s_iconst (v := 1) F dX9_done_95 (by decide) ?_
    refine s_iadd F dX9_done_96 ?_
    have h := bd_s h
    refine s_putI F dX9_done_97 flX9_54 (ly134 hs) (lt134 hs) rfl rfl ⟨rfl, rfl⟩ ?_
    refine s_iload_n F dX9_done_100 rfl ?_
    have h := Option.some.inj h
    subst h
    exact s_iret F hr dX9_done_101 rfl (Nat.le_refl _) (Nat.le_refl _) post
  · have h := if_f (not_not_intro c1) h
    refine s_aload_n F dX9_done_8 rfl ?_
    refine s_dup F dX9_done_9 ?_
    refine s_getI F dX9_done_10 flX9_54 (ly134 hs) (lt134 hs) rfl ?_
    refine s_iconst (v := 1) F dX9_done_13 (by decide) ?_
    refine s_isub F dX9_done_14 ?_
    have h := bd_s h
    refine s_putI F dX9_done_15 flX9_54 (ly134 hs) (lt134 hs) rfl rfl ⟨rfl, rfl⟩ ?_
    refine s_iconst (v := 0) F dX9_done_18 (by decide) ?_
    refine s_istore_n F dX9_done_19 (by decide) ?_
    refine G.weak (by exact ⟨rfl, ⟨rfl, ⟨rfl, trivial⟩⟩⟩) (lX9_done_L20 F hs hr post (fun I13 h => ?_) 2000 _ _ h)
    refine s_iconst (v := 0) F dX9_done_54 (by decide) ?_
    refine s_istore_n F dX9_done_55 (by decide) ?_
    refine G.weak (by exact ⟨rfl, ⟨rfl, ⟨rfl, trivial⟩⟩⟩) (lX9_done_L56 F hs hr post (fun I14 h => ?_) 2000 _ _ h)
    refine s_aload_n F dX9_done_90 rfl ?_
    refine s_dup F dX9_done_91 ?_
    refine s_getI F dX9_done_92 flX9_54 (ly134 hs) (lt134 hs) rfl ?_
    refine s_iconst (v := 1) F dX9_done_95 (by decide) ?_
    refine s_iadd F dX9_done_96 ?_
    have h := bd_s h
    refine s_putI F dX9_done_97 flX9_54 (ly134 hs) (lt134 hs) rfl rfl ⟨rfl, rfl⟩ ?_
    refine s_iload_n F dX9_done_100 rfl ?_
    have h := Option.some.inj h
    subst h
    exact s_iret F hr dX9_done_101 rfl (Nat.le_refl _) (Nat.le_refl _) post
set_option maxRecDepth 100000 in
set_option maxHeartbeats 4000000 in
theorem c_X9_done {n : Nat} {Ly : LL} {I : II} {P : PP} {r : Int32 × II} (hs : ShM n Ly P) {x1 : Int32} (h : fX9_done I x1 = some r) (l : Launch) (s0 : Nat) (D : va_G) (DA : Nat → ClassId) : Ct l s0 D DA mX9_done [.inr (some 134), .inl x1] 0 0 n Ly I P (PoD (some (.inl r.1)) n Ly r.2 P) := ct_of (by decide +kernel) (Nat.le_of_ble_eq_true rfl) (fun X F hr _ => bX9_done F hs hr ⟨rfl, rfl, rfl, rfl, rfl⟩ h)
-- ChipPilersModel.undo
def fX9_undo_L22 : Nat → (II → Option (Int32 × II)) → Int32 → II → Option (Int32 × II)
  | 0, _, _, _ => none
  | k + 1, ct, x1, I => (if 367 ≤ x1 then ct I else ck (ix ((367 * (I 134 3)) + x1) 1835) (ck (ix x1 367) ((some (up2 I 135 x1.toNatClampNeg (I 137 ((367 * (I 134 3)) + x1).toNatClampNeg))).bind fun I6 => fX9_undo_L22 k ct (x1 + 1) I6)))
def fX9_undo (I : II) : Option (Int32 × II) := (if ¬ (I 134 3) = 0 then (some (up2 I 134 3 ((I 134 3) - 1))).bind fun I2 => fX9_undo_L22 2000 (fun I7 => some ((I7 134 3), I7)) 0 I2 else some ((-5), I))
set_option maxRecDepth 100000 in
set_option maxHeartbeats 4000000 in
theorem lX9_undo_L22 {X : Cx} {n : Nat} {Ly : LL} {P : PP} {Po : PQ} {r : Int32 × II} (F : Fx X RX9 cX9_undo 2 1 0 0) (hs : ShM n Ly P) (hr : Fr X (some .int) Po 0 0) (post : Po (some (.inl r.1)) n Ly r.2 P)  {ct : II → Option (Int32 × II)} (hct : ∀  (I : II), ct  I = some r → G X 2 0 0 n Ly 56 [some (.inr (some 134)), none] [] I P) : ∀ (k : Nat) (x1 : Int32) (I : II), fX9_undo_L22 k ct x1 I = some r → G X 2 0 0 n Ly 22 [some (.inr (some 134)), some (.inl x1)] [] I P := by
  intro k
  induction k with
  | zero =>
    intro x1 I h
    cases h
  | succ k ih =>
    intro x1 I h
    rw [fX9_undo_L22] at h
    refine s_iload_n F dX9_undo_22 rfl ?_
    refine s_sipush (v := 367) F dX9_undo_23 (by decide) ?_
    refine s_icmp_ge (tgt := 56) F dX9_undo_26 (by decide) (fun c3 => ?_) (fun c3 => ?_)
    · have h := if_t c3 h
      exact G.weak (by exact ⟨rfl, trivial⟩) (hct _ h)
    · have h := if_f c3 h
      refine s_aload_n F dX9_undo_29 rfl ?_
      refine s_getR F dX9_undo_30 flX9_7 (ly134 hs) (lt134 hs) rfl (p134_0 hs) ?_
      refine s_iload_n F dX9_undo_33 rfl ?_
      refine s_aload_n F dX9_undo_34 rfl ?_
      refine s_getR F dX9_undo_35 flX9_16 (ly134 hs) (lt134 hs) rfl (p134_2 hs) ?_
      refine s_sipush (v := 367) F dX9_undo_38 (by decide) ?_
      refine s_aload_n F dX9_undo_41 rfl ?_
      refine s_getI F dX9_undo_42 flX9_54 (ly134 hs) (lt134 hs) rfl ?_
      refine s_imul F dX9_undo_45 ?_
      refine s_iload_n F dX9_undo_46 rfl ?_
      refine s_iadd F dX9_undo_47 ?_
      obtain ⟨hc4, h⟩ := ck_s h
      refine s_iald F dX9_undo_48 (ly137 hs) (lt137 hs) (ix_s hc4) ?_
      obtain ⟨hc5, h⟩ := ck_s h
      have h := bd_s h
      refine s_iast F dX9_undo_49 (ly135 hs) (lt135 hs) (ix_s hc5) ?_
      refine s_inc (c := 1) F dX9_undo_50 rfl (by decide) (by decide) ?_
      refine s_goto (tgt := 22) F dX9_undo_53 (by decide) ?_
      exact G.weak (by exact ⟨rfl, ⟨rfl, trivial⟩⟩) (ih _ _ h)
set_option maxRecDepth 100000 in
set_option maxHeartbeats 4000000 in
theorem bX9_undo {X : Cx} {n : Nat} {Ly : LL} {I : II} {P : PP} {Po : PQ} {r : Int32 × II} (F : Fx X RX9 cX9_undo 2 1 0 0) (hs : ShM n Ly P) (hr : Fr X (some .int) Po 0 0) (post : Po (some (.inl r.1)) n Ly r.2 P)  (h : fX9_undo I = some r) : G X 2 0 0 n Ly 0 [some (.inr (some 134)), none] [] I P := by
  unfold fX9_undo at h
  refine s_aload_n F dX9_undo_0 rfl ?_
  refine s_getI F dX9_undo_1 flX9_54 (ly134 hs) (lt134 hs) rfl ?_
  refine s_if_ne (tgt := 10) F dX9_undo_4 (by decide) (fun c1 => ?_) (fun c1 => ?_)
  · have h := if_t c1 h
    refine s_aload_n F dX9_undo_10 rfl ?_
    refine s_dup F dX9_undo_11 ?_
    refine s_getI F dX9_undo_12 flX9_54 (ly134 hs) (lt134 hs) rfl ?_
    refine s_iconst (v := 1) F dX9_undo_15 (by decide) ?_
    refine s_isub F dX9_undo_16 ?_
    have h := bd_s h
    refine s_putI F dX9_undo_17 flX9_54 (ly134 hs) (lt134 hs) rfl rfl ⟨rfl, rfl⟩ ?_
    refine s_iconst (v := 0) F dX9_undo_20 (by decide) ?_
    refine s_istore_n F dX9_undo_21 (by decide) ?_
    refine G.weak (by exact ⟨rfl, ⟨rfl, trivial⟩⟩) (lX9_undo_L22 F hs hr post (fun I7 h => ?_) 2000 _ _ h)
    refine s_aload_n F dX9_undo_56 rfl ?_
    refine s_getI F dX9_undo_57 flX9_54 (ly134 hs) (lt134 hs) rfl ?_
    have h := Option.some.inj h
    subst h
    exact s_iret F hr dX9_undo_60 rfl (Nat.le_refl _) (Nat.le_refl _) post
  · have h := if_f (not_not_intro c1) h
    refine s_bipush (v := (-5)) F dX9_undo_7 (by decide) ?_
    have h := Option.some.inj h
    subst h
    exact s_iret F hr dX9_undo_9 rfl (Nat.le_refl _) (Nat.le_refl _) post
set_option maxRecDepth 100000 in
set_option maxHeartbeats 4000000 in
theorem c_X9_undo {n : Nat} {Ly : LL} {I : II} {P : PP} {r : Int32 × II} (hs : ShM n Ly P)  (h : fX9_undo I = some r) (l : Launch) (s0 : Nat) (D : va_G) (DA : Nat → ClassId) : Ct l s0 D DA mX9_undo [.inr (some 134)] 0 0 n Ly I P (PoD (some (.inl r.1)) n Ly r.2 P) := ct_of (by decide +kernel) (Nat.le_of_ble_eq_true rfl) (fun X F hr _ => bX9_undo F hs hr ⟨rfl, rfl, rfl, rfl, rfl⟩ h)
-- ChipPilersModel.allChips
def fX9_allChips_L4 : Nat → (Int32 → Option (Int32)) → II → Int32 → Int32 → Option (Int32)
  | 0, _, _, _, _ => none
  | k + 1, ct, I, x1, x2 => (if 256 ≤ x2 then ct x1 else ck (ix (9 + x2) 367) (fX9_allChips_L4 k ct I (x1 + (I 135 (9 + x2).toNatClampNeg)) (x2 + 1)))
def fX9_allChips (I : II) : Option (Int32) := fX9_allChips_L4 2000 (fun z3 => some z3) I 0 0
set_option maxRecDepth 100000 in
set_option maxHeartbeats 4000000 in
theorem lX9_allChips_L4 {X : Cx} {n : Nat} {Ly : LL} {I : II} {P : PP} {Po : PQ} {r : Int32} (F : Fx X RX9 cX9_allChips 3 1 0 0) (hs : ShM n Ly P) (hr : Fr X (some .int) Po 0 0) (post : Po (some (.inl r)) n Ly I P)  {ct : Int32 → Option (Int32)} (hct : ∀ (x1 : Int32), ct x1 = some r → G X 3 0 0 n Ly 29 [none, some (.inl x1), none] [] I P) : ∀ (k : Nat) (x1 : Int32) (x2 : Int32), fX9_allChips_L4 k ct I x1 x2 = some r → G X 3 0 0 n Ly 4 [some (.inr (some 134)), some (.inl x1), some (.inl x2)] [] I P := by
  intro k
  induction k with
  | zero =>
    intro x1 x2 h
    cases h
  | succ k ih =>
    intro x1 x2 h
    rw [fX9_allChips_L4] at h
    refine s_iload_n F dX9_allChips_4 rfl ?_
    refine s_sipush (v := 256) F dX9_allChips_5 (by decide) ?_
    refine s_icmp_ge (tgt := 29) F dX9_allChips_8 (by decide) (fun c1 => ?_) (fun c1 => ?_)
    · have h := if_t c1 h
      exact G.weak (by exact ⟨rfl, trivial⟩) (hct _ h)
    · have h := if_f c1 h
      refine s_iload_n F dX9_allChips_11 rfl ?_
      refine s_aload_n F dX9_allChips_12 rfl ?_
      refine s_getR F dX9_allChips_13 flX9_7 (ly134 hs) (lt134 hs) rfl (p134_0 hs) ?_
      refine s_bipush (v := 9) F dX9_allChips_16 (by decide) ?_
      refine s_iload_n F dX9_allChips_18 rfl ?_
      refine s_iadd F dX9_allChips_19 ?_
      obtain ⟨hc2, h⟩ := ck_s h
      refine s_iald F dX9_allChips_20 (ly135 hs) (lt135 hs) (ix_s hc2) ?_
      refine s_iadd F dX9_allChips_21 ?_
      refine s_istore_n F dX9_allChips_22 (by decide) ?_
      refine s_inc (c := 1) F dX9_allChips_23 rfl (by decide) (by decide) ?_
      refine s_goto (tgt := 4) F dX9_allChips_26 (by decide) ?_
      exact G.weak (by exact ⟨rfl, ⟨rfl, ⟨rfl, trivial⟩⟩⟩) (ih _ _ h)
set_option maxRecDepth 100000 in
set_option maxHeartbeats 4000000 in
theorem bX9_allChips {X : Cx} {n : Nat} {Ly : LL} {I : II} {P : PP} {Po : PQ} {r : Int32} (F : Fx X RX9 cX9_allChips 3 1 0 0) (hs : ShM n Ly P) (hr : Fr X (some .int) Po 0 0) (post : Po (some (.inl r)) n Ly I P)  (h : fX9_allChips I = some r) : G X 3 0 0 n Ly 0 [some (.inr (some 134)), none, none] [] I P := by
  unfold fX9_allChips at h
  refine s_iconst (v := 0) F dX9_allChips_0 (by decide) ?_
  refine s_istore_n F dX9_allChips_1 (by decide) ?_
  refine s_iconst (v := 0) F dX9_allChips_2 (by decide) ?_
  refine s_istore_n F dX9_allChips_3 (by decide) ?_
  refine G.weak (by exact ⟨rfl, ⟨rfl, ⟨rfl, trivial⟩⟩⟩) (lX9_allChips_L4 F hs hr post (fun z3 h => ?_) 2000 _ _ h)
  refine s_iload_n F dX9_allChips_29 rfl ?_
  have h := Option.some.inj h
  subst h
  exact s_iret F hr dX9_allChips_30 rfl (Nat.le_refl _) (Nat.le_refl _) post
set_option maxRecDepth 100000 in
set_option maxHeartbeats 4000000 in
theorem c_X9_allChips {n : Nat} {Ly : LL} {I : II} {P : PP} {r : Int32} (hs : ShM n Ly P)  (h : fX9_allChips I = some r) (l : Launch) (s0 : Nat) (D : va_G) (DA : Nat → ClassId) : Ct l s0 D DA mX9_allChips [.inr (some 134)] 0 0 n Ly I P (PoD (some (.inl r)) n Ly I P) := ct_of (by decide +kernel) (Nat.le_of_ble_eq_true rfl) (fun X F hr _ => bX9_allChips F hs hr ⟨rfl, rfl, rfl, rfl, rfl⟩ h)
-- ChipPilersModel.keep
def fX9_keep_L20 : Nat → (II → Option (Int32 × II)) → Int32 → Int32 → II → Option (Int32 × II)
  | 0, _, _, _, _ => none
  | k + 1, ct, x1, x2, I => (if 367 ≤ x2 then ct I else ck (ix x2 367) (ck (ix ((367 * x1) + x2) 734) ((some (up2 I 138 ((367 * x1) + x2).toNatClampNeg (I 135 x2.toNatClampNeg))).bind fun I8 => fX9_keep_L20 k ct x1 (x2 + 1) I8)))
def fX9_keep (I : II) (x1 : Int32) : Option (Int32 × II) := (fX9_in x1 0 1).bind fun v1 => (if ¬ v1 = 0 then ck (ix x1 2) ((some (up2 I 139 x1.toNatClampNeg 1)).bind fun I4 => fX9_keep_L20 2000 (fun I9 => (fX9_allChips I9).bind fun v10 => some (v10, I9)) x1 0 I4) else some ((-1), I))
set_option maxRecDepth 100000 in
set_option maxHeartbeats 4000000 in
theorem lX9_keep_L20 {X : Cx} {n : Nat} {Ly : LL} {P : PP} {Po : PQ} {r : Int32 × II} (F : Fx X RX9 cX9_keep 3 2 0 0) (hs : ShM n Ly P) (hr : Fr X (some .int) Po 0 0) (post : Po (some (.inl r.1)) n Ly r.2 P) {x1 : Int32} {ct : II → Option (Int32 × II)} (hct : ∀  (I : II), ct  I = some r → G X 3 0 0 n Ly 51 [some (.inr (some 134)), none, none] [] I P) : ∀ (k : Nat) (x2 : Int32) (I : II), fX9_keep_L20 k ct x1 x2 I = some r → G X 3 0 0 n Ly 20 [some (.inr (some 134)), some (.inl x1), some (.inl x2)] [] I P := by
  intro k
  induction k with
  | zero =>
    intro x2 I h
    cases h
  | succ k ih =>
    intro x2 I h
    rw [fX9_keep_L20] at h
    refine s_iload_n F dX9_keep_20 rfl ?_
    refine s_sipush (v := 367) F dX9_keep_21 (by decide) ?_
    refine s_icmp_ge (tgt := 51) F dX9_keep_24 (by decide) (fun c5 => ?_) (fun c5 => ?_)
    · have h := if_t c5 h
      exact G.weak (by exact ⟨rfl, trivial⟩) (hct _ h)
    · have h := if_f c5 h
      refine s_aload_n F dX9_keep_27 rfl ?_
      refine s_getR F dX9_keep_28 flX9_19 (ly134 hs) (lt134 hs) rfl (p134_4 hs) ?_
      refine s_sipush (v := 367) F dX9_keep_31 (by decide) ?_
      refine s_iload_n F dX9_keep_34 rfl ?_
      refine s_imul F dX9_keep_35 ?_
      refine s_iload_n F dX9_keep_36 rfl ?_
      refine s_iadd F dX9_keep_37 ?_
      refine s_aload_n F dX9_keep_38 rfl ?_
      refine s_getR F dX9_keep_39 flX9_7 (ly134 hs) (lt134 hs) rfl (p134_0 hs) ?_
      refine s_iload_n F dX9_keep_42 rfl ?_
      obtain ⟨hc6, h⟩ := ck_s h
      refine s_iald F dX9_keep_43 (ly135 hs) (lt135 hs) (ix_s hc6) ?_
      obtain ⟨hc7, h⟩ := ck_s h
      have h := bd_s h
      refine s_iast F dX9_keep_44 (ly138 hs) (lt138 hs) (ix_s hc7) ?_
      refine s_inc (c := 1) F dX9_keep_45 rfl (by decide) (by decide) ?_
      refine s_goto (tgt := 20) F dX9_keep_48 (by decide) ?_
      exact G.weak (by exact ⟨rfl, ⟨rfl, ⟨rfl, trivial⟩⟩⟩) (ih _ _ h)
set_option maxRecDepth 100000 in
set_option maxHeartbeats 4000000 in
theorem bX9_keep {X : Cx} {n : Nat} {Ly : LL} {I : II} {P : PP} {Po : PQ} {r : Int32 × II} (F : Fx X RX9 cX9_keep 3 2 0 0) (hs : ShM n Ly P) (hr : Fr X (some .int) Po 0 0) (post : Po (some (.inl r.1)) n Ly r.2 P) {x1 : Int32} (h : fX9_keep I x1 = some r) : G X 3 0 0 n Ly 0 [some (.inr (some 134)), some (.inl x1), none] [] I P := by
  unfold fX9_keep at h
  refine s_iload_n F dX9_keep_0 rfl ?_
  refine s_iconst (v := 0) F dX9_keep_1 (by decide) ?_
  refine s_iconst (v := 1) F dX9_keep_2 (by decide) ?_
  obtain ⟨v1, hv1, h⟩ := bd_i h
  refine s_cS F dX9_keep_3 (c_X9_in hs hv1) lkX9_58 okX9_in rfl (Nat.le_of_ble_eq_true rfl) (by decide) ?_
  refine s_if_ne (tgt := 11) F dX9_keep_6 (by decide) (fun c2 => ?_) (fun c2 => ?_)
  · have h := if_t c2 h
    refine s_aload_n F dX9_keep_11 rfl ?_
    refine s_getR F dX9_keep_12 flX9_22 (ly134 hs) (lt134 hs) rfl (p134_5 hs) ?_
    refine s_iload_n F dX9_keep_15 rfl ?_
    refine s_iconst (v := 1) F dX9_keep_16 (by decide) ?_
    obtain ⟨hc3, h⟩ := ck_s h
    have h := bd_s h
    refine s_zast F dX9_keep_17 (ly139 hs) (lt139 hs) (ix_s hc3) rfl ?_
    refine s_iconst (v := 0) F dX9_keep_18 (by decide) ?_
    refine s_istore_n F dX9_keep_19 (by decide) ?_
    refine G.weak (by exact ⟨rfl, ⟨rfl, ⟨rfl, trivial⟩⟩⟩) (lX9_keep_L20 F hs hr post (fun I9 h => ?_) 2000 _ _ h)
    refine s_aload_n F dX9_keep_51 rfl ?_
    obtain ⟨v10, hv10, h⟩ := bd_i h
    refine s_cV (ci := 9) F dX9_keep_52 (c_X9_allChips hs hv10) lkX9_62 okX9_allChips (by decide) (ly134 hs) (lt134 hs) rfl rfl (Nat.le_of_ble_eq_true rfl) (by decide) ?_
    have h := Option.some.inj h
    subst h
    exact s_iret F hr dX9_keep_55 rfl (Nat.le_refl _) (Nat.le_refl _) post
  · have h := if_f (not_not_intro c2) h
    refine s_iconst (v := (-1)) F dX9_keep_9 (by decide) ?_
    have h := Option.some.inj h
    subst h
    exact s_iret F hr dX9_keep_10 rfl (Nat.le_refl _) (Nat.le_refl _) post
set_option maxRecDepth 100000 in
set_option maxHeartbeats 4000000 in
theorem c_X9_keep {n : Nat} {Ly : LL} {I : II} {P : PP} {r : Int32 × II} (hs : ShM n Ly P) {x1 : Int32} (h : fX9_keep I x1 = some r) (l : Launch) (s0 : Nat) (D : va_G) (DA : Nat → ClassId) : Ct l s0 D DA mX9_keep [.inr (some 134), .inl x1] 0 0 n Ly I P (PoD (some (.inl r.1)) n Ly r.2 P) := ct_of (by decide +kernel) (Nat.le_of_ble_eq_true rfl) (fun X F hr _ => bX9_keep F hs hr ⟨rfl, rfl, rfl, rfl, rfl⟩ h)
-- ChipPilersModel.restore
def fX9_restore_L29 : Nat → (II → Option (Int32 × II)) → Int32 → Int32 → II → Option (Int32 × II)
  | 0, _, _, _, _ => none
  | k + 1, ct, x1, x2, I => (if 367 ≤ x2 then ct I else ck (ix ((367 * x1) + x2) 734) (ck (ix x2 367) ((some (up2 I 135 x2.toNatClampNeg (I 138 ((367 * x1) + x2).toNatClampNeg))).bind fun I9 => fX9_restore_L29 k ct x1 (x2 + 1) I9)))
def fX9_restore (I : II) (x1 : Int32) : Option (Int32 × II) := (fX9_in x1 0 1).bind fun v1 => (if ¬ v1 = 0 then ck (ix x1 2) ((if ¬ (I 139 x1.toNatClampNeg) = 0 then (fX9_begin I).bind fun v5 => fX9_restore_L29 2000 (fun I10 => (fX9_allChips I10).bind fun v11 => (fX9_done I10 v11).bind fun v12 => some (v12.1, v12.2)) x1 0 v5 else some ((-5), I))) else some ((-1), I))
set_option maxRecDepth 100000 in
set_option maxHeartbeats 4000000 in
theorem lX9_restore_L29 {X : Cx} {n : Nat} {Ly : LL} {P : PP} {Po : PQ} {r : Int32 × II} (F : Fx X RX9 cX9_restore 3 2 0 0) (hs : ShM n Ly P) (hr : Fr X (some .int) Po 0 0) (post : Po (some (.inl r.1)) n Ly r.2 P) {x1 : Int32} {ct : II → Option (Int32 × II)} (hct : ∀  (I : II), ct  I = some r → G X 3 0 0 n Ly 60 [some (.inr (some 134)), none, none] [] I P) : ∀ (k : Nat) (x2 : Int32) (I : II), fX9_restore_L29 k ct x1 x2 I = some r → G X 3 0 0 n Ly 29 [some (.inr (some 134)), some (.inl x1), some (.inl x2)] [] I P := by
  intro k
  induction k with
  | zero =>
    intro x2 I h
    cases h
  | succ k ih =>
    intro x2 I h
    rw [fX9_restore_L29] at h
    refine s_iload_n F dX9_restore_29 rfl ?_
    refine s_sipush (v := 367) F dX9_restore_30 (by decide) ?_
    refine s_icmp_ge (tgt := 60) F dX9_restore_33 (by decide) (fun c6 => ?_) (fun c6 => ?_)
    · have h := if_t c6 h
      exact G.weak (by exact ⟨rfl, trivial⟩) (hct _ h)
    · have h := if_f c6 h
      refine s_aload_n F dX9_restore_36 rfl ?_
      refine s_getR F dX9_restore_37 flX9_7 (ly134 hs) (lt134 hs) rfl (p134_0 hs) ?_
      refine s_iload_n F dX9_restore_40 rfl ?_
      refine s_aload_n F dX9_restore_41 rfl ?_
      refine s_getR F dX9_restore_42 flX9_19 (ly134 hs) (lt134 hs) rfl (p134_4 hs) ?_
      refine s_sipush (v := 367) F dX9_restore_45 (by decide) ?_
      refine s_iload_n F dX9_restore_48 rfl ?_
      refine s_imul F dX9_restore_49 ?_
      refine s_iload_n F dX9_restore_50 rfl ?_
      refine s_iadd F dX9_restore_51 ?_
      obtain ⟨hc7, h⟩ := ck_s h
      refine s_iald F dX9_restore_52 (ly138 hs) (lt138 hs) (ix_s hc7) ?_
      obtain ⟨hc8, h⟩ := ck_s h
      have h := bd_s h
      refine s_iast F dX9_restore_53 (ly135 hs) (lt135 hs) (ix_s hc8) ?_
      refine s_inc (c := 1) F dX9_restore_54 rfl (by decide) (by decide) ?_
      refine s_goto (tgt := 29) F dX9_restore_57 (by decide) ?_
      exact G.weak (by exact ⟨rfl, ⟨rfl, ⟨rfl, trivial⟩⟩⟩) (ih _ _ h)
set_option maxRecDepth 100000 in
set_option maxHeartbeats 4000000 in
theorem bX9_restore {X : Cx} {n : Nat} {Ly : LL} {I : II} {P : PP} {Po : PQ} {r : Int32 × II} (F : Fx X RX9 cX9_restore 3 2 0 0) (hs : ShM n Ly P) (hr : Fr X (some .int) Po 0 0) (post : Po (some (.inl r.1)) n Ly r.2 P) {x1 : Int32} (h : fX9_restore I x1 = some r) : G X 3 0 0 n Ly 0 [some (.inr (some 134)), some (.inl x1), none] [] I P := by
  unfold fX9_restore at h
  refine s_iload_n F dX9_restore_0 rfl ?_
  refine s_iconst (v := 0) F dX9_restore_1 (by decide) ?_
  refine s_iconst (v := 1) F dX9_restore_2 (by decide) ?_
  obtain ⟨v1, hv1, h⟩ := bd_i h
  refine s_cS F dX9_restore_3 (c_X9_in hs hv1) lkX9_58 okX9_in rfl (Nat.le_of_ble_eq_true rfl) (by decide) ?_
  refine s_if_ne (tgt := 11) F dX9_restore_6 (by decide) (fun c2 => ?_) (fun c2 => ?_)
  · have h := if_t c2 h
    refine s_aload_n F dX9_restore_11 rfl ?_
    refine s_getR F dX9_restore_12 flX9_22 (ly134 hs) (lt134 hs) rfl (p134_5 hs) ?_
    refine s_iload_n F dX9_restore_15 rfl ?_
    obtain ⟨hc3, h⟩ := ck_s h
    refine s_zald F dX9_restore_16 (ly139 hs) (lt139 hs) (ix_s hc3) ?_
    refine s_if_ne (tgt := 23) F dX9_restore_17 (by decide) (fun c4 => ?_) (fun c4 => ?_)
    · have h := if_t c4 h
      refine s_aload_n F dX9_restore_23 rfl ?_
      obtain ⟨v5, hv5, h⟩ := bd_i h
      refine s_cV (ci := 9) F dX9_restore_24 (c_X9_begin hs hv5) lkX9_66 okX9_begin (by decide) (ly134 hs) (lt134 hs) rfl rfl (Nat.le_of_ble_eq_true rfl) (by decide) ?_
      refine s_iconst (v := 0) F dX9_restore_27 (by decide) ?_
      refine s_istore_n F dX9_restore_28 (by decide) ?_
      refine G.weak (by exact ⟨rfl, ⟨rfl, ⟨rfl, trivial⟩⟩⟩) (lX9_restore_L29 F hs hr post (fun I10 h => ?_) 2000 _ _ h)
      refine s_aload_n F dX9_restore_60 rfl ?_
      refine s_aload_n F dX9_restore_61 rfl ?_
      obtain ⟨v11, hv11, h⟩ := bd_i h
      refine s_cV (ci := 9) F dX9_restore_62 (c_X9_allChips hs hv11) lkX9_62 okX9_allChips (by decide) (ly134 hs) (lt134 hs) rfl rfl (Nat.le_of_ble_eq_true rfl) (by decide) ?_
      obtain ⟨v12, hv12, h⟩ := bd_i h
      refine s_cV (ci := 9) F dX9_restore_65 (c_X9_done hs hv12) lkX9_69 okX9_done (by decide) (ly134 hs) (lt134 hs) rfl rfl (Nat.le_of_ble_eq_true rfl) (by decide) ?_
      have h := Option.some.inj h
      subst h
      exact s_iret F hr dX9_restore_68 rfl (Nat.le_refl _) (Nat.le_refl _) post
    · have h := if_f (not_not_intro c4) h
      refine s_bipush (v := (-5)) F dX9_restore_20 (by decide) ?_
      have h := Option.some.inj h
      subst h
      exact s_iret F hr dX9_restore_22 rfl (Nat.le_refl _) (Nat.le_refl _) post
  · have h := if_f (not_not_intro c2) h
    refine s_iconst (v := (-1)) F dX9_restore_9 (by decide) ?_
    have h := Option.some.inj h
    subst h
    exact s_iret F hr dX9_restore_10 rfl (Nat.le_refl _) (Nat.le_refl _) post
set_option maxRecDepth 100000 in
set_option maxHeartbeats 4000000 in
theorem c_X9_restore {n : Nat} {Ly : LL} {I : II} {P : PP} {r : Int32 × II} (hs : ShM n Ly P) {x1 : Int32} (h : fX9_restore I x1 = some r) (l : Launch) (s0 : Nat) (D : va_G) (DA : Nat → ClassId) : Ct l s0 D DA mX9_restore [.inr (some 134), .inl x1] 0 0 n Ly I P (PoD (some (.inl r.1)) n Ly r.2 P) := ct_of (by decide +kernel) (Nat.le_of_ble_eq_true rfl) (fun X F hr _ => bX9_restore F hs hr ⟨rfl, rfl, rfl, rfl, rfl⟩ h)
-- ChipPilersModel.isCell
def fX9_isCell (I : II) (x1 : Int32) (x2 : Int32) : Option (Int32) := (fX9_in x1 0 ((I 135 0) - 1)).bind fun v1 => (if v1 = 0 then some 0 else (fX9_in x2 0 ((I 135 1) - 1)).bind fun v3 => (if v3 = 0 then some 0 else some 1))
set_option maxRecDepth 100000 in
set_option maxHeartbeats 4000000 in
theorem bX9_isCell {X : Cx} {n : Nat} {Ly : LL} {I : II} {P : PP} {Po : PQ} {r : Int32} (F : Fx X RX9 cX9_isCell 3 2 0 0) (hs : ShM n Ly P) (hr : Fr X (some .boolean) Po 0 0) (post : Po (some (.inl r)) n Ly I P) {x1 : Int32} {x2 : Int32} (h : fX9_isCell I x1 x2 = some r) : G X 3 0 0 n Ly 0 [some (.inr (some 134)), some (.inl x1), some (.inl x2)] [] I P := by
  unfold fX9_isCell at h
  refine s_iload_n F dX9_isCell_0 rfl ?_
  refine s_iconst (v := 0) F dX9_isCell_1 (by decide) ?_
  refine s_aload_n F dX9_isCell_2 rfl ?_
  refine s_getR F dX9_isCell_3 flX9_7 (ly134 hs) (lt134 hs) rfl (p134_0 hs) ?_
  refine s_iconst (v := 0) F dX9_isCell_6 (by decide) ?_
  refine s_ialdK (j := 0) F dX9_isCell_7 (ly135 hs) (lt135 hs) (vp_lit 0 rfl) (by decide) ?_
  refine s_iconst (v := 1) F dX9_isCell_8 (by decide) ?_
  refine s_isub F dX9_isCell_9 ?_
  obtain ⟨v1, hv1, h⟩ := bd_i h
  refine s_cS F dX9_isCell_10 (c_X9_in hs hv1) lkX9_58 okX9_in rfl (Nat.le_of_ble_eq_true rfl) (by decide) ?_
  refine s_if_eq (tgt := 36) F dX9_isCell_13 (by decide) (fun c2 => ?_) (fun c2 => ?_)
  · have h := if_t c2 h
    refine s_iconst (v := 0) F dX9_isCell_36 (by decide) ?_
    have h := Option.some.inj h
    subst h
    exact s_iret F hr dX9_isCell_37 rfl (Nat.le_refl _) (Nat.le_refl _) post
  · have h := if_f c2 h
    refine s_iload_n F dX9_isCell_16 rfl ?_
    refine s_iconst (v := 0) F dX9_isCell_17 (by decide) ?_
    refine s_aload_n F dX9_isCell_18 rfl ?_
    refine s_getR F dX9_isCell_19 flX9_7 (ly134 hs) (lt134 hs) rfl (p134_0 hs) ?_
    refine s_iconst (v := 1) F dX9_isCell_22 (by decide) ?_
    refine s_ialdK (j := 1) F dX9_isCell_23 (ly135 hs) (lt135 hs) (vp_lit 1 rfl) (by decide) ?_
    refine s_iconst (v := 1) F dX9_isCell_24 (by decide) ?_
    refine s_isub F dX9_isCell_25 ?_
    obtain ⟨v3, hv3, h⟩ := bd_i h
    refine s_cS F dX9_isCell_26 (c_X9_in hs hv3) lkX9_58 okX9_in rfl (Nat.le_of_ble_eq_true rfl) (by decide) ?_
    refine s_if_eq (tgt := 36) F dX9_isCell_29 (by decide) (fun c4 => ?_) (fun c4 => ?_)
    · have h := if_t c4 h
      refine s_iconst (v := 0) F dX9_isCell_36 (by decide) ?_
      have h := Option.some.inj h
      subst h
      exact s_iret F hr dX9_isCell_37 rfl (Nat.le_refl _) (Nat.le_refl _) post
    · have h := if_f c4 h
      refine s_iconst (v := 1) F dX9_isCell_32 (by decide) ?_
      refine s_goto (tgt := 37) F dX9_isCell_33 (by decide) ?_
      have h := Option.some.inj h
      subst h
      exact s_iret F hr dX9_isCell_37 rfl (Nat.le_refl _) (Nat.le_refl _) post
set_option maxRecDepth 100000 in
set_option maxHeartbeats 4000000 in
theorem c_X9_isCell {n : Nat} {Ly : LL} {I : II} {P : PP} {r : Int32} (hs : ShM n Ly P) {x1 : Int32} {x2 : Int32} (h : fX9_isCell I x1 x2 = some r) (l : Launch) (s0 : Nat) (D : va_G) (DA : Nat → ClassId) : Ct l s0 D DA mX9_isCell [.inr (some 134), .inl x1, .inl x2] 0 0 n Ly I P (PoD (some (.inl r)) n Ly I P) := ct_of (by decide +kernel) (Nat.le_of_ble_eq_true rfl) (fun X F hr _ => bX9_isCell F hs hr ⟨rfl, rfl, rfl, rfl, rfl⟩ h)
-- ChipPilersModel.of
def fX9_of (I : II) (x1 : Int32) (x2 : Int32) : Option (Int32) := ck (ix ((265 + (9 * x1)) + x2) 367) (some (I 135 ((265 + (9 * x1)) + x2).toNatClampNeg))
set_option maxRecDepth 100000 in
set_option maxHeartbeats 4000000 in
theorem bX9_of {X : Cx} {n : Nat} {Ly : LL} {I : II} {P : PP} {Po : PQ} {r : Int32} (F : Fx X RX9 cX9_of 3 1 0 0) (hs : ShM n Ly P) (hr : Fr X (some .int) Po 0 0) (post : Po (some (.inl r)) n Ly I P) {x1 : Int32} {x2 : Int32} (h : fX9_of I x1 x2 = some r) : G X 3 0 0 n Ly 0 [some (.inr (some 134)), some (.inl x1), some (.inl x2)] [] I P := by
  unfold fX9_of at h
  refine s_aload_n F dX9_of_0 rfl ?_
  refine s_getR F dX9_of_1 flX9_7 (ly134 hs) (lt134 hs) rfl (p134_0 hs) ?_
  refine s_sipush (v := 265) F dX9_of_4 (by decide) ?_
  refine s_bipush (v := 9) F dX9_of_7 (by decide) ?_
  refine s_iload_n F dX9_of_9 rfl ?_
  refine s_imul F dX9_of_10 ?_
  refine s_iadd F dX9_of_11 ?_
  refine s_iload_n F dX9_of_12 rfl ?_
  refine s_iadd F dX9_of_13 ?_
  obtain ⟨hc1, h⟩ := ck_s h
  refine s_iald F dX9_of_14 (ly135 hs) (lt135 hs) (ix_s hc1) ?_
  have h := Option.some.inj h
  subst h
  exact s_iret F hr dX9_of_15 rfl (Nat.le_refl _) (Nat.le_refl _) post
set_option maxRecDepth 100000 in
set_option maxHeartbeats 4000000 in
theorem c_X9_of {n : Nat} {Ly : LL} {I : II} {P : PP} {r : Int32} (hs : ShM n Ly P) {x1 : Int32} {x2 : Int32} (h : fX9_of I x1 x2 = some r) (l : Launch) (s0 : Nat) (D : va_G) (DA : Nat → ClassId) : Ct l s0 D DA mX9_of [.inr (some 134), .inl x1, .inl x2] 0 0 n Ly I P (PoD (some (.inl r)) n Ly I P) := ct_of (by decide +kernel) (Nat.le_of_ble_eq_true rfl) (fun X F hr _ => bX9_of F hs hr ⟨rfl, rfl, rfl, rfl, rfl⟩ h)
-- ChipPilersModel.lay
def fX9_lay (I : II) (x1 : Int32) (x2 : Int32) (x3 : Int32) : Option (II) := ck (ix ((265 + (9 * x1)) + x2) 367) ((some (up2 I 135 ((265 + (9 * x1)) + x2).toNatClampNeg x3)).bind fun I2 => some I2)
set_option maxRecDepth 100000 in
set_option maxHeartbeats 4000000 in
theorem bX9_lay {X : Cx} {n : Nat} {Ly : LL} {I : II} {P : PP} {Po : PQ} {r : II} (F : Fx X RX9 cX9_lay 4 1 0 0) (hs : ShM n Ly P) (hr : Fr X none Po 0 0) (post : Po none n Ly r P) {x1 : Int32} {x2 : Int32} {x3 : Int32} (h : fX9_lay I x1 x2 x3 = some r) : G X 4 0 0 n Ly 0 [some (.inr (some 134)), some (.inl x1), some (.inl x2), some (.inl x3)] [] I P := by
  unfold fX9_lay at h
  refine s_aload_n F dX9_lay_0 rfl ?_
  refine s_getR F dX9_lay_1 flX9_7 (ly134 hs) (lt134 hs) rfl (p134_0 hs) ?_
  refine s_sipush (v := 265) F dX9_lay_4 (by decide) ?_
  refine s_bipush (v := 9) F dX9_lay_7 (by decide) ?_
  refine s_iload_n F dX9_lay_9 rfl ?_
  refine s_imul F dX9_lay_10 ?_
  refine s_iadd F dX9_lay_11 ?_
  refine s_iload_n F dX9_lay_12 rfl ?_
  refine s_iadd F dX9_lay_13 ?_
  refine s_iload_n F dX9_lay_14 rfl ?_
  obtain ⟨hc1, h⟩ := ck_s h
  have h := bd_s h
  refine s_iast F dX9_lay_15 (ly135 hs) (lt135 hs) (ix_s hc1) ?_
  have h := Option.some.inj h
  subst h
  exact s_vret F hr dX9_lay_16 (Nat.le_refl _) (Nat.le_refl _) post
set_option maxRecDepth 100000 in
set_option maxHeartbeats 4000000 in
theorem c_X9_lay {n : Nat} {Ly : LL} {I : II} {P : PP} {r : II} (hs : ShM n Ly P) {x1 : Int32} {x2 : Int32} {x3 : Int32} (h : fX9_lay I x1 x2 x3 = some r) (l : Launch) (s0 : Nat) (D : va_G) (DA : Nat → ClassId) : Ct l s0 D DA mX9_lay [.inr (some 134), .inl x1, .inl x2, .inl x3] 0 0 n Ly I P (PoD none n Ly r P) := ct_of (by decide +kernel) (Nat.le_of_ble_eq_true rfl) (fun X F hr _ => bX9_lay F hs hr ⟨rfl, rfl, rfl, rfl, rfl⟩ h)
-- ChipPilersModel.noWalker
def fX9_noWalker (I : II) (x1 : Int32) : Option (Int32) := (fX9_in x1 0 ((I 135 2) - 1)).bind fun v1 => (if ¬ v1 = 0 then some 0 else some 1)
set_option maxRecDepth 100000 in
set_option maxHeartbeats 4000000 in
theorem bX9_noWalker {X : Cx} {n : Nat} {Ly : LL} {I : II} {P : PP} {Po : PQ} {r : Int32} (F : Fx X RX9 cX9_noWalker 2 2 0 0) (hs : ShM n Ly P) (hr : Fr X (some .boolean) Po 0 0) (post : Po (some (.inl r)) n Ly I P) {x1 : Int32} (h : fX9_noWalker I x1 = some r) : G X 2 0 0 n Ly 0 [some (.inr (some 134)), some (.inl x1)] [] I P := by
  unfold fX9_noWalker at h
  refine s_iload_n F dX9_noWalker_0 rfl ?_
  refine s_iconst (v := 0) F dX9_noWalker_1 (by decide) ?_
  refine s_aload_n F dX9_noWalker_2 rfl ?_
  refine s_getR F dX9_noWalker_3 flX9_7 (ly134 hs) (lt134 hs) rfl (p134_0 hs) ?_
  refine s_iconst (v := 2) F dX9_noWalker_6 (by decide) ?_
  refine s_ialdK (j := 2) F dX9_noWalker_7 (ly135 hs) (lt135 hs) (vp_lit 2 rfl) (by decide) ?_
  refine s_iconst (v := 1) F dX9_noWalker_8 (by decide) ?_
  refine s_isub F dX9_noWalker_9 ?_
  obtain ⟨v1, hv1, h⟩ := bd_i h
  refine s_cS F dX9_noWalker_10 (c_X9_in hs hv1) lkX9_58 okX9_in rfl (Nat.le_of_ble_eq_true rfl) (by decide) ?_
  refine s_if_ne (tgt := 20) F dX9_noWalker_13 (by decide) (fun c2 => ?_) (fun c2 => ?_)
  · have h := if_t c2 h
    refine s_iconst (v := 0) F dX9_noWalker_20 (by decide) ?_
    have h := Option.some.inj h
    subst h
    exact s_iret F hr dX9_noWalker_21 rfl (Nat.le_refl _) (Nat.le_refl _) post
  · have h := if_f (not_not_intro c2) h
    refine s_iconst (v := 1) F dX9_noWalker_16 (by decide) ?_
    refine s_goto (tgt := 21) F dX9_noWalker_17 (by decide) ?_
    have h := Option.some.inj h
    subst h
    exact s_iret F hr dX9_noWalker_21 rfl (Nat.le_refl _) (Nat.le_refl _) post
set_option maxRecDepth 100000 in
set_option maxHeartbeats 4000000 in
theorem c_X9_noWalker {n : Nat} {Ly : LL} {I : II} {P : PP} {r : Int32} (hs : ShM n Ly P) {x1 : Int32} (h : fX9_noWalker I x1 = some r) (l : Launch) (s0 : Nat) (D : va_G) (DA : Nat → ClassId) : Ct l s0 D DA mX9_noWalker [.inr (some 134), .inl x1] 0 0 n Ly I P (PoD (some (.inl r)) n Ly I P) := ct_of (by decide +kernel) (Nat.le_of_ble_eq_true rfl) (fun X F hr _ => bX9_noWalker F hs hr ⟨rfl, rfl, rfl, rfl, rfl⟩ h)
-- ChipPilersModel.reset
def fX9_reset_L74 : Nat → (II → Option (Int32 × II)) → Int32 → Int32 → Int32 → II → Option (Int32 × II)
  | 0, _, _, _, _, _ => none
  | k + 1, ct, x1, x2, x3, I => (if 256 ≤ x3 then ct I else ck (ix (9 + x3) 367) ((some (up2 I 135 (9 + x3).toNatClampNeg 0)).bind fun I14 => fX9_reset_L74 k ct x1 x2 (x3 + 1) I14))
def fX9_reset (I : II) (x1 : Int32) (x2 : Int32) : Option (Int32 × II) := (fX9_in x1 2 16).bind fun v1 => (if v1 = 0 then some ((-2), I) else (fX9_in x2 2 16).bind fun v3 => (if ¬ v3 = 0 then (fX9_begin I).bind fun v5 => (some (up2 v5 135 0 x1)).bind fun I6 => (some (up2 I6 135 1 x2)).bind fun I7 => (some (up2 I7 135 2 0)).bind fun I8 => (some (up2 I8 135 6 0)).bind fun I9 => (some (up2 I9 135 7 0)).bind fun I10 => (some (up2 I10 135 8 0)).bind fun I11 => fX9_reset_L74 2000 (fun I15 => (fX9_done I15 (x1 * x2)).bind fun v16 => some (v16.1, v16.2)) x1 x2 0 I11 else some ((-2), I)))
set_option maxRecDepth 100000 in
set_option maxHeartbeats 4000000 in
theorem lX9_reset_L74 {X : Cx} {n : Nat} {Ly : LL} {P : PP} {Po : PQ} {r : Int32 × II} (F : Fx X RX9 cX9_reset 4 2 0 0) (hs : ShM n Ly P) (hr : Fr X (some .int) Po 0 0) (post : Po (some (.inl r.1)) n Ly r.2 P) {x1 : Int32} {x2 : Int32} {ct : II → Option (Int32 × II)} (hct : ∀  (I : II), ct  I = some r → G X 4 0 0 n Ly 97 [some (.inr (some 134)), some (.inl x1), some (.inl x2), none] [] I P) : ∀ (k : Nat) (x3 : Int32) (I : II), fX9_reset_L74 k ct x1 x2 x3 I = some r → G X 4 0 0 n Ly 74 [some (.inr (some 134)), some (.inl x1), some (.inl x2), some (.inl x3)] [] I P := by
  intro k
  induction k with
  | zero =>
    intro x3 I h
    cases h
  | succ k ih =>
    intro x3 I h
    rw [fX9_reset_L74] at h
    refine s_iload_n F dX9_reset_74 rfl ?_
    refine s_sipush (v := 256) F dX9_reset_75 (by decide) ?_
    refine s_icmp_ge (tgt := 97) F dX9_reset_78 (by decide) (fun c12 => ?_) (fun c12 => ?_)
    · have h := if_t c12 h
      exact G.weak (by exact ⟨rfl, ⟨rfl, ⟨rfl, trivial⟩⟩⟩) (hct _ h)
    · have h := if_f c12 h
      refine s_aload_n F dX9_reset_81 rfl ?_
      refine s_getR F dX9_reset_82 flX9_7 (ly134 hs) (lt134 hs) rfl (p134_0 hs) ?_
      refine s_bipush (v := 9) F dX9_reset_85 (by decide) ?_
      refine s_iload_n F dX9_reset_87 rfl ?_
      refine s_iadd F dX9_reset_88 ?_
      refine s_iconst (v := 0) F dX9_reset_89 (by decide) ?_
      obtain ⟨hc13, h⟩ := ck_s h
      have h := bd_s h
      refine s_iast F dX9_reset_90 (ly135 hs) (lt135 hs) (ix_s hc13) ?_
      refine s_inc (c := 1) F dX9_reset_91 rfl (by decide) (by decide) ?_
      refine s_goto (tgt := 74) F dX9_reset_94 (by decide) ?_
      exact G.weak (by exact ⟨rfl, ⟨rfl, ⟨rfl, ⟨rfl, trivial⟩⟩⟩⟩) (ih _ _ h)
set_option maxRecDepth 100000 in
set_option maxHeartbeats 4000000 in
theorem bX9_reset {X : Cx} {n : Nat} {Ly : LL} {I : II} {P : PP} {Po : PQ} {r : Int32 × II} (F : Fx X RX9 cX9_reset 4 2 0 0) (hs : ShM n Ly P) (hr : Fr X (some .int) Po 0 0) (post : Po (some (.inl r.1)) n Ly r.2 P) {x1 : Int32} {x2 : Int32} (h : fX9_reset I x1 x2 = some r) : G X 4 0 0 n Ly 0 [some (.inr (some 134)), some (.inl x1), some (.inl x2), none] [] I P := by
  unfold fX9_reset at h
  refine s_iload_n F dX9_reset_0 rfl ?_
  refine s_iconst (v := 2) F dX9_reset_1 (by decide) ?_
  refine s_bipush (v := 16) F dX9_reset_2 (by decide) ?_
  obtain ⟨v1, hv1, h⟩ := bd_i h
  refine s_cS F dX9_reset_4 (c_X9_in hs hv1) lkX9_58 okX9_in rfl (Nat.le_of_ble_eq_true rfl) (by decide) ?_
  refine s_if_eq (tgt := 20) F dX9_reset_7 (by decide) (fun c2 => ?_) (fun c2 => ?_)
  · have h := if_t c2 h
    refine s_bipush (v := (-2)) F dX9_reset_20 (by decide) ?_
    have h := Option.some.inj h
    subst h
    exact s_iret F hr dX9_reset_22 rfl (Nat.le_refl _) (Nat.le_refl _) post
  · have h := if_f c2 h
    refine s_iload_n F dX9_reset_10 rfl ?_
    refine s_iconst (v := 2) F dX9_reset_11 (by decide) ?_
    refine s_bipush (v := 16) F dX9_reset_12 (by decide) ?_
    obtain ⟨v3, hv3, h⟩ := bd_i h
    refine s_cS F dX9_reset_14 (c_X9_in hs hv3) lkX9_58 okX9_in rfl (Nat.le_of_ble_eq_true rfl) (by decide) ?_
    refine s_if_ne (tgt := 23) F dX9_reset_17 (by decide) (fun c4 => ?_) (fun c4 => ?_)
    · have h := if_t c4 h
      refine s_aload_n F dX9_reset_23 rfl ?_
      obtain ⟨v5, hv5, h⟩ := bd_i h
      refine s_cV (ci := 9) F dX9_reset_24 (c_X9_begin hs hv5) lkX9_66 okX9_begin (by decide) (ly134 hs) (lt134 hs) rfl rfl (Nat.le_of_ble_eq_true rfl) (by decide) ?_
      refine s_aload_n F dX9_reset_27 rfl ?_
      refine s_getR F dX9_reset_28 flX9_7 (ly134 hs) (lt134 hs) rfl (p134_0 hs) ?_
      refine s_iconst (v := 0) F dX9_reset_31 (by decide) ?_
      refine s_iload_n F dX9_reset_32 rfl ?_
      have h := bd_s h
      refine s_iastK (j := 0) F dX9_reset_33 (ly135 hs) (lt135 hs) (vp_lit 0 rfl) (by decide) ?_
      refine s_aload_n F dX9_reset_34 rfl ?_
      refine s_getR F dX9_reset_35 flX9_7 (ly134 hs) (lt134 hs) rfl (p134_0 hs) ?_
      refine s_iconst (v := 1) F dX9_reset_38 (by decide) ?_
      refine s_iload_n F dX9_reset_39 rfl ?_
      have h := bd_s h
      refine s_iastK (j := 1) F dX9_reset_40 (ly135 hs) (lt135 hs) (vp_lit 1 rfl) (by decide) ?_
      refine s_aload_n F dX9_reset_41 rfl ?_
      refine s_getR F dX9_reset_42 flX9_7 (ly134 hs) (lt134 hs) rfl (p134_0 hs) ?_
      refine s_iconst (v := 2) F dX9_reset_45 (by decide) ?_
      refine s_iconst (v := 0) F dX9_reset_46 (by decide) ?_
      have h := bd_s h
      refine s_iastK (j := 2) F dX9_reset_47 (ly135 hs) (lt135 hs) (vp_lit 2 rfl) (by decide) ?_
      refine s_aload_n F dX9_reset_48 rfl ?_
      refine s_getR F dX9_reset_49 flX9_7 (ly134 hs) (lt134 hs) rfl (p134_0 hs) ?_
      refine s_bipush (v := 6) F dX9_reset_52 (by decide) ?_
      refine s_iconst (v := 0) F dX9_reset_54 (by decide) ?_
      have h := bd_s h
      refine s_iastK (j := 6) F dX9_reset_55 (ly135 hs) (lt135 hs) (vp_lit 6 rfl) (by decide) ?_
      refine s_aload_n F dX9_reset_56 rfl ?_
      refine s_getR F dX9_reset_57 flX9_7 (ly134 hs) (lt134 hs) rfl (p134_0 hs) ?_
      refine s_bipush (v := 7) F dX9_reset_60 (by decide) ?_
      refine s_iconst (v := 0) F dX9_reset_62 (by decide) ?_
      have h := bd_s h
      refine s_iastK (j := 7) F dX9_reset_63 (ly135 hs) (lt135 hs) (vp_lit 7 rfl) (by decide) ?_
      refine s_aload_n F dX9_reset_64 rfl ?_
      refine s_getR F dX9_reset_65 flX9_7 (ly134 hs) (lt134 hs) rfl (p134_0 hs) ?_
      refine s_bipush (v := 8) F dX9_reset_68 (by decide) ?_
      refine s_iconst (v := 0) F dX9_reset_70 (by decide) ?_
      have h := bd_s h
      refine s_iastK (j := 8) F dX9_reset_71 (ly135 hs) (lt135 hs) (vp_lit 8 rfl) (by decide) ?_
      refine s_iconst (v := 0) F dX9_reset_72 (by decide) ?_
      refine s_istore_n F dX9_reset_73 (by decide) ?_
      refine G.weak (by exact ⟨rfl, ⟨rfl, ⟨rfl, ⟨rfl, trivial⟩⟩⟩⟩) (lX9_reset_L74 F hs hr post (fun I15 h => ?_) 2000 _ _ h)
      refine s_aload_n F dX9_reset_97 rfl ?_
      refine s_iload_n F dX9_reset_98 rfl ?_
      refine s_iload_n F dX9_reset_99 rfl ?_
      refine s_imul F dX9_reset_100 ?_
      obtain ⟨v16, hv16, h⟩ := bd_i h
      refine s_cV (ci := 9) F dX9_reset_101 (c_X9_done hs hv16) lkX9_69 okX9_done (by decide) (ly134 hs) (lt134 hs) rfl rfl (Nat.le_of_ble_eq_true rfl) (by decide) ?_
      have h := Option.some.inj h
      subst h
      exact s_iret F hr dX9_reset_104 rfl (Nat.le_refl _) (Nat.le_refl _) post
    · have h := if_f (not_not_intro c4) h
      refine s_bipush (v := (-2)) F dX9_reset_20 (by decide) ?_
      have h := Option.some.inj h
      subst h
      exact s_iret F hr dX9_reset_22 rfl (Nat.le_refl _) (Nat.le_refl _) post
set_option maxRecDepth 100000 in
set_option maxHeartbeats 4000000 in
theorem c_X9_reset {n : Nat} {Ly : LL} {I : II} {P : PP} {r : Int32 × II} (hs : ShM n Ly P) {x1 : Int32} {x2 : Int32} (h : fX9_reset I x1 x2 = some r) (l : Launch) (s0 : Nat) (D : va_G) (DA : Nat → ClassId) : Ct l s0 D DA mX9_reset [.inr (some 134), .inl x1, .inl x2] 0 0 n Ly I P (PoD (some (.inl r.1)) n Ly r.2 P) := ct_of (by decide +kernel) (Nat.le_of_ble_eq_true rfl) (fun X F hr _ => bX9_reset F hs hr ⟨rfl, rfl, rfl, rfl, rfl⟩ h)
-- ChipPilersModel.put
def fX9_put (I : II) (x1 : Int32) (x2 : Int32) (x3 : Int32) : Option (Int32 × II) := (fX9_isCell I x1 x2).bind fun v1 => (if ¬ v1 = 0 then (fX9_in x3 0 99).bind fun v3 => (if ¬ v3 = 0 then (fX9_begin I).bind fun v5 => ck (ix ((9 + (16 * x1)) + x2) 367) (ck (ix ((9 + (16 * x1)) + x2) 367) ((some (up2 v5 135 ((9 + (16 * x1)) + x2).toNatClampNeg x3)).bind fun I8 => (fX9_done I8 (v5 135 ((9 + (16 * x1)) + x2).toNatClampNeg)).bind fun v9 => some (v9.1, v9.2))) else some ((-2), I)) else some ((-1), I))
set_option maxRecDepth 100000 in
set_option maxHeartbeats 4000000 in
theorem bX9_put {X : Cx} {n : Nat} {Ly : LL} {I : II} {P : PP} {Po : PQ} {r : Int32 × II} (F : Fx X RX9 cX9_put 5 3 0 0) (hs : ShM n Ly P) (hr : Fr X (some .int) Po 0 0) (post : Po (some (.inl r.1)) n Ly r.2 P) {x1 : Int32} {x2 : Int32} {x3 : Int32} (h : fX9_put I x1 x2 x3 = some r) : G X 5 0 0 n Ly 0 [some (.inr (some 134)), some (.inl x1), some (.inl x2), some (.inl x3), none] [] I P := by
  unfold fX9_put at h
  refine s_aload_n F dX9_put_0 rfl ?_
  refine s_iload_n F dX9_put_1 rfl ?_
  refine s_iload_n F dX9_put_2 rfl ?_
  obtain ⟨v1, hv1, h⟩ := bd_i h
  refine s_cV (ci := 9) F dX9_put_3 (c_X9_isCell hs hv1) lkX9_73 okX9_isCell (by decide) (ly134 hs) (lt134 hs) rfl rfl (Nat.le_of_ble_eq_true rfl) (by decide) ?_
  refine s_if_ne (tgt := 11) F dX9_put_6 (by decide) (fun c2 => ?_) (fun c2 => ?_)
  · have h := if_t c2 h
    refine s_iload_n F dX9_put_11 rfl ?_
    refine s_iconst (v := 0) F dX9_put_12 (by decide) ?_
    refine s_bipush (v := 99) F dX9_put_13 (by decide) ?_
    obtain ⟨v3, hv3, h⟩ := bd_i h
    refine s_cS F dX9_put_15 (c_X9_in hs hv3) lkX9_58 okX9_in rfl (Nat.le_of_ble_eq_true rfl) (by decide) ?_
    refine s_if_ne (tgt := 24) F dX9_put_18 (by decide) (fun c4 => ?_) (fun c4 => ?_)
    · have h := if_t c4 h
      refine s_aload_n F dX9_put_24 rfl ?_
      obtain ⟨v5, hv5, h⟩ := bd_i h
      refine s_cV (ci := 9) F dX9_put_25 (c_X9_begin hs hv5) lkX9_66 okX9_begin (by decide) (ly134 hs) (lt134 hs) rfl rfl (Nat.le_of_ble_eq_true rfl) (by decide) ?_
      refine s_aload_n F dX9_put_28 rfl ?_
      refine s_getR F dX9_put_29 flX9_7 (ly134 hs) (lt134 hs) rfl (p134_0 hs) ?_
      refine s_bipush (v := 9) F dX9_put_32 (by decide) ?_
      refine s_bipush (v := 16) F dX9_put_34 (by decide) ?_
      refine s_iload_n F dX9_put_36 rfl ?_
      refine s_imul F dX9_put_37 ?_
      refine s_iadd F dX9_put_38 ?_
      refine s_iload_n F dX9_put_39 rfl ?_
      refine s_iadd F dX9_put_40 ?_
      obtain ⟨hc6, h⟩ := ck_s h
      refine s_iald F dX9_put_41 (ly135 hs) (lt135 hs) (ix_s hc6) ?_
      refine s_istore F dX9_put_42 (by decide) ?_
      refine s_aload_n F dX9_put_44 rfl ?_
      refine s_getR F dX9_put_45 flX9_7 (ly134 hs) (lt134 hs) rfl (p134_0 hs) ?_
      refine s_bipush (v := 9) F dX9_put_48 (by decide) ?_
      refine s_bipush (v := 16) F dX9_put_50 (by decide) ?_
      refine s_iload_n F dX9_put_52 rfl ?_
      refine s_imul F dX9_put_53 ?_
      refine s_iadd F dX9_put_54 ?_
      refine s_iload_n F dX9_put_55 rfl ?_
      refine s_iadd F dX9_put_56 ?_
      refine s_iload_n F dX9_put_57 rfl ?_
      obtain ⟨hc7, h⟩ := ck_s h
      have h := bd_s h
      refine s_iast F dX9_put_58 (ly135 hs) (lt135 hs) (ix_s hc7) ?_
      refine s_aload_n F dX9_put_59 rfl ?_
      refine s_iload F dX9_put_60 rfl ?_
      obtain ⟨v9, hv9, h⟩ := bd_i h
      refine s_cV (ci := 9) F dX9_put_62 (c_X9_done hs hv9) lkX9_69 okX9_done (by decide) (ly134 hs) (lt134 hs) rfl rfl (Nat.le_of_ble_eq_true rfl) (by decide) ?_
      have h := Option.some.inj h
      subst h
      exact s_iret F hr dX9_put_65 rfl (Nat.le_refl _) (Nat.le_refl _) post
    · have h := if_f (not_not_intro c4) h
      refine s_bipush (v := (-2)) F dX9_put_21 (by decide) ?_
      have h := Option.some.inj h
      subst h
      exact s_iret F hr dX9_put_23 rfl (Nat.le_refl _) (Nat.le_refl _) post
  · have h := if_f (not_not_intro c2) h
    refine s_iconst (v := (-1)) F dX9_put_9 (by decide) ?_
    have h := Option.some.inj h
    subst h
    exact s_iret F hr dX9_put_10 rfl (Nat.le_refl _) (Nat.le_refl _) post
set_option maxRecDepth 100000 in
set_option maxHeartbeats 4000000 in
theorem c_X9_put {n : Nat} {Ly : LL} {I : II} {P : PP} {r : Int32 × II} (hs : ShM n Ly P) {x1 : Int32} {x2 : Int32} {x3 : Int32} (h : fX9_put I x1 x2 x3 = some r) (l : Launch) (s0 : Nat) (D : va_G) (DA : Nat → ClassId) : Ct l s0 D DA mX9_put [.inr (some 134), .inl x1, .inl x2, .inl x3] 0 0 n Ly I P (PoD (some (.inl r.1)) n Ly r.2 P) := ct_of (by decide +kernel) (Nat.le_of_ble_eq_true rfl) (fun X F hr _ => bX9_put F hs hr ⟨rfl, rfl, rfl, rfl, rfl⟩ h)
-- ChipPilersModel.strew
def fX9_strew_J132 (bk : Int32 → Int32 → II → Option (Int32 × II)) (ct : Int32 → II → Option (Int32 × II)) (I : II) (x1 : Int32) (x2 : Int32) (x3 : Int32) (x4 : Int32) (x5 : Int32) (x6 : Int32) (x8 : Int32) (s1 : Int32) (s2 : Int32) (s3 : Int32) : Option (Int32 × II) := ck (ix s1 367) ((some (up2 I 135 s1.toNatClampNeg (s2 + s3))).bind fun I15 => (if x8 = 0 then bk (x4 + 0) (x6 + 1) I15 else bk (x4 + 1) (x6 + 1) I15))
def fX9_strew_J112 (bk : Int32 → Int32 → II → Option (Int32 × II)) (ct : Int32 → II → Option (Int32 × II)) (I : II) (x1 : Int32) (x2 : Int32) (x3 : Int32) (x4 : Int32) (x5 : Int32) (x6 : Int32) (x7 : Int32) (s0 : Int32) : Option (Int32 × II) := ck (ix x7 367) ((if s0 = 0 then fX9_strew_J132 bk ct I x1 x2 x3 x4 x5 x6 s0 x7 (I 135 x7.toNatClampNeg) 0 else fX9_strew_J132 bk ct I x1 x2 x3 x4 x5 x6 s0 x7 (I 135 x7.toNatClampNeg) 1))
def fX9_strew_J111 (bk : Int32 → Int32 → II → Option (Int32 × II)) (ct : Int32 → II → Option (Int32 × II)) (I : II) (x1 : Int32) (x2 : Int32) (x3 : Int32) (x4 : Int32) (x5 : Int32) (x6 : Int32) (x7 : Int32) : Option (Int32 × II) := fX9_strew_J112 bk ct I x1 x2 x3 x4 x5 x6 x7 0
def fX9_strew_L57 : Nat → (Int32 → II → Option (Int32 × II)) → Int32 → Int32 → Int32 → Int32 → Int32 → Int32 → II → Option (Int32 × II)
  | 0, _, _, _, _, _, _, _, _ => none
  | k + 1, ct, x1, x2, x3, x5, x4, x6, I => (if (I 135 1) ≤ x6 then ct x4 I else ck (nz x3) ((if ¬ (rm ((x5 * x1) + (x6 * x2)) x3) = 0 then fX9_strew_J111 (fX9_strew_L57 k ct x1 x2 x3 x5) ct I x1 x2 x3 x4 x5 x6 ((9 + (16 * x5)) + x6) else ck (ix ((9 + (16 * x5)) + x6) 367) ((if 99 ≤ (I 135 ((9 + (16 * x5)) + x6).toNatClampNeg) then fX9_strew_J111 (fX9_strew_L57 k ct x1 x2 x3 x5) ct I x1 x2 x3 x4 x5 x6 ((9 + (16 * x5)) + x6) else fX9_strew_J112 (fX9_strew_L57 k ct x1 x2 x3 x5) ct I x1 x2 x3 x4 x5 x6 ((9 + (16 * x5)) + x6) 1)))))
def fX9_strew_L43 : Nat → (Int32 → II → Option (Int32 × II)) → Int32 → Int32 → Int32 → Int32 → Int32 → II → Option (Int32 × II)
  | 0, _, _, _, _, _, _, _ => none
  | k + 1, ct, x1, x2, x3, x4, x5, I => (if (I 135 0) ≤ x5 then ct x4 I else fX9_strew_L57 2000 (fun z19 I20 => fX9_strew_L43 k ct x1 x2 x3 z19 (x5 + 1) I20) x1 x2 x3 x5 x4 0 I)
def fX9_strew (I : II) (x1 : Int32) (x2 : Int32) (x3 : Int32) : Option (Int32 × II) := (fX9_in x1 0 9).bind fun v1 => (if v1 = 0 then some ((-2), I) else (fX9_in x2 0 9).bind fun v3 => (if v3 = 0 then some ((-2), I) else (fX9_in x3 1 20).bind fun v5 => (if ¬ v5 = 0 then (fX9_begin I).bind fun v7 => fX9_strew_L43 2000 (fun z21 I22 => (if ¬ z21 = 0 then (fX9_done I22 z21).bind fun v24 => some (v24.1, v24.2) else some ((-5), I22))) x1 x2 x3 0 0 v7 else some ((-2), I))))
set_option maxRecDepth 100000 in
set_option maxHeartbeats 4000000 in
theorem lX9_strew_J132 {X : Cx} {n : Nat} {Ly : LL} {I : II} {P : PP} {Po : PQ} {r : Int32 × II} (F : Fx X RX9 cX9_strew 9 2 0 0) (hs : ShM n Ly P) (hr : Fr X (some .int) Po 0 0) (post : Po (some (.inl r.1)) n Ly r.2 P) {x1 : Int32} {x2 : Int32} {x3 : Int32} {x4 : Int32} {x5 : Int32} {x6 : Int32} {x8 : Int32} {s1 : Int32} {s2 : Int32} {s3 : Int32} {bk : Int32 → Int32 → II → Option (Int32 × II)} {ct : Int32 → II → Option (Int32 × II)} (hbk : ∀ (y4 : Int32) (y6 : Int32) (I : II), bk y4 y6 I = some r → G X 9 0 0 n Ly 57 [some (.inr (some 134)), some (.inl x1), some (.inl x2), some (.inl x3), some (.inl y4), some (.inl x5), some (.inl y6), none, none] [] I P) (hct : ∀ (y4 : Int32) (I : II), ct y4 I = some r → G X 9 0 0 n Ly 155 [some (.inr (some 134)), some (.inl x1), some (.inl x2), some (.inl x3), some (.inl y4), some (.inl x5), none, none, none] [] I P) (h : fX9_strew_J132 bk ct I x1 x2 x3 x4 x5 x6 x8 s1 s2 s3 = some r) : G X 9 0 0 n Ly 132 [some (.inr (some 134)), some (.inl x1), some (.inl x2), some (.inl x3), some (.inl x4), some (.inl x5), some (.inl x6), none, some (.inl x8)] [.inl s3, .inl s2, .inl s1, .inr (some 135)] I P := by
  unfold fX9_strew_J132 at h
  refine s_iadd F dX9_strew_132 ?_
  obtain ⟨hc14, h⟩ := ck_s h
  have h := bd_s h
  refine s_iast F dX9_strew_133 (ly135 hs) (lt135 hs) (ix_s hc14) ?_
  refine s_iload F dX9_strew_134 rfl ?_
  refine s_iload F dX9_strew_136 rfl ?_
  refine s_if_eq (tgt := 145) F dX9_strew_138 (by decide) (fun c16 => ?_) (fun c16 => ?_)
  · have h := if_t c16 h
    refine s_iconst (v := 0) F dX9_strew_145 (by decide) ?_
    refine s_iadd F dX9_strew_146 ?_
    refine s_istore F dX9_strew_147 (by decide) ?_
    refine s_inc (c := 1) F dX9_strew_149 rfl (by decide) (by decide) ?_
    refine s_goto (tgt := 57) F dX9_strew_152 (by decide) ?_
    exact G.weak (by exact ⟨rfl, ⟨rfl, ⟨rfl, ⟨rfl, ⟨rfl, ⟨rfl, ⟨rfl, trivial⟩⟩⟩⟩⟩⟩⟩) (hbk _ _ _ h)
  · have h := if_f c16 h
    refine s_iconst (v := 1) F dX9_strew_141 (by decide) ?_
    refine s_goto (tgt := 146) F dX9_strew_142 (by decide) ?_
    refine s_iadd F dX9_strew_146 ?_
    refine s_istore F dX9_strew_147 (by decide) ?_
    refine s_inc (c := 1) F dX9_strew_149 rfl (by decide) (by decide) ?_
    refine s_goto (tgt := 57) F dX9_strew_152 (by decide) ?_
    exact G.weak (by exact ⟨rfl, ⟨rfl, ⟨rfl, ⟨rfl, ⟨rfl, ⟨rfl, ⟨rfl, trivial⟩⟩⟩⟩⟩⟩⟩) (hbk _ _ _ h)
set_option maxRecDepth 100000 in
set_option maxHeartbeats 4000000 in
theorem lX9_strew_J112 {X : Cx} {n : Nat} {Ly : LL} {I : II} {P : PP} {Po : PQ} {r : Int32 × II} (F : Fx X RX9 cX9_strew 9 2 0 0) (hs : ShM n Ly P) (hr : Fr X (some .int) Po 0 0) (post : Po (some (.inl r.1)) n Ly r.2 P) {x1 : Int32} {x2 : Int32} {x3 : Int32} {x4 : Int32} {x5 : Int32} {x6 : Int32} {x7 : Int32} {s0 : Int32} {bk : Int32 → Int32 → II → Option (Int32 × II)} {ct : Int32 → II → Option (Int32 × II)} (hbk : ∀ (y4 : Int32) (y6 : Int32) (I : II), bk y4 y6 I = some r → G X 9 0 0 n Ly 57 [some (.inr (some 134)), some (.inl x1), some (.inl x2), some (.inl x3), some (.inl y4), some (.inl x5), some (.inl y6), none, none] [] I P) (hct : ∀ (y4 : Int32) (I : II), ct y4 I = some r → G X 9 0 0 n Ly 155 [some (.inr (some 134)), some (.inl x1), some (.inl x2), some (.inl x3), some (.inl y4), some (.inl x5), none, none, none] [] I P) (h : fX9_strew_J112 bk ct I x1 x2 x3 x4 x5 x6 x7 s0 = some r) : G X 9 0 0 n Ly 112 [some (.inr (some 134)), some (.inl x1), some (.inl x2), some (.inl x3), some (.inl x4), some (.inl x5), some (.inl x6), some (.inl x7), none] [.inl s0] I P := by
  unfold fX9_strew_J112 at h
  refine s_istore F dX9_strew_112 (by decide) ?_
  refine s_aload_n F dX9_strew_114 rfl ?_
  refine s_getR F dX9_strew_115 flX9_7 (ly134 hs) (lt134 hs) rfl (p134_0 hs) ?_
  refine s_iload F dX9_strew_118 rfl ?_
  refine s_dup2 F dX9_strew_120 ?_
  obtain ⟨hc12, h⟩ := ck_s h
  refine s_iald F dX9_strew_121 (ly135 hs) (lt135 hs) (ix_s hc12) ?_
  refine s_iload F dX9_strew_122 rfl ?_
  refine s_if_eq (tgt := 131) F dX9_strew_124 (by decide) (fun c13 => ?_) (fun c13 => ?_)
  · have h := if_t c13 h
    refine s_iconst (v := 0) F dX9_strew_131 (by decide) ?_
    exact G.weak (by exact ⟨rfl, ⟨rfl, ⟨rfl, ⟨rfl, ⟨rfl, ⟨rfl, ⟨rfl, ⟨rfl, trivial⟩⟩⟩⟩⟩⟩⟩⟩) (lX9_strew_J132 F hs hr post (fun y0 y1 y2 h => hbk y0 y1 y2 h) hct h)
  · have h := if_f c13 h
    refine s_iconst (v := 1) F dX9_strew_127 (by decide) ?_
    refine s_goto (tgt := 132) F dX9_strew_128 (by decide) ?_
    exact G.weak (by exact ⟨rfl, ⟨rfl, ⟨rfl, ⟨rfl, ⟨rfl, ⟨rfl, ⟨rfl, ⟨rfl, trivial⟩⟩⟩⟩⟩⟩⟩⟩) (lX9_strew_J132 F hs hr post (fun y0 y1 y2 h => hbk y0 y1 y2 h) hct h)
set_option maxRecDepth 100000 in
set_option maxHeartbeats 4000000 in
theorem lX9_strew_J111 {X : Cx} {n : Nat} {Ly : LL} {I : II} {P : PP} {Po : PQ} {r : Int32 × II} (F : Fx X RX9 cX9_strew 9 2 0 0) (hs : ShM n Ly P) (hr : Fr X (some .int) Po 0 0) (post : Po (some (.inl r.1)) n Ly r.2 P) {x1 : Int32} {x2 : Int32} {x3 : Int32} {x4 : Int32} {x5 : Int32} {x6 : Int32} {x7 : Int32} {bk : Int32 → Int32 → II → Option (Int32 × II)} {ct : Int32 → II → Option (Int32 × II)} (hbk : ∀ (y4 : Int32) (y6 : Int32) (I : II), bk y4 y6 I = some r → G X 9 0 0 n Ly 57 [some (.inr (some 134)), some (.inl x1), some (.inl x2), some (.inl x3), some (.inl y4), some (.inl x5), some (.inl y6), none, none] [] I P) (hct : ∀ (y4 : Int32) (I : II), ct y4 I = some r → G X 9 0 0 n Ly 155 [some (.inr (some 134)), some (.inl x1), some (.inl x2), some (.inl x3), some (.inl y4), some (.inl x5), none, none, none] [] I P) (h : fX9_strew_J111 bk ct I x1 x2 x3 x4 x5 x6 x7 = some r) : G X 9 0 0 n Ly 111 [some (.inr (some 134)), some (.inl x1), some (.inl x2), some (.inl x3), some (.inl x4), some (.inl x5), some (.inl x6), some (.inl x7), none] [] I P := by
  unfold fX9_strew_J111 at h
  refine s_iconst (v := 0) F dX9_strew_111 (by decide) ?_
  exact G.weak (by exact ⟨rfl, ⟨rfl, ⟨rfl, ⟨rfl, ⟨rfl, ⟨rfl, ⟨rfl, ⟨rfl, trivial⟩⟩⟩⟩⟩⟩⟩⟩) (lX9_strew_J112 F hs hr post (fun y0 y1 y2 h => hbk y0 y1 y2 h) hct h)
set_option maxRecDepth 100000 in
set_option maxHeartbeats 4000000 in
theorem lX9_strew_L57 {X : Cx} {n : Nat} {Ly : LL} {P : PP} {Po : PQ} {r : Int32 × II} (F : Fx X RX9 cX9_strew 9 2 0 0) (hs : ShM n Ly P) (hr : Fr X (some .int) Po 0 0) (post : Po (some (.inl r.1)) n Ly r.2 P) {x1 : Int32} {x2 : Int32} {x3 : Int32} {x5 : Int32} {ct : Int32 → II → Option (Int32 × II)} (hct : ∀ (x4 : Int32) (I : II), ct x4 I = some r → G X 9 0 0 n Ly 155 [some (.inr (some 134)), some (.inl x1), some (.inl x2), some (.inl x3), some (.inl x4), some (.inl x5), none, none, none] [] I P) : ∀ (k : Nat) (x4 : Int32) (x6 : Int32) (I : II), fX9_strew_L57 k ct x1 x2 x3 x5 x4 x6 I = some r → G X 9 0 0 n Ly 57 [some (.inr (some 134)), some (.inl x1), some (.inl x2), some (.inl x3), some (.inl x4), some (.inl x5), some (.inl x6), none, none] [] I P := by
  intro k
  induction k with
  | zero =>
    intro x4 x6 I h
    cases h
  | succ k ih =>
    intro x4 x6 I h
    rw [fX9_strew_L57] at h
    refine s_iload F dX9_strew_57 rfl ?_
    refine s_aload_n F dX9_strew_59 rfl ?_
    refine s_getR F dX9_strew_60 flX9_7 (ly134 hs) (lt134 hs) rfl (p134_0 hs) ?_
    refine s_iconst (v := 1) F dX9_strew_63 (by decide) ?_
    refine s_ialdK (j := 1) F dX9_strew_64 (ly135 hs) (lt135 hs) (vp_lit 1 rfl) (by decide) ?_
    refine s_icmp_ge (tgt := 155) F dX9_strew_65 (by decide) (fun c9 => ?_) (fun c9 => ?_)
    · have h := if_t c9 h
      exact G.weak (by exact ⟨rfl, ⟨rfl, ⟨rfl, ⟨rfl, ⟨rfl, ⟨rfl, trivial⟩⟩⟩⟩⟩⟩) (hct _ _ h)
    · have h := if_f c9 h
      refine s_bipush (v := 9) F dX9_strew_68 (by decide) ?_
      refine s_bipush (v := 16) F dX9_strew_70 (by decide) ?_
      refine s_iload F dX9_strew_72 rfl ?_
      refine s_imul F dX9_strew_74 ?_
      refine s_iadd F dX9_strew_75 ?_
      refine s_iload F dX9_strew_76 rfl ?_
      refine s_iadd F dX9_strew_78 ?_
      refine s_istore F dX9_strew_79 (by decide) ?_
      refine s_iload F dX9_strew_81 rfl ?_
      refine s_iload_n F dX9_strew_83 rfl ?_
      refine s_imul F dX9_strew_84 ?_
      refine s_iload F dX9_strew_85 rfl ?_
      refine s_iload_n F dX9_strew_87 rfl ?_
      refine s_imul F dX9_strew_88 ?_
      refine s_iadd F dX9_strew_89 ?_
      refine s_iload_n F dX9_strew_90 rfl ?_
      obtain ⟨hy10, h⟩ := ck_s h
      refine s_rem F dX9_strew_91 (nz_s hy10) ?_
      refine s_if_ne (tgt := 111) F dX9_strew_92 (by decide) (fun c11 => ?_) (fun c11 => ?_)
      · have h := if_t c11 h
        exact G.weak (by exact ⟨rfl, ⟨rfl, ⟨rfl, ⟨rfl, ⟨rfl, ⟨rfl, ⟨rfl, ⟨rfl, trivial⟩⟩⟩⟩⟩⟩⟩⟩) (lX9_strew_J111 F hs hr post (fun y0 y1 y2 h => ih y0 y1 y2 h) hct h)
      · have h := if_f (not_not_intro c11) h
        refine s_aload_n F dX9_strew_95 rfl ?_
        refine s_getR F dX9_strew_96 flX9_7 (ly134 hs) (lt134 hs) rfl (p134_0 hs) ?_
        refine s_iload F dX9_strew_99 rfl ?_
        obtain ⟨hc17, h⟩ := ck_s h
        refine s_iald F dX9_strew_101 (ly135 hs) (lt135 hs) (ix_s hc17) ?_
        refine s_bipush (v := 99) F dX9_strew_102 (by decide) ?_
        refine s_icmp_ge (tgt := 111) F dX9_strew_104 (by decide) (fun c18 => ?_) (fun c18 => ?_)
        · have h := if_t c18 h
          exact G.weak (by exact ⟨rfl, ⟨rfl, ⟨rfl, ⟨rfl, ⟨rfl, ⟨rfl, ⟨rfl, ⟨rfl, trivial⟩⟩⟩⟩⟩⟩⟩⟩) (lX9_strew_J111 F hs hr post (fun y0 y1 y2 h => ih y0 y1 y2 h) hct h)
        · have h := if_f c18 h
          refine s_iconst (v := 1) F dX9_strew_107 (by decide) ?_
          refine s_goto (tgt := 112) F dX9_strew_108 (by decide) ?_
          exact G.weak (by exact ⟨rfl, ⟨rfl, ⟨rfl, ⟨rfl, ⟨rfl, ⟨rfl, ⟨rfl, ⟨rfl, trivial⟩⟩⟩⟩⟩⟩⟩⟩) (lX9_strew_J112 F hs hr post (fun y0 y1 y2 h => ih y0 y1 y2 h) hct h)
set_option maxRecDepth 100000 in
set_option maxHeartbeats 4000000 in
theorem lX9_strew_L43 {X : Cx} {n : Nat} {Ly : LL} {P : PP} {Po : PQ} {r : Int32 × II} (F : Fx X RX9 cX9_strew 9 2 0 0) (hs : ShM n Ly P) (hr : Fr X (some .int) Po 0 0) (post : Po (some (.inl r.1)) n Ly r.2 P) {x1 : Int32} {x2 : Int32} {x3 : Int32} {ct : Int32 → II → Option (Int32 × II)} (hct : ∀ (x4 : Int32) (I : II), ct x4 I = some r → G X 9 0 0 n Ly 161 [some (.inr (some 134)), none, none, none, some (.inl x4), none, none, none, none] [] I P) : ∀ (k : Nat) (x4 : Int32) (x5 : Int32) (I : II), fX9_strew_L43 k ct x1 x2 x3 x4 x5 I = some r → G X 9 0 0 n Ly 43 [some (.inr (some 134)), some (.inl x1), some (.inl x2), some (.inl x3), some (.inl x4), some (.inl x5), none, none, none] [] I P := by
  intro k
  induction k with
  | zero =>
    intro x4 x5 I h
    cases h
  | succ k ih =>
    intro x4 x5 I h
    rw [fX9_strew_L43] at h
    refine s_iload F dX9_strew_43 rfl ?_
    refine s_aload_n F dX9_strew_45 rfl ?_
    refine s_getR F dX9_strew_46 flX9_7 (ly134 hs) (lt134 hs) rfl (p134_0 hs) ?_
    refine s_iconst (v := 0) F dX9_strew_49 (by decide) ?_
    refine s_ialdK (j := 0) F dX9_strew_50 (ly135 hs) (lt135 hs) (vp_lit 0 rfl) (by decide) ?_
    refine s_icmp_ge (tgt := 161) F dX9_strew_51 (by decide) (fun c8 => ?_) (fun c8 => ?_)
    · have h := if_t c8 h
      exact G.weak (by exact ⟨rfl, ⟨rfl, trivial⟩⟩) (hct _ _ h)
    · have h := if_f c8 h
      refine s_iconst (v := 0) F dX9_strew_54 (by decide) ?_
      refine s_istore F dX9_strew_55 (by decide) ?_
      refine G.weak (by exact ⟨rfl, ⟨rfl, ⟨rfl, ⟨rfl, ⟨rfl, ⟨rfl, ⟨rfl, trivial⟩⟩⟩⟩⟩⟩⟩) (lX9_strew_L57 F hs hr post (fun z19 I20 h => ?_) 2000 _ _ _ h)
      refine s_inc (c := 1) F dX9_strew_155 rfl (by decide) (by decide) ?_
      refine s_goto (tgt := 43) F dX9_strew_158 (by decide) ?_
      exact G.weak (by exact ⟨rfl, ⟨rfl, ⟨rfl, ⟨rfl, ⟨rfl, ⟨rfl, trivial⟩⟩⟩⟩⟩⟩) (ih _ _ _ h)
set_option maxRecDepth 100000 in
set_option maxHeartbeats 4000000 in
theorem bX9_strew {X : Cx} {n : Nat} {Ly : LL} {I : II} {P : PP} {Po : PQ} {r : Int32 × II} (F : Fx X RX9 cX9_strew 9 2 0 0) (hs : ShM n Ly P) (hr : Fr X (some .int) Po 0 0) (post : Po (some (.inl r.1)) n Ly r.2 P) {x1 : Int32} {x2 : Int32} {x3 : Int32} (h : fX9_strew I x1 x2 x3 = some r) : G X 9 0 0 n Ly 0 [some (.inr (some 134)), some (.inl x1), some (.inl x2), some (.inl x3), none, none, none, none, none] [] I P := by
  unfold fX9_strew at h
  refine s_iload_n F dX9_strew_0 rfl ?_
  refine s_iconst (v := 0) F dX9_strew_1 (by decide) ?_
  refine s_bipush (v := 9) F dX9_strew_2 (by decide) ?_
  obtain ⟨v1, hv1, h⟩ := bd_i h
  refine s_cS F dX9_strew_4 (c_X9_in hs hv1) lkX9_58 okX9_in rfl (Nat.le_of_ble_eq_true rfl) (by decide) ?_
  refine s_if_eq (tgt := 30) F dX9_strew_7 (by decide) (fun c2 => ?_) (fun c2 => ?_)
  · have h := if_t c2 h
    refine s_bipush (v := (-2)) F dX9_strew_30 (by decide) ?_
    have h := Option.some.inj h
    subst h
    exact s_iret F hr dX9_strew_32 rfl (Nat.le_refl _) (Nat.le_refl _) post
  · have h := if_f c2 h
    refine s_iload_n F dX9_strew_10 rfl ?_
    refine s_iconst (v := 0) F dX9_strew_11 (by decide) ?_
    refine s_bipush (v := 9) F dX9_strew_12 (by decide) ?_
    obtain ⟨v3, hv3, h⟩ := bd_i h
    refine s_cS F dX9_strew_14 (c_X9_in hs hv3) lkX9_58 okX9_in rfl (Nat.le_of_ble_eq_true rfl) (by decide) ?_
    refine s_if_eq (tgt := 30) F dX9_strew_17 (by decide) (fun c4 => ?_) (fun c4 => ?_)
    · have h := if_t c4 h
      refine s_bipush (v := (-2)) F dX9_strew_30 (by decide) ?_
      have h := Option.some.inj h
      subst h
      exact s_iret F hr dX9_strew_32 rfl (Nat.le_refl _) (Nat.le_refl _) post
    · have h := if_f c4 h
      refine s_iload_n F dX9_strew_20 rfl ?_
      refine s_iconst (v := 1) F dX9_strew_21 (by decide) ?_
      refine s_bipush (v := 20) F dX9_strew_22 (by decide) ?_
      obtain ⟨v5, hv5, h⟩ := bd_i h
      refine s_cS F dX9_strew_24 (c_X9_in hs hv5) lkX9_58 okX9_in rfl (Nat.le_of_ble_eq_true rfl) (by decide) ?_
      refine s_if_ne (tgt := 33) F dX9_strew_27 (by decide) (fun c6 => ?_) (fun c6 => ?_)
      · have h := if_t c6 h
        refine s_aload_n F dX9_strew_33 rfl ?_
        obtain ⟨v7, hv7, h⟩ := bd_i h
        refine s_cV (ci := 9) F dX9_strew_34 (c_X9_begin hs hv7) lkX9_66 okX9_begin (by decide) (ly134 hs) (lt134 hs) rfl rfl (Nat.le_of_ble_eq_true rfl) (by decide) ?_
        refine s_iconst (v := 0) F dX9_strew_37 (by decide) ?_
        refine s_istore F dX9_strew_38 (by decide) ?_
        refine s_iconst (v := 0) F dX9_strew_40 (by decide) ?_
        refine s_istore F dX9_strew_41 (by decide) ?_
        refine G.weak (by exact ⟨rfl, ⟨rfl, ⟨rfl, ⟨rfl, ⟨rfl, ⟨rfl, trivial⟩⟩⟩⟩⟩⟩) (lX9_strew_L43 F hs hr post (fun z21 I22 h => ?_) 2000 _ _ _ h)
        refine s_iload F dX9_strew_161 rfl ?_
        refine s_if_ne (tgt := 171) F dX9_strew_163 (by decide) (fun c23 => ?_) (fun c23 => ?_)
        · have h := if_t c23 h
          refine s_aload_n F dX9_strew_171 rfl ?_
          refine s_iload F dX9_strew_172 rfl ?_
          obtain ⟨v24, hv24, h⟩ := bd_i h
          refine s_cV (ci := 9) F dX9_strew_174 (c_X9_done hs hv24) lkX9_69 okX9_done (by decide) (ly134 hs) (lt134 hs) rfl rfl (Nat.le_of_ble_eq_true rfl) (by decide) ?_
          have h := Option.some.inj h
          subst h
          exact s_iret F hr dX9_strew_177 rfl (Nat.le_refl _) (Nat.le_refl _) post
        · have h := if_f (not_not_intro c23) h
          refine s_bipush (v := (-5)) F dX9_strew_166 (by decide) ?_
          refine s_goto (tgt := 177) F dX9_strew_168 (by decide) ?_
          have h := Option.some.inj h
          subst h
          exact s_iret F hr dX9_strew_177 rfl (Nat.le_refl _) (Nat.le_refl _) post
      · have h := if_f (not_not_intro c6) h
        refine s_bipush (v := (-2)) F dX9_strew_30 (by decide) ?_
        have h := Option.some.inj h
        subst h
        exact s_iret F hr dX9_strew_32 rfl (Nat.le_refl _) (Nat.le_refl _) post
set_option maxRecDepth 100000 in
set_option maxHeartbeats 4000000 in
theorem c_X9_strew {n : Nat} {Ly : LL} {I : II} {P : PP} {r : Int32 × II} (hs : ShM n Ly P) {x1 : Int32} {x2 : Int32} {x3 : Int32} (h : fX9_strew I x1 x2 x3 = some r) (l : Launch) (s0 : Nat) (D : va_G) (DA : Nat → ClassId) : Ct l s0 D DA mX9_strew [.inr (some 134), .inl x1, .inl x2, .inl x3] 0 0 n Ly I P (PoD (some (.inl r.1)) n Ly r.2 P) := ct_of (by decide +kernel) (Nat.le_of_ble_eq_true rfl) (fun X F hr _ => bX9_strew F hs hr ⟨rfl, rfl, rfl, rfl, rfl⟩ h)
-- ChipPilersModel.stepped
def fX9_stepped_J47 (I : II) (x3 : Int32) (s0 : Int32) (s1 : Int32) : Option (Int32) := (fX9_isCell I x3 (s0 + s1)).bind fun v5 => (if v5 = 0 then some (-5) else some ((16 * x3) + (s0 + s1)))
def fX9_stepped_J22 (I : II) (x1 : Int32) (x2 : Int32) (s0 : Int32) (s1 : Int32) : Option (Int32) := (if ¬ x2 = 1 then (if ¬ x2 = 3 then fX9_stepped_J47 I (s0 + s1) (rm x1 16) 0 else fX9_stepped_J47 I (s0 + s1) (rm x1 16) (-1)) else fX9_stepped_J47 I (s0 + s1) (rm x1 16) 1)
def fX9_stepped (I : II) (x1 : Int32) (x2 : Int32) : Option (Int32) := (if ¬ x2 = 2 then (if ¬ x2 = 0 then fX9_stepped_J22 I x1 x2 (x1 / 16) 0 else fX9_stepped_J22 I x1 x2 (x1 / 16) (-1)) else fX9_stepped_J22 I x1 x2 (x1 / 16) 1)
set_option maxRecDepth 100000 in
set_option maxHeartbeats 4000000 in
theorem lX9_stepped_J47 {X : Cx} {n : Nat} {Ly : LL} {I : II} {P : PP} {Po : PQ} {r : Int32} (F : Fx X RX9 cX9_stepped 5 3 0 0) (hs : ShM n Ly P) (hr : Fr X (some .int) Po 0 0) (post : Po (some (.inl r)) n Ly I P) {x3 : Int32} {s0 : Int32} {s1 : Int32} (h : fX9_stepped_J47 I x3 s0 s1 = some r) : G X 5 0 0 n Ly 47 [some (.inr (some 134)), none, none, some (.inl x3), none] [.inl s1, .inl s0] I P := by
  unfold fX9_stepped_J47 at h
  refine s_iadd F dX9_stepped_47 ?_
  refine s_istore F dX9_stepped_48 (by decide) ?_
  refine s_aload_n F dX9_stepped_50 rfl ?_
  refine s_iload_n F dX9_stepped_51 rfl ?_
  refine s_iload F dX9_stepped_52 rfl ?_
  obtain ⟨v5, hv5, h⟩ := bd_i h
  refine s_cV (ci := 9) F dX9_stepped_54 (c_X9_isCell hs hv5) lkX9_73 okX9_isCell (by decide) (ly134 hs) (lt134 hs) rfl rfl (Nat.le_of_ble_eq_true rfl) (by decide) ?_
  refine s_if_eq (tgt := 70) F dX9_stepped_57 (by decide) (fun c6 => ?_) (fun c6 => ?_)
  · have h := if_t c6 h
    refine s_bipush (v := (-5)) F dX9_stepped_70 (by decide) ?_
    have h := Option.some.inj h
    subst h
    exact s_iret F hr dX9_stepped_72 rfl (Nat.le_refl _) (Nat.le_refl _) post
  · have h := if_f c6 h
    refine s_bipush (v := 16) F dX9_stepped_60 (by decide) ?_
    refine s_iload_n F dX9_stepped_62 rfl ?_
    refine s_imul F dX9_stepped_63 ?_
    refine s_iload F dX9_stepped_64 rfl ?_
    refine s_iadd F dX9_stepped_66 ?_
    refine s_goto (tgt := 72) F dX9_stepped_67 (by decide) ?_
    have h := Option.some.inj h
    subst h
    exact s_iret F hr dX9_stepped_72 rfl (Nat.le_refl _) (Nat.le_refl _) post
set_option maxRecDepth 100000 in
set_option maxHeartbeats 4000000 in
theorem lX9_stepped_J22 {X : Cx} {n : Nat} {Ly : LL} {I : II} {P : PP} {Po : PQ} {r : Int32} (F : Fx X RX9 cX9_stepped 5 3 0 0) (hs : ShM n Ly P) (hr : Fr X (some .int) Po 0 0) (post : Po (some (.inl r)) n Ly I P) {x1 : Int32} {x2 : Int32} {s0 : Int32} {s1 : Int32} (h : fX9_stepped_J22 I x1 x2 s0 s1 = some r) : G X 5 0 0 n Ly 22 [some (.inr (some 134)), some (.inl x1), some (.inl x2), none, none] [.inl s1, .inl s0] I P := by
  unfold fX9_stepped_J22 at h
  refine s_iadd F dX9_stepped_22 ?_
  refine s_istore_n F dX9_stepped_23 (by decide) ?_
  refine s_iload_n F dX9_stepped_24 rfl ?_
  refine s_bipush (v := 16) F dX9_stepped_25 (by decide) ?_
  refine s_rem F dX9_stepped_27 (by decide) ?_
  refine s_iload_n F dX9_stepped_28 rfl ?_
  refine s_iconst (v := 1) F dX9_stepped_29 (by decide) ?_
  refine s_icmp_ne (tgt := 37) F dX9_stepped_30 (by decide) (fun c3 => ?_) (fun c3 => ?_)
  · have h := if_t c3 h
    refine s_iload_n F dX9_stepped_37 rfl ?_
    refine s_iconst (v := 3) F dX9_stepped_38 (by decide) ?_
    refine s_icmp_ne (tgt := 46) F dX9_stepped_39 (by decide) (fun c4 => ?_) (fun c4 => ?_)
    · have h := if_t c4 h
      refine s_iconst (v := 0) F dX9_stepped_46 (by decide) ?_
      exact G.weak (by exact ⟨rfl, ⟨rfl, trivial⟩⟩) (lX9_stepped_J47 F hs hr post h)
    · have h := if_f (not_not_intro c4) h
      refine s_iconst (v := (-1)) F dX9_stepped_42 (by decide) ?_
      refine s_goto (tgt := 47) F dX9_stepped_43 (by decide) ?_
      exact G.weak (by exact ⟨rfl, ⟨rfl, trivial⟩⟩) (lX9_stepped_J47 F hs hr post h)
  · have h := if_f (not_not_intro c3) h
    refine s_iconst (v := 1) F dX9_stepped_33 (by decide) ?_
    refine s_goto (tgt := 47) F dX9_stepped_34 (by decide) ?_
    exact G.weak (by exact ⟨rfl, ⟨rfl, trivial⟩⟩) (lX9_stepped_J47 F hs hr post h)
set_option maxRecDepth 100000 in
set_option maxHeartbeats 4000000 in
theorem bX9_stepped {X : Cx} {n : Nat} {Ly : LL} {I : II} {P : PP} {Po : PQ} {r : Int32} (F : Fx X RX9 cX9_stepped 5 3 0 0) (hs : ShM n Ly P) (hr : Fr X (some .int) Po 0 0) (post : Po (some (.inl r)) n Ly I P) {x1 : Int32} {x2 : Int32} (h : fX9_stepped I x1 x2 = some r) : G X 5 0 0 n Ly 0 [some (.inr (some 134)), some (.inl x1), some (.inl x2), none, none] [] I P := by
  unfold fX9_stepped at h
  refine s_iload_n F dX9_stepped_0 rfl ?_
  refine s_bipush (v := 16) F dX9_stepped_1 (by decide) ?_
  refine s_idiv F dX9_stepped_3 (by decide) ?_
  refine s_iload_n F dX9_stepped_4 rfl ?_
  refine s_iconst (v := 2) F dX9_stepped_5 (by decide) ?_
  refine s_icmp_ne (tgt := 13) F dX9_stepped_6 (by decide) (fun c1 => ?_) (fun c1 => ?_)
  · have h := if_t c1 h
    refine s_iload_n F dX9_stepped_13 rfl ?_
    refine s_if_ne (tgt := 21) F dX9_stepped_14 (by decide) (fun c2 => ?_) (fun c2 => ?_)
    · have h := if_t c2 h
      refine s_iconst (v := 0) F dX9_stepped_21 (by decide) ?_
      exact G.weak (by exact ⟨rfl, ⟨rfl, ⟨rfl, trivial⟩⟩⟩) (lX9_stepped_J22 F hs hr post h)
    · have h := if_f (not_not_intro c2) h
      refine s_iconst (v := (-1)) F dX9_stepped_17 (by decide) ?_
      refine s_goto (tgt := 22) F dX9_stepped_18 (by decide) ?_
      exact G.weak (by exact ⟨rfl, ⟨rfl, ⟨rfl, trivial⟩⟩⟩) (lX9_stepped_J22 F hs hr post h)
  · have h := if_f (not_not_intro c1) h
    refine s_iconst (v := 1) F dX9_stepped_9 (by decide) ?_
    refine s_goto (tgt := 22) F dX9_stepped_10 (by decide) ?_
    exact G.weak (by exact ⟨rfl, ⟨rfl, ⟨rfl, trivial⟩⟩⟩) (lX9_stepped_J22 F hs hr post h)
set_option maxRecDepth 100000 in
set_option maxHeartbeats 4000000 in
theorem c_X9_stepped {n : Nat} {Ly : LL} {I : II} {P : PP} {r : Int32} (hs : ShM n Ly P) {x1 : Int32} {x2 : Int32} (h : fX9_stepped I x1 x2 = some r) (l : Launch) (s0 : Nat) (D : va_G) (DA : Nat → ClassId) : Ct l s0 D DA mX9_stepped [.inr (some 134), .inl x1, .inl x2] 0 0 n Ly I P (PoD (some (.inl r)) n Ly I P) := ct_of (by decide +kernel) (Nat.le_of_ble_eq_true rfl) (fun X F hr _ => bX9_stepped F hs hr ⟨rfl, rfl, rfl, rfl, rfl⟩ h)
-- ChipPilersModel.spread
def fX9_spread_L138 : Nat → (Int32 → II → Option (II)) → Int32 → Int32 → Int32 → Int32 → II → Option (II)
  | 0, _, _, _, _, _, _ => none
  | k + 1, ct, x2, x4, x3, x6, I => (if 4 ≤ x6 then ct x3 I else (fX9_stepped I x4 x6).bind fun v28 => (if v28 < 0 then fX9_spread_L138 k ct x2 x4 x3 (x6 + 1) I else ck (ix (9 + v28) 367) ((if (I 135 (9 + v28).toNatClampNeg) ≤ 0 then fX9_spread_L138 k ct x2 x4 x3 (x6 + 1) I else ck (ix v28 256) ((if 0 ≤ (I 140 v28.toNatClampNeg) then fX9_spread_L138 k ct x2 x4 x3 (x6 + 1) I else ck (ix v28 256) ((some (up2 I 140 v28.toNatClampNeg x2)).bind fun I35 => ck (ix x3 256) ((some (up2 I35 145 x3.toNatClampNeg v28)).bind fun I37 => fX9_spread_L138 k ct x2 x4 (x3 + 1) (x6 + 1) I37))))))))
def fX9_spread_L59 : Nat → (II → Option (II)) → Int32 → Int32 → II → Option (II)
  | 0, _, _, _, _ => none
  | k + 1, ct, x2, x3, I => (if x3 ≤ 0 then ct I else ck (ix (x3 + (-1)) 256) (ck (ix (9 + (I 145 (x3 + (-1)).toNatClampNeg)) 367) (ck (ix x2 128) (ck (ix x2 128) ((some (up2 I 141 x2.toNatClampNeg ((I 141 x2.toNatClampNeg) + (I 135 (9 + (I 145 (x3 + (-1)).toNatClampNeg)).toNatClampNeg)))).bind fun I18 => ck (ix x2 128) (ck (ix x2 128) ((some (up2 I18 142 x2.toNatClampNeg ((I18 142 x2.toNatClampNeg) + 1))).bind fun I21 => ck (ix x2 128) ((if (I 135 (9 + (I 145 (x3 + (-1)).toNatClampNeg)).toNatClampNeg) ≤ (I21 144 x2.toNatClampNeg) then ck (ix x2 128) (ck (ix x2 128) ((some (up2 I21 144 x2.toNatClampNeg (I21 144 x2.toNatClampNeg))).bind fun I26 => fX9_spread_L138 2000 (fun z38 I39 => fX9_spread_L59 k ct x2 z38 I39) x2 (I 145 (x3 + (-1)).toNatClampNeg) (x3 + (-1)) 0 I26)) else ck (ix x2 128) ((some (up2 I21 144 x2.toNatClampNeg (I 135 (9 + (I 145 (x3 + (-1)).toNatClampNeg)).toNatClampNeg))).bind fun I41 => fX9_spread_L138 2000 (fun z42 I43 => fX9_spread_L59 k ct x2 z42 I43) x2 (I 145 (x3 + (-1)).toNatClampNeg) (x3 + (-1)) 0 I41))))))))))
def fX9_spread (I : II) (x1 : Int32) : Option (II) := (some (up2 I 134 7 ((I 134 7) + 1))).bind fun I1 => ck (ix (I 134 7) 128) ((some (up2 I1 141 (I 134 7).toNatClampNeg 0)).bind fun I3 => ck (ix (I 134 7) 128) ((some (up2 I3 142 (I 134 7).toNatClampNeg 0)).bind fun I5 => ck (ix (I 134 7) 128) ((some (up2 I5 144 (I 134 7).toNatClampNeg 0)).bind fun I7 => ck (ix (I 134 7) 128) ((some (up2 I7 143 (I 134 7).toNatClampNeg x1)).bind fun I9 => ck (ix x1 256) ((some (up2 I9 140 x1.toNatClampNeg (I 134 7))).bind fun I11 => (some (up2 I11 145 0 x1)).bind fun I12 => fX9_spread_L59 2000 (fun I44 => some I44) (I 134 7) 1 I12)))))
set_option maxRecDepth 100000 in
set_option maxHeartbeats 4000000 in
theorem lX9_spread_L138 {X : Cx} {n : Nat} {Ly : LL} {P : PP} {Po : PQ} {r : II} (F : Fx X RX9 cX9_spread 8 4 0 0) (hs : ShM n Ly P) (hr : Fr X none Po 0 0) (post : Po none n Ly r P) {x2 : Int32} {x4 : Int32} {ct : Int32 → II → Option (II)} (hct : ∀ (x3 : Int32) (I : II), ct x3 I = some r → G X 8 0 0 n Ly 207 [some (.inr (some 134)), none, some (.inl x2), some (.inl x3), none, none, none, none] [] I P) : ∀ (k : Nat) (x3 : Int32) (x6 : Int32) (I : II), fX9_spread_L138 k ct x2 x4 x3 x6 I = some r → G X 8 0 0 n Ly 138 [some (.inr (some 134)), none, some (.inl x2), some (.inl x3), some (.inl x4), none, some (.inl x6), none] [] I P := by
  intro k
  induction k with
  | zero =>
    intro x3 x6 I h
    cases h
  | succ k ih =>
    intro x3 x6 I h
    rw [fX9_spread_L138] at h
    refine s_iload F dX9_spread_138 rfl ?_
    refine s_iconst (v := 4) F dX9_spread_140 (by decide) ?_
    refine s_icmp_ge (tgt := 207) F dX9_spread_141 (by decide) (fun c27 => ?_) (fun c27 => ?_)
    · have h := if_t c27 h
      exact G.weak (by exact ⟨rfl, ⟨rfl, ⟨rfl, trivial⟩⟩⟩) (hct _ _ h)
    · have h := if_f c27 h
      refine s_aload_n F dX9_spread_144 rfl ?_
      refine s_iload F dX9_spread_145 rfl ?_
      refine s_iload F dX9_spread_147 rfl ?_
      obtain ⟨v28, hv28, h⟩ := bd_i h
      refine s_cV (ci := 9) F dX9_spread_149 (c_X9_stepped hs hv28) lkX9_80 okX9_stepped (by decide) (ly134 hs) (lt134 hs) rfl rfl (Nat.le_of_ble_eq_true rfl) (by decide) ?_
      refine s_istore F dX9_spread_152 (by decide) ?_
      refine s_iload F dX9_spread_154 rfl ?_
      refine s_if_lt (tgt := 201) F dX9_spread_156 (by decide) (fun c29 => ?_) (fun c29 => ?_)
      · have h := if_t c29 h
        refine s_inc (c := 1) F dX9_spread_201 rfl (by decide) (by decide) ?_
        refine s_goto (tgt := 138) F dX9_spread_204 (by decide) ?_
        exact G.weak (by exact ⟨rfl, ⟨rfl, ⟨rfl, ⟨rfl, ⟨rfl, trivial⟩⟩⟩⟩⟩) (ih _ _ _ h)
      · have h := if_f c29 h
        refine s_aload_n F dX9_spread_159 rfl ?_
        refine s_getR F dX9_spread_160 flX9_7 (ly134 hs) (lt134 hs) rfl (p134_0 hs) ?_
        refine s_bipush (v := 9) F dX9_spread_163 (by decide) ?_
        refine s_iload F dX9_spread_165 rfl ?_
        refine s_iadd F dX9_spread_167 ?_
        obtain ⟨hc30, h⟩ := ck_s h
        refine s_iald F dX9_spread_168 (ly135 hs) (lt135 hs) (ix_s hc30) ?_
        refine s_if_le (tgt := 201) F dX9_spread_169 (by decide) (fun c31 => ?_) (fun c31 => ?_)
        · have h := if_t c31 h
          refine s_inc (c := 1) F dX9_spread_201 rfl (by decide) (by decide) ?_
          refine s_goto (tgt := 138) F dX9_spread_204 (by decide) ?_
          exact G.weak (by exact ⟨rfl, ⟨rfl, ⟨rfl, ⟨rfl, ⟨rfl, trivial⟩⟩⟩⟩⟩) (ih _ _ _ h)
        · have h := if_f c31 h
          refine s_aload_n F dX9_spread_172 rfl ?_
          refine s_getR F dX9_spread_173 flX9_26 (ly134 hs) (lt134 hs) rfl (p134_6 hs) ?_
          refine s_iload F dX9_spread_176 rfl ?_
          obtain ⟨hc32, h⟩ := ck_s h
          refine s_iald F dX9_spread_178 (ly140 hs) (lt140 hs) (ix_s hc32) ?_
          refine s_if_ge (tgt := 201) F dX9_spread_179 (by decide) (fun c33 => ?_) (fun c33 => ?_)
          · have h := if_t c33 h
            refine s_inc (c := 1) F dX9_spread_201 rfl (by decide) (by decide) ?_
            refine s_goto (tgt := 138) F dX9_spread_204 (by decide) ?_
            exact G.weak (by exact ⟨rfl, ⟨rfl, ⟨rfl, ⟨rfl, ⟨rfl, trivial⟩⟩⟩⟩⟩) (ih _ _ _ h)
          · have h := if_f c33 h
            refine s_aload_n F dX9_spread_182 rfl ?_
            refine s_getR F dX9_spread_183 flX9_26 (ly134 hs) (lt134 hs) rfl (p134_6 hs) ?_
            refine s_iload F dX9_spread_186 rfl ?_
            refine s_iload_n F dX9_spread_188 rfl ?_
            obtain ⟨hc34, h⟩ := ck_s h
            have h := bd_s h
            refine s_iast F dX9_spread_189 (ly140 hs) (lt140 hs) (ix_s hc34) ?_
            refine s_aload_n F dX9_spread_190 rfl ?_
            refine s_getR F dX9_spread_191 flX9_41 (ly134 hs) (lt134 hs) rfl (p134_12 hs) ?_
            refine s_iload_n F dX9_spread_194 rfl ?_
            refine s_iload F dX9_spread_195 rfl ?_
            obtain ⟨hc36, h⟩ := ck_s h
            have h := bd_s h
            refine s_iast F dX9_spread_197 (ly145 hs) (lt145 hs) (ix_s hc36) ?_
            refine s_inc (c := 1) F dX9_spread_198 rfl (by decide) (by decide) ?_
            refine s_inc (c := 1) F dX9_spread_201 rfl (by decide) (by decide) ?_
            refine s_goto (tgt := 138) F dX9_spread_204 (by decide) ?_
            exact G.weak (by exact ⟨rfl, ⟨rfl, ⟨rfl, ⟨rfl, ⟨rfl, trivial⟩⟩⟩⟩⟩) (ih _ _ _ h)
set_option maxRecDepth 100000 in
set_option maxHeartbeats 4000000 in
theorem lX9_spread_L59 {X : Cx} {n : Nat} {Ly : LL} {P : PP} {Po : PQ} {r : II} (F : Fx X RX9 cX9_spread 8 4 0 0) (hs : ShM n Ly P) (hr : Fr X none Po 0 0) (post : Po none n Ly r P) {x2 : Int32} {ct : II → Option (II)} (hct : ∀  (I : II), ct  I = some r → G X 8 0 0 n Ly 210 [none, none, none, none, none, none, none, none] [] I P) : ∀ (k : Nat) (x3 : Int32) (I : II), fX9_spread_L59 k ct x2 x3 I = some r → G X 8 0 0 n Ly 59 [some (.inr (some 134)), none, some (.inl x2), some (.inl x3), none, none, none, none] [] I P := by
  intro k
  induction k with
  | zero =>
    intro x3 I h
    cases h
  | succ k ih =>
    intro x3 I h
    rw [fX9_spread_L59] at h
    refine s_iload_n F dX9_spread_59 rfl ?_
    refine s_if_le (tgt := 210) F dX9_spread_60 (by decide) (fun c13 => ?_) (fun c13 => ?_)
    · have h := if_t c13 h
      exact G.weak (by exact trivial) (hct _ h)
    · have h := if_f c13 h
      refine s_inc (c := (-1)) F dX9_spread_63 rfl (by decide) (by decide) ?_
      refine s_aload_n F dX9_spread_66 rfl ?_
      refine s_getR F dX9_spread_67 flX9_41 (ly134 hs) (lt134 hs) rfl (p134_12 hs) ?_
      refine s_iload_n F dX9_spread_70 rfl ?_
      obtain ⟨hc14, h⟩ := ck_s h
      refine s_iald F dX9_spread_71 (ly145 hs) (lt145 hs) (ix_s hc14) ?_
      refine s_istore F dX9_spread_72 (by decide) ?_
      refine s_aload_n F dX9_spread_74 rfl ?_
      refine s_getR F dX9_spread_75 flX9_7 (ly134 hs) (lt134 hs) rfl (p134_0 hs) ?_
      refine s_bipush (v := 9) F dX9_spread_78 (by decide) ?_
      refine s_iload F dX9_spread_80 rfl ?_
      refine s_iadd F dX9_spread_82 ?_
      obtain ⟨hc15, h⟩ := ck_s h
      refine s_iald F dX9_spread_83 (ly135 hs) (lt135 hs) (ix_s hc15) ?_
      refine s_istore F dX9_spread_84 (by decide) ?_
      refine s_aload_n F dX9_spread_86 rfl ?_
      refine s_getR F dX9_spread_87 flX9_29 (ly134 hs) (lt134 hs) rfl (p134_8 hs) ?_
      refine s_iload_n F dX9_spread_90 rfl ?_
      refine s_dup2 F dX9_spread_91 ?_
      obtain ⟨hc16, h⟩ := ck_s h
      refine s_iald F dX9_spread_92 (ly141 hs) (lt141 hs) (ix_s hc16) ?_
      refine s_iload F dX9_spread_93 rfl ?_
      refine s_iadd F dX9_spread_95 ?_
      obtain ⟨hc17, h⟩ := ck_s h
      have h := bd_s h
      refine s_iast F dX9_spread_96 (ly141 hs) (lt141 hs) (ix_s hc17) ?_
      refine s_aload_n F dX9_spread_97 rfl ?_
      refine s_getR F dX9_spread_98 flX9_32 (ly134 hs) (lt134 hs) rfl (p134_9 hs) ?_
      refine s_iload_n F dX9_spread_101 rfl ?_
      refine s_dup2 F dX9_spread_102 ?_
      obtain ⟨hc19, h⟩ := ck_s h
      refine s_iald F dX9_spread_103 (ly142 hs) (lt142 hs) (ix_s hc19) ?_
      refine s_iconst (v := 1) F dX9_spread_104 (by decide) ?_
      refine s_iadd F dX9_spread_105 ?_
      obtain ⟨hc20, h⟩ := ck_s h
      have h := bd_s h
      refine s_iast F dX9_spread_106 (ly142 hs) (lt142 hs) (ix_s hc20) ?_
      refine s_aload_n F dX9_spread_107 rfl ?_
      refine s_getR F dX9_spread_108 flX9_38 (ly134 hs) (lt134 hs) rfl (p134_11 hs) ?_
      refine s_iload_n F dX9_spread_111 rfl ?_
      refine s_iload F dX9_spread_112 rfl ?_
      refine s_aload_n F dX9_spread_114 rfl ?_
      refine s_getR F dX9_spread_115 flX9_38 (ly134 hs) (lt134 hs) rfl (p134_11 hs) ?_
      refine s_iload_n F dX9_spread_118 rfl ?_
      obtain ⟨hc22, h⟩ := ck_s h
      refine s_iald F dX9_spread_119 (ly144 hs) (lt144 hs) (ix_s hc22) ?_
      refine s_icmp_le (tgt := 128) F dX9_spread_120 (by decide) (fun c23 => ?_) (fun c23 => ?_)
      · have h := if_t c23 h
        refine s_aload_n F dX9_spread_128 rfl ?_
        refine s_getR F dX9_spread_129 flX9_38 (ly134 hs) (lt134 hs) rfl (p134_11 hs) ?_
        refine s_iload_n F dX9_spread_132 rfl ?_
        obtain ⟨hc24, h⟩ := ck_s h
        refine s_iald F dX9_spread_133 (ly144 hs) (lt144 hs) (ix_s hc24) ?_
        obtain ⟨hc25, h⟩ := ck_s h
        have h := bd_s h
        refine s_iast F dX9_spread_134 (ly144 hs) (lt144 hs) (ix_s hc25) ?_
        refine s_iconst (v := 0) F dX9_spread_135 (by decide) ?_
        refine s_istore F dX9_spread_136 (by decide) ?_
        refine G.weak (by exact ⟨rfl, ⟨rfl, ⟨rfl, ⟨rfl, ⟨rfl, trivial⟩⟩⟩⟩⟩) (lX9_spread_L138 F hs hr post (fun z38 I39 h => ?_) 2000 _ _ _ h)
        refine s_goto (tgt := 59) F dX9_spread_207 (by decide) ?_
        exact G.weak (by exact ⟨rfl, ⟨rfl, ⟨rfl, trivial⟩⟩⟩) (ih _ _ h)
      · have h := if_f c23 h
        refine s_iload F dX9_spread_123 rfl ?_
        refine s_goto (tgt := 134) F dX9_spread_125 (by decide) ?_
        obtain ⟨hc40, h⟩ := ck_s h
        have h := bd_s h
        refine s_iast F dX9_spread_134 (ly144 hs) (lt144 hs) (ix_s hc40) ?_
        refine s_iconst (v := 0) F dX9_spread_135 (by decide) ?_
        refine s_istore F dX9_spread_136 (by decide) ?_
        refine G.weak (by exact ⟨rfl, ⟨rfl, ⟨rfl, ⟨rfl, ⟨rfl, trivial⟩⟩⟩⟩⟩) (lX9_spread_L138 F hs hr post (fun z42 I43 h => ?_) 2000 _ _ _ h)
        refine s_goto (tgt := 59) F dX9_spread_207 (by decide) ?_
        exact G.weak (by exact ⟨rfl, ⟨rfl, ⟨rfl, trivial⟩⟩⟩) (ih _ _ h)
set_option maxRecDepth 100000 in
set_option maxHeartbeats 4000000 in
theorem bX9_spread {X : Cx} {n : Nat} {Ly : LL} {I : II} {P : PP} {Po : PQ} {r : II} (F : Fx X RX9 cX9_spread 8 4 0 0) (hs : ShM n Ly P) (hr : Fr X none Po 0 0) (post : Po none n Ly r P) {x1 : Int32} (h : fX9_spread I x1 = some r) : G X 8 0 0 n Ly 0 [some (.inr (some 134)), some (.inl x1), none, none, none, none, none, none] [] I P := by
  unfold fX9_spread at h
  refine s_aload_n F dX9_spread_0 rfl ?_
  refine s_getI F dX9_spread_1 flX9_77 (ly134 hs) (lt134 hs) rfl ?_
  refine s_istore_n F dX9_spread_4 (by decide) ?_
  refine s_iconst (v := 1) F dX9_spread_5 (by decide) ?_
  refine s_istore_n F dX9_spread_6 (by decide) ?_
  refine s_aload_n F dX9_spread_7 rfl ?_
  refine s_dup F dX9_spread_8 ?_
  refine s_getI F dX9_spread_9 flX9_77 (ly134 hs) (lt134 hs) rfl ?_
  refine s_iconst (v := 1) F dX9_spread_12 (by decide) ?_
  refine s_iadd F dX9_spread_13 ?_
  have h := bd_s h
  refine s_putI F dX9_spread_14 flX9_77 (ly134 hs) (lt134 hs) rfl rfl ⟨rfl, rfl⟩ ?_
  refine s_aload_n F dX9_spread_17 rfl ?_
  refine s_getR F dX9_spread_18 flX9_29 (ly134 hs) (lt134 hs) rfl (p134_8 hs) ?_
  refine s_iload_n F dX9_spread_21 rfl ?_
  refine s_iconst (v := 0) F dX9_spread_22 (by decide) ?_
  obtain ⟨hc2, h⟩ := ck_s h
  have h := bd_s h
  refine s_iast F dX9_spread_23 (ly141 hs) (lt141 hs) (ix_s hc2) ?_
  refine s_aload_n F dX9_spread_24 rfl ?_
  refine s_getR F dX9_spread_25 flX9_32 (ly134 hs) (lt134 hs) rfl (p134_9 hs) ?_
  refine s_iload_n F dX9_spread_28 rfl ?_
  refine s_iconst (v := 0) F dX9_spread_29 (by decide) ?_
  obtain ⟨hc4, h⟩ := ck_s h
  have h := bd_s h
  refine s_iast F dX9_spread_30 (ly142 hs) (lt142 hs) (ix_s hc4) ?_
  refine s_aload_n F dX9_spread_31 rfl ?_
  refine s_getR F dX9_spread_32 flX9_38 (ly134 hs) (lt134 hs) rfl (p134_11 hs) ?_
  refine s_iload_n F dX9_spread_35 rfl ?_
  refine s_iconst (v := 0) F dX9_spread_36 (by decide) ?_
  obtain ⟨hc6, h⟩ := ck_s h
  have h := bd_s h
  refine s_iast F dX9_spread_37 (ly144 hs) (lt144 hs) (ix_s hc6) ?_
  refine s_aload_n F dX9_spread_38 rfl ?_
  refine s_getR F dX9_spread_39 flX9_35 (ly134 hs) (lt134 hs) rfl (p134_10 hs) ?_
  refine s_iload_n F dX9_spread_42 rfl ?_
  refine s_iload_n F dX9_spread_43 rfl ?_
  obtain ⟨hc8, h⟩ := ck_s h
  have h := bd_s h
  refine s_iast F dX9_spread_44 (ly143 hs) (lt143 hs) (ix_s hc8) ?_
  refine s_aload_n F dX9_spread_45 rfl ?_
  refine s_getR F dX9_spread_46 flX9_26 (ly134 hs) (lt134 hs) rfl (p134_6 hs) ?_
  refine s_iload_n F dX9_spread_49 rfl ?_
  refine s_iload_n F dX9_spread_50 rfl ?_
  obtain ⟨hc10, h⟩ := ck_s h
  have h := bd_s h
  refine s_iast F dX9_spread_51 (ly140 hs) (lt140 hs) (ix_s hc10) ?_
  refine s_aload_n F dX9_spread_52 rfl ?_
  refine s_getR F dX9_spread_53 flX9_41 (ly134 hs) (lt134 hs) rfl (p134_12 hs) ?_
  refine s_iconst (v := 0) F dX9_spread_56 (by decide) ?_
  refine s_iload_n F dX9_spread_57 rfl ?_
  have h := bd_s h
  refine s_iastK (j := 0) F dX9_spread_58 (ly145 hs) (lt145 hs) (vp_lit 0 rfl) (by decide) ?_
  refine G.weak (by exact ⟨rfl, ⟨rfl, ⟨rfl, trivial⟩⟩⟩) (lX9_spread_L59 F hs hr post (fun I44 h => ?_) 2000 _ _ h)
  have h := Option.some.inj h
  subst h
  exact s_vret F hr dX9_spread_210 (Nat.le_refl _) (Nat.le_refl _) post
set_option maxRecDepth 100000 in
set_option maxHeartbeats 4000000 in
theorem c_X9_spread {n : Nat} {Ly : LL} {I : II} {P : PP} {r : II} (hs : ShM n Ly P) {x1 : Int32} (h : fX9_spread I x1 = some r) (l : Launch) (s0 : Nat) (D : va_G) (DA : Nat → ClassId) : Ct l s0 D DA mX9_spread [.inr (some 134), .inl x1] 0 0 n Ly I P (PoD none n Ly r P) := ct_of (by decide +kernel) (Nat.le_of_ble_eq_true rfl) (fun X F hr _ => bX9_spread F hs hr ⟨rfl, rfl, rfl, rfl, rfl⟩ h)
-- ChipPilersModel.findHeaps
def fX9_findHeaps_L7 : Nat → (II → Option (II)) → Int32 → II → Option (II)
  | 0, _, _, _ => none
  | k + 1, ct, x1, I => (if 256 ≤ x1 then ct I else ck (ix x1 256) ((some (up2 I 140 x1.toNatClampNeg (-5))).bind fun I4 => fX9_findHeaps_L7 k ct (x1 + 1) I4))
def fX9_findHeaps_L42 : Nat → (II → Option (II)) → Int32 → Int32 → II → Option (II)
  | 0, _, _, _, _ => none
  | k + 1, ct, x1, x2, I => (if (I 135 1) ≤ x2 then ct I else ck (ix ((9 + (16 * x1)) + x2) 367) ((if (I 135 ((9 + (16 * x1)) + x2).toNatClampNeg) ≤ 0 then fX9_findHeaps_L42 k ct x1 (x2 + 1) I else ck (ix ((16 * x1) + x2) 256) ((if 0 ≤ (I 140 ((16 * x1) + x2).toNatClampNeg) then fX9_findHeaps_L42 k ct x1 (x2 + 1) I else (fX9_spread I ((16 * x1) + x2)).bind fun v12 => fX9_findHeaps_L42 k ct x1 (x2 + 1) v12)))))
def fX9_findHeaps_L30 : Nat → (II → Option (II)) → Int32 → II → Option (II)
  | 0, _, _, _ => none
  | k + 1, ct, x1, I => (if (I 135 0) ≤ x1 then ct I else fX9_findHeaps_L42 2000 (fun I13 => fX9_findHeaps_L30 k ct (x1 + 1) I13) x1 0 I)
def fX9_findHeaps (I : II) : Option (II) := (some (up2 I 134 7 0)).bind fun I1 => fX9_findHeaps_L7 2000 (fun I5 => fX9_findHeaps_L30 2000 (fun I14 => some I14) 0 I5) 0 I1
set_option maxRecDepth 100000 in
set_option maxHeartbeats 4000000 in
theorem lX9_findHeaps_L7 {X : Cx} {n : Nat} {Ly : LL} {P : PP} {Po : PQ} {r : II} (F : Fx X RX9 cX9_findHeaps 3 5 0 0) (hs : ShM n Ly P) (hr : Fr X none Po 0 0) (post : Po none n Ly r P)  {ct : II → Option (II)} (hct : ∀  (I : II), ct  I = some r → G X 3 0 0 n Ly 28 [some (.inr (some 134)), none, none] [] I P) : ∀ (k : Nat) (x1 : Int32) (I : II), fX9_findHeaps_L7 k ct x1 I = some r → G X 3 0 0 n Ly 7 [some (.inr (some 134)), some (.inl x1), none] [] I P := by
  intro k
  induction k with
  | zero =>
    intro x1 I h
    cases h
  | succ k ih =>
    intro x1 I h
    rw [fX9_findHeaps_L7] at h
    refine s_iload_n F dX9_findHeaps_7 rfl ?_
    refine s_sipush (v := 256) F dX9_findHeaps_8 (by decide) ?_
    refine s_icmp_ge (tgt := 28) F dX9_findHeaps_11 (by decide) (fun c2 => ?_) (fun c2 => ?_)
    · have h := if_t c2 h
      exact G.weak (by exact ⟨rfl, trivial⟩) (hct _ h)
    · have h := if_f c2 h
      refine s_aload_n F dX9_findHeaps_14 rfl ?_
      refine s_getR F dX9_findHeaps_15 flX9_26 (ly134 hs) (lt134 hs) rfl (p134_6 hs) ?_
      refine s_iload_n F dX9_findHeaps_18 rfl ?_
      refine s_bipush (v := (-5)) F dX9_findHeaps_19 (by decide) ?_
      obtain ⟨hc3, h⟩ := ck_s h
      have h := bd_s h
      refine s_iast F dX9_findHeaps_21 (ly140 hs) (lt140 hs) (ix_s hc3) ?_
      refine s_inc (c := 1) F dX9_findHeaps_22 rfl (by decide) (by decide) ?_
      refine s_goto (tgt := 7) F dX9_findHeaps_25 (by decide) ?_
      exact G.weak (by exact ⟨rfl, ⟨rfl, trivial⟩⟩) (ih _ _ h)
set_option maxRecDepth 100000 in
set_option maxHeartbeats 4000000 in
theorem lX9_findHeaps_L42 {X : Cx} {n : Nat} {Ly : LL} {P : PP} {Po : PQ} {r : II} (F : Fx X RX9 cX9_findHeaps 3 5 0 0) (hs : ShM n Ly P) (hr : Fr X none Po 0 0) (post : Po none n Ly r P) {x1 : Int32} {ct : II → Option (II)} (hct : ∀  (I : II), ct  I = some r → G X 3 0 0 n Ly 99 [some (.inr (some 134)), some (.inl x1), none] [] I P) : ∀ (k : Nat) (x2 : Int32) (I : II), fX9_findHeaps_L42 k ct x1 x2 I = some r → G X 3 0 0 n Ly 42 [some (.inr (some 134)), some (.inl x1), some (.inl x2)] [] I P := by
  intro k
  induction k with
  | zero =>
    intro x2 I h
    cases h
  | succ k ih =>
    intro x2 I h
    rw [fX9_findHeaps_L42] at h
    refine s_iload_n F dX9_findHeaps_42 rfl ?_
    refine s_aload_n F dX9_findHeaps_43 rfl ?_
    refine s_getR F dX9_findHeaps_44 flX9_7 (ly134 hs) (lt134 hs) rfl (p134_0 hs) ?_
    refine s_iconst (v := 1) F dX9_findHeaps_47 (by decide) ?_
    refine s_ialdK (j := 1) F dX9_findHeaps_48 (ly135 hs) (lt135 hs) (vp_lit 1 rfl) (by decide) ?_
    refine s_icmp_ge (tgt := 99) F dX9_findHeaps_49 (by decide) (fun c7 => ?_) (fun c7 => ?_)
    · have h := if_t c7 h
      exact G.weak (by exact ⟨rfl, ⟨rfl, trivial⟩⟩) (hct _ h)
    · have h := if_f c7 h
      refine s_aload_n F dX9_findHeaps_52 rfl ?_
      refine s_getR F dX9_findHeaps_53 flX9_7 (ly134 hs) (lt134 hs) rfl (p134_0 hs) ?_
      refine s_bipush (v := 9) F dX9_findHeaps_56 (by decide) ?_
      refine s_bipush (v := 16) F dX9_findHeaps_58 (by decide) ?_
      refine s_iload_n F dX9_findHeaps_60 rfl ?_
      refine s_imul F dX9_findHeaps_61 ?_
      refine s_iadd F dX9_findHeaps_62 ?_
      refine s_iload_n F dX9_findHeaps_63 rfl ?_
      refine s_iadd F dX9_findHeaps_64 ?_
      obtain ⟨hc8, h⟩ := ck_s h
      refine s_iald F dX9_findHeaps_65 (ly135 hs) (lt135 hs) (ix_s hc8) ?_
      refine s_if_le (tgt := 93) F dX9_findHeaps_66 (by decide) (fun c9 => ?_) (fun c9 => ?_)
      · have h := if_t c9 h
        refine s_inc (c := 1) F dX9_findHeaps_93 rfl (by decide) (by decide) ?_
        refine s_goto (tgt := 42) F dX9_findHeaps_96 (by decide) ?_
        exact G.weak (by exact ⟨rfl, ⟨rfl, ⟨rfl, trivial⟩⟩⟩) (ih _ _ h)
      · have h := if_f c9 h
        refine s_aload_n F dX9_findHeaps_69 rfl ?_
        refine s_getR F dX9_findHeaps_70 flX9_26 (ly134 hs) (lt134 hs) rfl (p134_6 hs) ?_
        refine s_bipush (v := 16) F dX9_findHeaps_73 (by decide) ?_
        refine s_iload_n F dX9_findHeaps_75 rfl ?_
        refine s_imul F dX9_findHeaps_76 ?_
        refine s_iload_n F dX9_findHeaps_77 rfl ?_
        refine s_iadd F dX9_findHeaps_78 ?_
        obtain ⟨hc10, h⟩ := ck_s h
        refine s_iald F dX9_findHeaps_79 (ly140 hs) (lt140 hs) (ix_s hc10) ?_
        refine s_if_ge (tgt := 93) F dX9_findHeaps_80 (by decide) (fun c11 => ?_) (fun c11 => ?_)
        · have h := if_t c11 h
          refine s_inc (c := 1) F dX9_findHeaps_93 rfl (by decide) (by decide) ?_
          refine s_goto (tgt := 42) F dX9_findHeaps_96 (by decide) ?_
          exact G.weak (by exact ⟨rfl, ⟨rfl, ⟨rfl, trivial⟩⟩⟩) (ih _ _ h)
        · have h := if_f c11 h
          refine s_aload_n F dX9_findHeaps_83 rfl ?_
          refine s_bipush (v := 16) F dX9_findHeaps_84 (by decide) ?_
          refine s_iload_n F dX9_findHeaps_86 rfl ?_
          refine s_imul F dX9_findHeaps_87 ?_
          refine s_iload_n F dX9_findHeaps_88 rfl ?_
          refine s_iadd F dX9_findHeaps_89 ?_
          obtain ⟨v12, hv12, h⟩ := bd_i h
          refine s_cV (ci := 9) F dX9_findHeaps_90 (c_X9_spread hs hv12) lkX9_84 okX9_spread (by decide) (ly134 hs) (lt134 hs) rfl rfl (Nat.le_of_ble_eq_true rfl) (by decide) ?_
          refine s_inc (c := 1) F dX9_findHeaps_93 rfl (by decide) (by decide) ?_
          refine s_goto (tgt := 42) F dX9_findHeaps_96 (by decide) ?_
          exact G.weak (by exact ⟨rfl, ⟨rfl, ⟨rfl, trivial⟩⟩⟩) (ih _ _ h)
set_option maxRecDepth 100000 in
set_option maxHeartbeats 4000000 in
theorem lX9_findHeaps_L30 {X : Cx} {n : Nat} {Ly : LL} {P : PP} {Po : PQ} {r : II} (F : Fx X RX9 cX9_findHeaps 3 5 0 0) (hs : ShM n Ly P) (hr : Fr X none Po 0 0) (post : Po none n Ly r P)  {ct : II → Option (II)} (hct : ∀  (I : II), ct  I = some r → G X 3 0 0 n Ly 105 [none, none, none] [] I P) : ∀ (k : Nat) (x1 : Int32) (I : II), fX9_findHeaps_L30 k ct x1 I = some r → G X 3 0 0 n Ly 30 [some (.inr (some 134)), some (.inl x1), none] [] I P := by
  intro k
  induction k with
  | zero =>
    intro x1 I h
    cases h
  | succ k ih =>
    intro x1 I h
    rw [fX9_findHeaps_L30] at h
    refine s_iload_n F dX9_findHeaps_30 rfl ?_
    refine s_aload_n F dX9_findHeaps_31 rfl ?_
    refine s_getR F dX9_findHeaps_32 flX9_7 (ly134 hs) (lt134 hs) rfl (p134_0 hs) ?_
    refine s_iconst (v := 0) F dX9_findHeaps_35 (by decide) ?_
    refine s_ialdK (j := 0) F dX9_findHeaps_36 (ly135 hs) (lt135 hs) (vp_lit 0 rfl) (by decide) ?_
    refine s_icmp_ge (tgt := 105) F dX9_findHeaps_37 (by decide) (fun c6 => ?_) (fun c6 => ?_)
    · have h := if_t c6 h
      exact G.weak (by exact trivial) (hct _ h)
    · have h := if_f c6 h
      refine s_iconst (v := 0) F dX9_findHeaps_40 (by decide) ?_
      refine s_istore_n F dX9_findHeaps_41 (by decide) ?_
      refine G.weak (by exact ⟨rfl, ⟨rfl, ⟨rfl, trivial⟩⟩⟩) (lX9_findHeaps_L42 F hs hr post (fun I13 h => ?_) 2000 _ _ h)
      refine s_inc (c := 1) F dX9_findHeaps_99 rfl (by decide) (by decide) ?_
      refine s_goto (tgt := 30) F dX9_findHeaps_102 (by decide) ?_
      exact G.weak (by exact ⟨rfl, ⟨rfl, trivial⟩⟩) (ih _ _ h)
set_option maxRecDepth 100000 in
set_option maxHeartbeats 4000000 in
theorem bX9_findHeaps {X : Cx} {n : Nat} {Ly : LL} {I : II} {P : PP} {Po : PQ} {r : II} (F : Fx X RX9 cX9_findHeaps 3 5 0 0) (hs : ShM n Ly P) (hr : Fr X none Po 0 0) (post : Po none n Ly r P)  (h : fX9_findHeaps I = some r) : G X 3 0 0 n Ly 0 [some (.inr (some 134)), none, none] [] I P := by
  unfold fX9_findHeaps at h
  refine s_aload_n F dX9_findHeaps_0 rfl ?_
  refine s_iconst (v := 0) F dX9_findHeaps_1 (by decide) ?_
  have h := bd_s h
  refine s_putI F dX9_findHeaps_2 flX9_77 (ly134 hs) (lt134 hs) rfl rfl ⟨rfl, rfl⟩ ?_
  refine s_iconst (v := 0) F dX9_findHeaps_5 (by decide) ?_
  refine s_istore_n F dX9_findHeaps_6 (by decide) ?_
  refine G.weak (by exact ⟨rfl, ⟨rfl, trivial⟩⟩) (lX9_findHeaps_L7 F hs hr post (fun I5 h => ?_) 2000 _ _ h)
  refine s_iconst (v := 0) F dX9_findHeaps_28 (by decide) ?_
  refine s_istore_n F dX9_findHeaps_29 (by decide) ?_
  refine G.weak (by exact ⟨rfl, ⟨rfl, trivial⟩⟩) (lX9_findHeaps_L30 F hs hr post (fun I14 h => ?_) 2000 _ _ h)
  have h := Option.some.inj h
  subst h
  exact s_vret F hr dX9_findHeaps_105 (Nat.le_refl _) (Nat.le_refl _) post
set_option maxRecDepth 100000 in
set_option maxHeartbeats 4000000 in
theorem c_X9_findHeaps {n : Nat} {Ly : LL} {I : II} {P : PP} {r : II} (hs : ShM n Ly P)  (h : fX9_findHeaps I = some r) (l : Launch) (s0 : Nat) (D : va_G) (DA : Nat → ClassId) : Ct l s0 D DA mX9_findHeaps [.inr (some 134)] 0 0 n Ly I P (PoD none n Ly r P) := ct_of (by decide +kernel) (Nat.le_of_ble_eq_true rfl) (fun X F hr _ => bX9_findHeaps F hs hr ⟨rfl, rfl, rfl, rfl, rfl⟩ h)
-- ChipPilersModel.isAhead
def fX9_isAhead (I : II) (x1 : Int32) (x2 : Int32) : Option (Int32) := ck (ix x1 128) (ck (ix x2 128) ((if (I 141 x1.toNatClampNeg) = (I 141 x2.toNatClampNeg) then ck (ix x1 128) (ck (ix x2 128) ((if (I 142 x1.toNatClampNeg) = (I 142 x2.toNatClampNeg) then (if x2 ≤ x1 then some 0 else some 1) else ck (ix x1 128) (ck (ix x2 128) ((if (I 142 x2.toNatClampNeg) ≤ (I 142 x1.toNatClampNeg) then some 0 else some 1)))))) else ck (ix x1 128) (ck (ix x2 128) ((if (I 141 x1.toNatClampNeg) ≤ (I 141 x2.toNatClampNeg) then some 0 else some 1))))))
set_option maxRecDepth 100000 in
set_option maxHeartbeats 4000000 in
theorem bX9_isAhead {X : Cx} {n : Nat} {Ly : LL} {I : II} {P : PP} {Po : PQ} {r : Int32} (F : Fx X RX9 cX9_isAhead 3 1 0 0) (hs : ShM n Ly P) (hr : Fr X (some .boolean) Po 0 0) (post : Po (some (.inl r)) n Ly I P) {x1 : Int32} {x2 : Int32} (h : fX9_isAhead I x1 x2 = some r) : G X 3 0 0 n Ly 0 [some (.inr (some 134)), some (.inl x1), some (.inl x2)] [] I P := by
  unfold fX9_isAhead at h
  refine s_aload_n F dX9_isAhead_0 rfl ?_
  refine s_getR F dX9_isAhead_1 flX9_29 (ly134 hs) (lt134 hs) rfl (p134_8 hs) ?_
  refine s_iload_n F dX9_isAhead_4 rfl ?_
  obtain ⟨hc1, h⟩ := ck_s h
  refine s_iald F dX9_isAhead_5 (ly141 hs) (lt141 hs) (ix_s hc1) ?_
  refine s_aload_n F dX9_isAhead_6 rfl ?_
  refine s_getR F dX9_isAhead_7 flX9_29 (ly134 hs) (lt134 hs) rfl (p134_8 hs) ?_
  refine s_iload_n F dX9_isAhead_10 rfl ?_
  obtain ⟨hc2, h⟩ := ck_s h
  refine s_iald F dX9_isAhead_11 (ly141 hs) (lt141 hs) (ix_s hc2) ?_
  refine s_icmp_eq (tgt := 36) F dX9_isAhead_12 (by decide) (fun c3 => ?_) (fun c3 => ?_)
  · have h := if_t c3 h
    refine s_aload_n F dX9_isAhead_36 rfl ?_
    refine s_getR F dX9_isAhead_37 flX9_32 (ly134 hs) (lt134 hs) rfl (p134_9 hs) ?_
    refine s_iload_n F dX9_isAhead_40 rfl ?_
    obtain ⟨hc4, h⟩ := ck_s h
    refine s_iald F dX9_isAhead_41 (ly142 hs) (lt142 hs) (ix_s hc4) ?_
    refine s_aload_n F dX9_isAhead_42 rfl ?_
    refine s_getR F dX9_isAhead_43 flX9_32 (ly134 hs) (lt134 hs) rfl (p134_9 hs) ?_
    refine s_iload_n F dX9_isAhead_46 rfl ?_
    obtain ⟨hc5, h⟩ := ck_s h
    refine s_iald F dX9_isAhead_47 (ly142 hs) (lt142 hs) (ix_s hc5) ?_
    refine s_icmp_eq (tgt := 74) F dX9_isAhead_48 (by decide) (fun c6 => ?_) (fun c6 => ?_)
    · have h := if_t c6 h
      refine s_iload_n F dX9_isAhead_74 rfl ?_
      refine s_iload_n F dX9_isAhead_75 rfl ?_
      refine s_icmp_ge (tgt := 83) F dX9_isAhead_76 (by decide) (fun c7 => ?_) (fun c7 => ?_)
      · have h := if_t c7 h
        refine s_iconst (v := 0) F dX9_isAhead_83 (by decide) ?_
        have h := Option.some.inj h
        subst h
        exact s_iret F hr dX9_isAhead_84 rfl (Nat.le_refl _) (Nat.le_refl _) post
      · have h := if_f c7 h
        refine s_iconst (v := 1) F dX9_isAhead_79 (by decide) ?_
        refine s_goto (tgt := 84) F dX9_isAhead_80 (by decide) ?_
        have h := Option.some.inj h
        subst h
        exact s_iret F hr dX9_isAhead_84 rfl (Nat.le_refl _) (Nat.le_refl _) post
    · have h := if_f c6 h
      refine s_aload_n F dX9_isAhead_51 rfl ?_
      refine s_getR F dX9_isAhead_52 flX9_32 (ly134 hs) (lt134 hs) rfl (p134_9 hs) ?_
      refine s_iload_n F dX9_isAhead_55 rfl ?_
      obtain ⟨hc8, h⟩ := ck_s h
      refine s_iald F dX9_isAhead_56 (ly142 hs) (lt142 hs) (ix_s hc8) ?_
      refine s_aload_n F dX9_isAhead_57 rfl ?_
      refine s_getR F dX9_isAhead_58 flX9_32 (ly134 hs) (lt134 hs) rfl (p134_9 hs) ?_
      refine s_iload_n F dX9_isAhead_61 rfl ?_
      obtain ⟨hc9, h⟩ := ck_s h
      refine s_iald F dX9_isAhead_62 (ly142 hs) (lt142 hs) (ix_s hc9) ?_
      refine s_icmp_ge (tgt := 70) F dX9_isAhead_63 (by decide) (fun c10 => ?_) (fun c10 => ?_)
      · have h := if_t c10 h
        refine s_iconst (v := 0) F dX9_isAhead_70 (by decide) ?_
        refine s_goto (tgt := 84) F dX9_isAhead_71 (by decide) ?_
        have h := Option.some.inj h
        subst h
        exact s_iret F hr dX9_isAhead_84 rfl (Nat.le_refl _) (Nat.le_refl _) post
      · have h := if_f c10 h
        refine s_iconst (v := 1) F dX9_isAhead_66 (by decide) ?_
        refine s_goto (tgt := 84) F dX9_isAhead_67 (by decide) ?_
        have h := Option.some.inj h
        subst h
        exact s_iret F hr dX9_isAhead_84 rfl (Nat.le_refl _) (Nat.le_refl _) post
  · have h := if_f c3 h
    refine s_aload_n F dX9_isAhead_15 rfl ?_
    refine s_getR F dX9_isAhead_16 flX9_29 (ly134 hs) (lt134 hs) rfl (p134_8 hs) ?_
    refine s_iload_n F dX9_isAhead_19 rfl ?_
    obtain ⟨hc11, h⟩ := ck_s h
    refine s_iald F dX9_isAhead_20 (ly141 hs) (lt141 hs) (ix_s hc11) ?_
    refine s_aload_n F dX9_isAhead_21 rfl ?_
    refine s_getR F dX9_isAhead_22 flX9_29 (ly134 hs) (lt134 hs) rfl (p134_8 hs) ?_
    refine s_iload_n F dX9_isAhead_25 rfl ?_
    obtain ⟨hc12, h⟩ := ck_s h
    refine s_iald F dX9_isAhead_26 (ly141 hs) (lt141 hs) (ix_s hc12) ?_
    refine s_icmp_le (tgt := 34) F dX9_isAhead_27 (by decide) (fun c13 => ?_) (fun c13 => ?_)
    · have h := if_t c13 h
      refine s_iconst (v := 0) F dX9_isAhead_34 (by decide) ?_
      have h := Option.some.inj h
      subst h
      exact s_iret F hr dX9_isAhead_35 rfl (Nat.le_refl _) (Nat.le_refl _) post
    · have h := if_f c13 h
      refine s_iconst (v := 1) F dX9_isAhead_30 (by decide) ?_
      refine s_goto (tgt := 35) F dX9_isAhead_31 (by decide) ?_
      have h := Option.some.inj h
      subst h
      exact s_iret F hr dX9_isAhead_35 rfl (Nat.le_refl _) (Nat.le_refl _) post
set_option maxRecDepth 100000 in
set_option maxHeartbeats 4000000 in
theorem c_X9_isAhead {n : Nat} {Ly : LL} {I : II} {P : PP} {r : Int32} (hs : ShM n Ly P) {x1 : Int32} {x2 : Int32} (h : fX9_isAhead I x1 x2 = some r) (l : Launch) (s0 : Nat) (D : va_G) (DA : Nat → ClassId) : Ct l s0 D DA mX9_isAhead [.inr (some 134), .inl x1, .inl x2] 0 0 n Ly I P (PoD (some (.inl r)) n Ly I P) := ct_of (by decide +kernel) (Nat.le_of_ble_eq_true rfl) (fun X F hr _ => bX9_isAhead F hs hr ⟨rfl, rfl, rfl, rfl, rfl⟩ h)
-- ChipPilersModel.placeOf
def fX9_placeOf_L4 : Nat → (Int32 → Option (Int32)) → Int32 → II → Int32 → Int32 → Option (Int32)
  | 0, _, _, _, _, _ => none
  | k + 1, ct, x1, I, x2, x3 => (if (I 134 7) ≤ x3 then ct x2 else (if x3 = x1 then fX9_placeOf_L4 k ct x1 I (x2 + 0) (x3 + 1) else (fX9_isAhead I x3 x1).bind fun v3 => (if v3 = 0 then fX9_placeOf_L4 k ct x1 I (x2 + 0) (x3 + 1) else fX9_placeOf_L4 k ct x1 I (x2 + 1) (x3 + 1))))
def fX9_placeOf (I : II) (x1 : Int32) : Option (Int32) := fX9_placeOf_L4 2000 (fun z5 => some z5) x1 I 0 0
set_option maxRecDepth 100000 in
set_option maxHeartbeats 4000000 in
theorem lX9_placeOf_L4 {X : Cx} {n : Nat} {Ly : LL} {I : II} {P : PP} {Po : PQ} {r : Int32} (F : Fx X RX9 cX9_placeOf 4 2 0 0) (hs : ShM n Ly P) (hr : Fr X (some .int) Po 0 0) (post : Po (some (.inl r)) n Ly I P) {x1 : Int32} {ct : Int32 → Option (Int32)} (hct : ∀ (x2 : Int32), ct x2 = some r → G X 4 0 0 n Ly 40 [none, none, some (.inl x2), none] [] I P) : ∀ (k : Nat) (x2 : Int32) (x3 : Int32), fX9_placeOf_L4 k ct x1 I x2 x3 = some r → G X 4 0 0 n Ly 4 [some (.inr (some 134)), some (.inl x1), some (.inl x2), some (.inl x3)] [] I P := by
  intro k
  induction k with
  | zero =>
    intro x2 x3 h
    cases h
  | succ k ih =>
    intro x2 x3 h
    rw [fX9_placeOf_L4] at h
    refine s_iload_n F dX9_placeOf_4 rfl ?_
    refine s_aload_n F dX9_placeOf_5 rfl ?_
    refine s_getI F dX9_placeOf_6 flX9_77 (ly134 hs) (lt134 hs) rfl ?_
    refine s_icmp_ge (tgt := 40) F dX9_placeOf_9 (by decide) (fun c1 => ?_) (fun c1 => ?_)
    · have h := if_t c1 h
      exact G.weak (by exact ⟨rfl, trivial⟩) (hct _ h)
    · have h := if_f c1 h
      refine s_iload_n F dX9_placeOf_12 rfl ?_
      refine s_iload_n F dX9_placeOf_13 rfl ?_
      refine s_iload_n F dX9_placeOf_14 rfl ?_
      refine s_icmp_eq (tgt := 31) F dX9_placeOf_15 (by decide) (fun c2 => ?_) (fun c2 => ?_)
      · have h := if_t c2 h
        refine s_iconst (v := 0) F dX9_placeOf_31 (by decide) ?_
        refine s_iadd F dX9_placeOf_32 ?_
        refine s_istore_n F dX9_placeOf_33 (by decide) ?_
        refine s_inc (c := 1) F dX9_placeOf_34 rfl (by decide) (by decide) ?_
        refine s_goto (tgt := 4) F dX9_placeOf_37 (by decide) ?_
        exact G.weak (by exact ⟨rfl, ⟨rfl, ⟨rfl, ⟨rfl, trivial⟩⟩⟩⟩) (ih _ _ h)
      · have h := if_f c2 h
        refine s_aload_n F dX9_placeOf_18 rfl ?_
        refine s_iload_n F dX9_placeOf_19 rfl ?_
        refine s_iload_n F dX9_placeOf_20 rfl ?_
        obtain ⟨v3, hv3, h⟩ := bd_i h
        refine s_cV (ci := 9) F dX9_placeOf_21 (c_X9_isAhead hs hv3) lkX9_88 okX9_isAhead (by decide) (ly134 hs) (lt134 hs) rfl rfl (Nat.le_of_ble_eq_true rfl) (by decide) ?_
        refine s_if_eq (tgt := 31) F dX9_placeOf_24 (by decide) (fun c4 => ?_) (fun c4 => ?_)
        · have h := if_t c4 h
          refine s_iconst (v := 0) F dX9_placeOf_31 (by decide) ?_
          refine s_iadd F dX9_placeOf_32 ?_
          refine s_istore_n F dX9_placeOf_33 (by decide) ?_
          refine s_inc (c := 1) F dX9_placeOf_34 rfl (by decide) (by decide) ?_
          refine s_goto (tgt := 4) F dX9_placeOf_37 (by decide) ?_
          exact G.weak (by exact ⟨rfl, ⟨rfl, ⟨rfl, ⟨rfl, trivial⟩⟩⟩⟩) (ih _ _ h)
        · have h := if_f c4 h
          refine s_iconst (v := 1) F dX9_placeOf_27 (by decide) ?_
          refine s_goto (tgt := 32) F dX9_placeOf_28 (by decide) ?_
          refine s_iadd F dX9_placeOf_32 ?_
          refine s_istore_n F dX9_placeOf_33 (by decide) ?_
          refine s_inc (c := 1) F dX9_placeOf_34 rfl (by decide) (by decide) ?_
          refine s_goto (tgt := 4) F dX9_placeOf_37 (by decide) ?_
          exact G.weak (by exact ⟨rfl, ⟨rfl, ⟨rfl, ⟨rfl, trivial⟩⟩⟩⟩) (ih _ _ h)
set_option maxRecDepth 100000 in
set_option maxHeartbeats 4000000 in
theorem bX9_placeOf {X : Cx} {n : Nat} {Ly : LL} {I : II} {P : PP} {Po : PQ} {r : Int32} (F : Fx X RX9 cX9_placeOf 4 2 0 0) (hs : ShM n Ly P) (hr : Fr X (some .int) Po 0 0) (post : Po (some (.inl r)) n Ly I P) {x1 : Int32} (h : fX9_placeOf I x1 = some r) : G X 4 0 0 n Ly 0 [some (.inr (some 134)), some (.inl x1), none, none] [] I P := by
  unfold fX9_placeOf at h
  refine s_iconst (v := 0) F dX9_placeOf_0 (by decide) ?_
  refine s_istore_n F dX9_placeOf_1 (by decide) ?_
  refine s_iconst (v := 0) F dX9_placeOf_2 (by decide) ?_
  refine s_istore_n F dX9_placeOf_3 (by decide) ?_
  refine G.weak (by exact ⟨rfl, ⟨rfl, ⟨rfl, ⟨rfl, trivial⟩⟩⟩⟩) (lX9_placeOf_L4 F hs hr post (fun z5 h => ?_) 2000 _ _ h)
  refine s_iload_n F dX9_placeOf_40 rfl ?_
  have h := Option.some.inj h
  subst h
  exact s_iret F hr dX9_placeOf_41 rfl (Nat.le_refl _) (Nat.le_refl _) post
set_option maxRecDepth 100000 in
set_option maxHeartbeats 4000000 in
theorem c_X9_placeOf {n : Nat} {Ly : LL} {I : II} {P : PP} {r : Int32} (hs : ShM n Ly P) {x1 : Int32} (h : fX9_placeOf I x1 = some r) (l : Launch) (s0 : Nat) (D : va_G) (DA : Nat → ClassId) : Ct l s0 D DA mX9_placeOf [.inr (some 134), .inl x1] 0 0 n Ly I P (PoD (some (.inl r)) n Ly I P) := ct_of (by decide +kernel) (Nat.le_of_ble_eq_true rfl) (fun X F hr _ => bX9_placeOf F hs hr ⟨rfl, rfl, rfl, rfl, rfl⟩ h)
-- ChipPilersModel.addWalker
def fX9_addWalker_L73 : Nat → (II → Option (Int32 × II)) → Int32 → Int32 → Int32 → Int32 → Int32 → Int32 → Int32 → II → Option (Int32 × II)
  | 0, _, _, _, _, _, _, _, _, _ => none
  | k + 1, ct, x1, x2, x3, x4, x5, x6, x7, I => (if 9 ≤ x7 then ct I else (fX9_lay I x6 x7 0).bind fun v12 => fX9_addWalker_L73 k ct x1 x2 x3 x4 x5 x6 (x7 + 1) v12)
def fX9_addWalker (I : II) (x1 : Int32) (x2 : Int32) (x3 : Int32) (x4 : Int32) (x5 : Int32) : Option (Int32 × II) := (fX9_isCell I x1 x2).bind fun v1 => (if ¬ v1 = 0 then (fX9_in x3 0 3).bind fun v3 => (if v3 = 0 then some ((-2), I) else (fX9_in x4 0 2).bind fun v5 => (if v5 = 0 then some ((-2), I) else (fX9_in x5 1 9).bind fun v7 => (if ¬ v7 = 0 then (if ¬ (I 135 2) = 8 then (fX9_begin I).bind fun v10 => fX9_addWalker_L73 2000 (fun I13 => (fX9_lay I13 (v10 135 2) 0 x1).bind fun v14 => (fX9_lay v14 (v10 135 2) 1 x2).bind fun v15 => (fX9_lay v15 (v10 135 2) 2 x3).bind fun v16 => (fX9_lay v16 (v10 135 2) 5 x4).bind fun v17 => (fX9_lay v17 (v10 135 2) 4 x5).bind fun v18 => (some (up2 v18 135 2 ((v18 135 2) + 1))).bind fun I19 => (fX9_done I19 (v10 135 2)).bind fun v20 => some (v20.1, v20.2)) x1 x2 x3 x4 x5 (v10 135 2) 0 v10 else some ((-3), I)) else some ((-2), I)))) else some ((-1), I))
set_option maxRecDepth 100000 in
set_option maxHeartbeats 4000000 in
theorem lX9_addWalker_L73 {X : Cx} {n : Nat} {Ly : LL} {P : PP} {Po : PQ} {r : Int32 × II} (F : Fx X RX9 cX9_addWalker 8 3 0 0) (hs : ShM n Ly P) (hr : Fr X (some .int) Po 0 0) (post : Po (some (.inl r.1)) n Ly r.2 P) {x1 : Int32} {x2 : Int32} {x3 : Int32} {x4 : Int32} {x5 : Int32} {x6 : Int32} {ct : II → Option (Int32 × II)} (hct : ∀  (I : II), ct  I = some r → G X 8 0 0 n Ly 95 [some (.inr (some 134)), some (.inl x1), some (.inl x2), some (.inl x3), some (.inl x4), some (.inl x5), some (.inl x6), none] [] I P) : ∀ (k : Nat) (x7 : Int32) (I : II), fX9_addWalker_L73 k ct x1 x2 x3 x4 x5 x6 x7 I = some r → G X 8 0 0 n Ly 73 [some (.inr (some 134)), some (.inl x1), some (.inl x2), some (.inl x3), some (.inl x4), some (.inl x5), some (.inl x6), some (.inl x7)] [] I P := by
  intro k
  induction k with
  | zero =>
    intro x7 I h
    cases h
  | succ k ih =>
    intro x7 I h
    rw [fX9_addWalker_L73] at h
    refine s_iload F dX9_addWalker_73 rfl ?_
    refine s_bipush (v := 9) F dX9_addWalker_75 (by decide) ?_
    refine s_icmp_ge (tgt := 95) F dX9_addWalker_77 (by decide) (fun c11 => ?_) (fun c11 => ?_)
    · have h := if_t c11 h
      exact G.weak (by exact ⟨rfl, ⟨rfl, ⟨rfl, ⟨rfl, ⟨rfl, ⟨rfl, ⟨rfl, trivial⟩⟩⟩⟩⟩⟩⟩) (hct _ h)
    · have h := if_f c11 h
      refine s_aload_n F dX9_addWalker_80 rfl ?_
      refine s_iload F dX9_addWalker_81 rfl ?_
      refine s_iload F dX9_addWalker_83 rfl ?_
      refine s_iconst (v := 0) F dX9_addWalker_85 (by decide) ?_
      obtain ⟨v12, hv12, h⟩ := bd_i h
      refine s_cV (ci := 9) F dX9_addWalker_86 (c_X9_lay hs hv12) lkX9_91 okX9_lay (by decide) (ly134 hs) (lt134 hs) rfl rfl (Nat.le_of_ble_eq_true rfl) (by decide) ?_
      refine s_inc (c := 1) F dX9_addWalker_89 rfl (by decide) (by decide) ?_
      refine s_goto (tgt := 73) F dX9_addWalker_92 (by decide) ?_
      exact G.weak (by exact ⟨rfl, ⟨rfl, ⟨rfl, ⟨rfl, ⟨rfl, ⟨rfl, ⟨rfl, ⟨rfl, trivial⟩⟩⟩⟩⟩⟩⟩⟩) (ih _ _ h)
set_option maxRecDepth 100000 in
set_option maxHeartbeats 4000000 in
theorem bX9_addWalker {X : Cx} {n : Nat} {Ly : LL} {I : II} {P : PP} {Po : PQ} {r : Int32 × II} (F : Fx X RX9 cX9_addWalker 8 3 0 0) (hs : ShM n Ly P) (hr : Fr X (some .int) Po 0 0) (post : Po (some (.inl r.1)) n Ly r.2 P) {x1 : Int32} {x2 : Int32} {x3 : Int32} {x4 : Int32} {x5 : Int32} (h : fX9_addWalker I x1 x2 x3 x4 x5 = some r) : G X 8 0 0 n Ly 0 [some (.inr (some 134)), some (.inl x1), some (.inl x2), some (.inl x3), some (.inl x4), some (.inl x5), none, none] [] I P := by
  unfold fX9_addWalker at h
  refine s_aload_n F dX9_addWalker_0 rfl ?_
  refine s_iload_n F dX9_addWalker_1 rfl ?_
  refine s_iload_n F dX9_addWalker_2 rfl ?_
  obtain ⟨v1, hv1, h⟩ := bd_i h
  refine s_cV (ci := 9) F dX9_addWalker_3 (c_X9_isCell hs hv1) lkX9_73 okX9_isCell (by decide) (ly134 hs) (lt134 hs) rfl rfl (Nat.le_of_ble_eq_true rfl) (by decide) ?_
  refine s_if_ne (tgt := 11) F dX9_addWalker_6 (by decide) (fun c2 => ?_) (fun c2 => ?_)
  · have h := if_t c2 h
    refine s_iload_n F dX9_addWalker_11 rfl ?_
    refine s_iconst (v := 0) F dX9_addWalker_12 (by decide) ?_
    refine s_iconst (v := 3) F dX9_addWalker_13 (by decide) ?_
    obtain ⟨v3, hv3, h⟩ := bd_i h
    refine s_cS F dX9_addWalker_14 (c_X9_in hs hv3) lkX9_58 okX9_in rfl (Nat.le_of_ble_eq_true rfl) (by decide) ?_
    refine s_if_eq (tgt := 41) F dX9_addWalker_17 (by decide) (fun c4 => ?_) (fun c4 => ?_)
    · have h := if_t c4 h
      refine s_bipush (v := (-2)) F dX9_addWalker_41 (by decide) ?_
      have h := Option.some.inj h
      subst h
      exact s_iret F hr dX9_addWalker_43 rfl (Nat.le_refl _) (Nat.le_refl _) post
    · have h := if_f c4 h
      refine s_iload F dX9_addWalker_20 rfl ?_
      refine s_iconst (v := 0) F dX9_addWalker_22 (by decide) ?_
      refine s_iconst (v := 2) F dX9_addWalker_23 (by decide) ?_
      obtain ⟨v5, hv5, h⟩ := bd_i h
      refine s_cS F dX9_addWalker_24 (c_X9_in hs hv5) lkX9_58 okX9_in rfl (Nat.le_of_ble_eq_true rfl) (by decide) ?_
      refine s_if_eq (tgt := 41) F dX9_addWalker_27 (by decide) (fun c6 => ?_) (fun c6 => ?_)
      · have h := if_t c6 h
        refine s_bipush (v := (-2)) F dX9_addWalker_41 (by decide) ?_
        have h := Option.some.inj h
        subst h
        exact s_iret F hr dX9_addWalker_43 rfl (Nat.le_refl _) (Nat.le_refl _) post
      · have h := if_f c6 h
        refine s_iload F dX9_addWalker_30 rfl ?_
        refine s_iconst (v := 1) F dX9_addWalker_32 (by decide) ?_
        refine s_bipush (v := 9) F dX9_addWalker_33 (by decide) ?_
        obtain ⟨v7, hv7, h⟩ := bd_i h
        refine s_cS F dX9_addWalker_35 (c_X9_in hs hv7) lkX9_58 okX9_in rfl (Nat.le_of_ble_eq_true rfl) (by decide) ?_
        refine s_if_ne (tgt := 44) F dX9_addWalker_38 (by decide) (fun c8 => ?_) (fun c8 => ?_)
        · have h := if_t c8 h
          refine s_aload_n F dX9_addWalker_44 rfl ?_
          refine s_getR F dX9_addWalker_45 flX9_7 (ly134 hs) (lt134 hs) rfl (p134_0 hs) ?_
          refine s_iconst (v := 2) F dX9_addWalker_48 (by decide) ?_
          refine s_ialdK (j := 2) F dX9_addWalker_49 (ly135 hs) (lt135 hs) (vp_lit 2 rfl) (by decide) ?_
          refine s_bipush (v := 8) F dX9_addWalker_50 (by decide) ?_
          refine s_icmp_ne (tgt := 58) F dX9_addWalker_52 (by decide) (fun c9 => ?_) (fun c9 => ?_)
          · have h := if_t c9 h
            refine s_aload_n F dX9_addWalker_58 rfl ?_
            obtain ⟨v10, hv10, h⟩ := bd_i h
            refine s_cV (ci := 9) F dX9_addWalker_59 (c_X9_begin hs hv10) lkX9_66 okX9_begin (by decide) (ly134 hs) (lt134 hs) rfl rfl (Nat.le_of_ble_eq_true rfl) (by decide) ?_
            refine s_aload_n F dX9_addWalker_62 rfl ?_
            refine s_getR F dX9_addWalker_63 flX9_7 (ly134 hs) (lt134 hs) rfl (p134_0 hs) ?_
            refine s_iconst (v := 2) F dX9_addWalker_66 (by decide) ?_
            refine s_ialdK (j := 2) F dX9_addWalker_67 (ly135 hs) (lt135 hs) (vp_lit 2 rfl) (by decide) ?_
            refine s_istore F dX9_addWalker_68 (by decide) ?_
            refine s_iconst (v := 0) F dX9_addWalker_70 (by decide) ?_
            refine s_istore F dX9_addWalker_71 (by decide) ?_
            refine G.weak (by exact ⟨rfl, ⟨rfl, ⟨rfl, ⟨rfl, ⟨rfl, ⟨rfl, ⟨rfl, ⟨rfl, trivial⟩⟩⟩⟩⟩⟩⟩⟩) (lX9_addWalker_L73 F hs hr post (fun I13 h => ?_) 2000 _ _ h)
            refine s_aload_n F dX9_addWalker_95 rfl ?_
            refine s_iload F dX9_addWalker_96 rfl ?_
            refine s_iconst (v := 0) F dX9_addWalker_98 (by decide) ?_
            refine s_iload_n F dX9_addWalker_99 rfl ?_
            obtain ⟨v14, hv14, h⟩ := bd_i h
            refine s_cV (ci := 9) F dX9_addWalker_100 (c_X9_lay hs hv14) lkX9_91 okX9_lay (by decide) (ly134 hs) (lt134 hs) rfl rfl (Nat.le_of_ble_eq_true rfl) (by decide) ?_
            refine s_aload_n F dX9_addWalker_103 rfl ?_
            refine s_iload F dX9_addWalker_104 rfl ?_
            refine s_iconst (v := 1) F dX9_addWalker_106 (by decide) ?_
            refine s_iload_n F dX9_addWalker_107 rfl ?_
            obtain ⟨v15, hv15, h⟩ := bd_i h
            refine s_cV (ci := 9) F dX9_addWalker_108 (c_X9_lay hs hv15) lkX9_91 okX9_lay (by decide) (ly134 hs) (lt134 hs) rfl rfl (Nat.le_of_ble_eq_true rfl) (by decide) ?_
            refine s_aload_n F dX9_addWalker_111 rfl ?_
            refine s_iload F dX9_addWalker_112 rfl ?_
            refine s_iconst (v := 2) F dX9_addWalker_114 (by decide) ?_
            refine s_iload_n F dX9_addWalker_115 rfl ?_
            obtain ⟨v16, hv16, h⟩ := bd_i h
            refine s_cV (ci := 9) F dX9_addWalker_116 (c_X9_lay hs hv16) lkX9_91 okX9_lay (by decide) (ly134 hs) (lt134 hs) rfl rfl (Nat.le_of_ble_eq_true rfl) (by decide) ?_
            refine s_aload_n F dX9_addWalker_119 rfl ?_
            refine s_iload F dX9_addWalker_120 rfl ?_
            refine s_iconst (v := 5) F dX9_addWalker_122 (by decide) ?_
            refine s_iload F dX9_addWalker_123 rfl ?_
            obtain ⟨v17, hv17, h⟩ := bd_i h
            refine s_cV (ci := 9) F dX9_addWalker_125 (c_X9_lay hs hv17) lkX9_91 okX9_lay (by decide) (ly134 hs) (lt134 hs) rfl rfl (Nat.le_of_ble_eq_true rfl) (by decide) ?_
            refine s_aload_n F dX9_addWalker_128 rfl ?_
            refine s_iload F dX9_addWalker_129 rfl ?_
            refine s_iconst (v := 4) F dX9_addWalker_131 (by decide) ?_
            refine s_iload F dX9_addWalker_132 rfl ?_
            obtain ⟨v18, hv18, h⟩ := bd_i h
            refine s_cV (ci := 9) F dX9_addWalker_134 (c_X9_lay hs hv18) lkX9_91 okX9_lay (by decide) (ly134 hs) (lt134 hs) rfl rfl (Nat.le_of_ble_eq_true rfl) (by decide) ?_
            refine s_aload_n F dX9_addWalker_137 rfl ?_
            refine s_getR F dX9_addWalker_138 flX9_7 (ly134 hs) (lt134 hs) rfl (p134_0 hs) ?_
            refine s_iconst (v := 2) F dX9_addWalker_141 (by decide) ?_
            refine s_dup2 F dX9_addWalker_142 ?_
            refine s_ialdK (j := 2) F dX9_addWalker_143 (ly135 hs) (lt135 hs) (vp_lit 2 rfl) (by decide) ?_
            refine s_iconst (v := 1) F dX9_addWalker_144 (by decide) ?_
            refine s_iadd F dX9_addWalker_145 ?_
            have h := bd_s h
            refine s_iastK (j := 2) F dX9_addWalker_146 (ly135 hs) (lt135 hs) (vp_lit 2 rfl) (by decide) ?_
            refine s_aload_n F dX9_addWalker_147 rfl ?_
            refine s_iload F dX9_addWalker_148 rfl ?_
            obtain ⟨v20, hv20, h⟩ := bd_i h
            refine s_cV (ci := 9) F dX9_addWalker_150 (c_X9_done hs hv20) lkX9_69 okX9_done (by decide) (ly134 hs) (lt134 hs) rfl rfl (Nat.le_of_ble_eq_true rfl) (by decide) ?_
            have h := Option.some.inj h
            subst h
            exact s_iret F hr dX9_addWalker_153 rfl (Nat.le_refl _) (Nat.le_refl _) post
          · have h := if_f (not_not_intro c9) h
            refine s_bipush (v := (-3)) F dX9_addWalker_55 (by decide) ?_
            have h := Option.some.inj h
            subst h
            exact s_iret F hr dX9_addWalker_57 rfl (Nat.le_refl _) (Nat.le_refl _) post
        · have h := if_f (not_not_intro c8) h
          refine s_bipush (v := (-2)) F dX9_addWalker_41 (by decide) ?_
          have h := Option.some.inj h
          subst h
          exact s_iret F hr dX9_addWalker_43 rfl (Nat.le_refl _) (Nat.le_refl _) post
  · have h := if_f (not_not_intro c2) h
    refine s_iconst (v := (-1)) F dX9_addWalker_9 (by decide) ?_
    have h := Option.some.inj h
    subst h
    exact s_iret F hr dX9_addWalker_10 rfl (Nat.le_refl _) (Nat.le_refl _) post
set_option maxRecDepth 100000 in
set_option maxHeartbeats 4000000 in
theorem c_X9_addWalker {n : Nat} {Ly : LL} {I : II} {P : PP} {r : Int32 × II} (hs : ShM n Ly P) {x1 : Int32} {x2 : Int32} {x3 : Int32} {x4 : Int32} {x5 : Int32} (h : fX9_addWalker I x1 x2 x3 x4 x5 = some r) (l : Launch) (s0 : Nat) (D : va_G) (DA : Nat → ClassId) : Ct l s0 D DA mX9_addWalker [.inr (some 134), .inl x1, .inl x2, .inl x3, .inl x4, .inl x5] 0 0 n Ly I P (PoD (some (.inl r.1)) n Ly r.2 P) := ct_of (by decide +kernel) (Nat.le_of_ble_eq_true rfl) (fun X F hr _ => bX9_addWalker F hs hr ⟨rfl, rfl, rfl, rfl, rfl⟩ h)
-- ChipPilersModel.setSort
def fX9_setSort (I : II) (x1 : Int32) (x2 : Int32) : Option (Int32 × II) := (fX9_noWalker I x1).bind fun v1 => (if v1 = 0 then (fX9_in x2 0 2).bind fun v3 => (if ¬ v3 = 0 then (fX9_begin I).bind fun v5 => (fX9_of v5 x1 5).bind fun v6 => (fX9_lay v5 x1 5 x2).bind fun v7 => (fX9_done v7 v6).bind fun v8 => some (v8.1, v8.2) else some ((-2), I)) else some ((-1), I))
set_option maxRecDepth 100000 in
set_option maxHeartbeats 4000000 in
theorem bX9_setSort {X : Cx} {n : Nat} {Ly : LL} {I : II} {P : PP} {Po : PQ} {r : Int32 × II} (F : Fx X RX9 cX9_setSort 4 3 0 0) (hs : ShM n Ly P) (hr : Fr X (some .int) Po 0 0) (post : Po (some (.inl r.1)) n Ly r.2 P) {x1 : Int32} {x2 : Int32} (h : fX9_setSort I x1 x2 = some r) : G X 4 0 0 n Ly 0 [some (.inr (some 134)), some (.inl x1), some (.inl x2), none] [] I P := by
  unfold fX9_setSort at h
  refine s_aload_n F dX9_setSort_0 rfl ?_
  refine s_iload_n F dX9_setSort_1 rfl ?_
  obtain ⟨v1, hv1, h⟩ := bd_i h
  refine s_cV (ci := 9) F dX9_setSort_2 (c_X9_noWalker hs hv1) lkX9_95 okX9_noWalker (by decide) (ly134 hs) (lt134 hs) rfl rfl (Nat.le_of_ble_eq_true rfl) (by decide) ?_
  refine s_if_eq (tgt := 10) F dX9_setSort_5 (by decide) (fun c2 => ?_) (fun c2 => ?_)
  · have h := if_t c2 h
    refine s_iload_n F dX9_setSort_10 rfl ?_
    refine s_iconst (v := 0) F dX9_setSort_11 (by decide) ?_
    refine s_iconst (v := 2) F dX9_setSort_12 (by decide) ?_
    obtain ⟨v3, hv3, h⟩ := bd_i h
    refine s_cS F dX9_setSort_13 (c_X9_in hs hv3) lkX9_58 okX9_in rfl (Nat.le_of_ble_eq_true rfl) (by decide) ?_
    refine s_if_ne (tgt := 22) F dX9_setSort_16 (by decide) (fun c4 => ?_) (fun c4 => ?_)
    · have h := if_t c4 h
      refine s_aload_n F dX9_setSort_22 rfl ?_
      obtain ⟨v5, hv5, h⟩ := bd_i h
      refine s_cV (ci := 9) F dX9_setSort_23 (c_X9_begin hs hv5) lkX9_66 okX9_begin (by decide) (ly134 hs) (lt134 hs) rfl rfl (Nat.le_of_ble_eq_true rfl) (by decide) ?_
      refine s_aload_n F dX9_setSort_26 rfl ?_
      refine s_iload_n F dX9_setSort_27 rfl ?_
      refine s_iconst (v := 5) F dX9_setSort_28 (by decide) ?_
      obtain ⟨v6, hv6, h⟩ := bd_i h
      refine s_cV (ci := 9) F dX9_setSort_29 (c_X9_of hs hv6) lkX9_99 okX9_of (by decide) (ly134 hs) (lt134 hs) rfl rfl (Nat.le_of_ble_eq_true rfl) (by decide) ?_
      refine s_istore_n F dX9_setSort_32 (by decide) ?_
      refine s_aload_n F dX9_setSort_33 rfl ?_
      refine s_iload_n F dX9_setSort_34 rfl ?_
      refine s_iconst (v := 5) F dX9_setSort_35 (by decide) ?_
      refine s_iload_n F dX9_setSort_36 rfl ?_
      obtain ⟨v7, hv7, h⟩ := bd_i h
      refine s_cV (ci := 9) F dX9_setSort_37 (c_X9_lay hs hv7) lkX9_91 okX9_lay (by decide) (ly134 hs) (lt134 hs) rfl rfl (Nat.le_of_ble_eq_true rfl) (by decide) ?_
      refine s_aload_n F dX9_setSort_40 rfl ?_
      refine s_iload_n F dX9_setSort_41 rfl ?_
      obtain ⟨v8, hv8, h⟩ := bd_i h
      refine s_cV (ci := 9) F dX9_setSort_42 (c_X9_done hs hv8) lkX9_69 okX9_done (by decide) (ly134 hs) (lt134 hs) rfl rfl (Nat.le_of_ble_eq_true rfl) (by decide) ?_
      have h := Option.some.inj h
      subst h
      exact s_iret F hr dX9_setSort_45 rfl (Nat.le_refl _) (Nat.le_refl _) post
    · have h := if_f (not_not_intro c4) h
      refine s_bipush (v := (-2)) F dX9_setSort_19 (by decide) ?_
      have h := Option.some.inj h
      subst h
      exact s_iret F hr dX9_setSort_21 rfl (Nat.le_refl _) (Nat.le_refl _) post
  · have h := if_f c2 h
    refine s_iconst (v := (-1)) F dX9_setSort_8 (by decide) ?_
    have h := Option.some.inj h
    subst h
    exact s_iret F hr dX9_setSort_9 rfl (Nat.le_refl _) (Nat.le_refl _) post
set_option maxRecDepth 100000 in
set_option maxHeartbeats 4000000 in
theorem c_X9_setSort {n : Nat} {Ly : LL} {I : II} {P : PP} {r : Int32 × II} (hs : ShM n Ly P) {x1 : Int32} {x2 : Int32} (h : fX9_setSort I x1 x2 = some r) (l : Launch) (s0 : Nat) (D : va_G) (DA : Nat → ClassId) : Ct l s0 D DA mX9_setSort [.inr (some 134), .inl x1, .inl x2] 0 0 n Ly I P (PoD (some (.inl r.1)) n Ly r.2 P) := ct_of (by decide +kernel) (Nat.le_of_ble_eq_true rfl) (fun X F hr _ => bX9_setSort F hs hr ⟨rfl, rfl, rfl, rfl, rfl⟩ h)
-- ChipPilersModel.cellOf
def fX9_cellOf (I : II) (x1 : Int32) : Option (Int32) := (fX9_of I x1 0).bind fun v1 => (fX9_of I x1 1).bind fun v2 => some ((16 * v1) + v2)
set_option maxRecDepth 100000 in
set_option maxHeartbeats 4000000 in
theorem bX9_cellOf {X : Cx} {n : Nat} {Ly : LL} {I : II} {P : PP} {Po : PQ} {r : Int32} (F : Fx X RX9 cX9_cellOf 2 2 0 0) (hs : ShM n Ly P) (hr : Fr X (some .int) Po 0 0) (post : Po (some (.inl r)) n Ly I P) {x1 : Int32} (h : fX9_cellOf I x1 = some r) : G X 2 0 0 n Ly 0 [some (.inr (some 134)), some (.inl x1)] [] I P := by
  unfold fX9_cellOf at h
  refine s_bipush (v := 16) F dX9_cellOf_0 (by decide) ?_
  refine s_aload_n F dX9_cellOf_2 rfl ?_
  refine s_iload_n F dX9_cellOf_3 rfl ?_
  refine s_iconst (v := 0) F dX9_cellOf_4 (by decide) ?_
  obtain ⟨v1, hv1, h⟩ := bd_i h
  refine s_cV (ci := 9) F dX9_cellOf_5 (c_X9_of hs hv1) lkX9_99 okX9_of (by decide) (ly134 hs) (lt134 hs) rfl rfl (Nat.le_of_ble_eq_true rfl) (by decide) ?_
  refine s_imul F dX9_cellOf_8 ?_
  refine s_aload_n F dX9_cellOf_9 rfl ?_
  refine s_iload_n F dX9_cellOf_10 rfl ?_
  refine s_iconst (v := 1) F dX9_cellOf_11 (by decide) ?_
  obtain ⟨v2, hv2, h⟩ := bd_i h
  refine s_cV (ci := 9) F dX9_cellOf_12 (c_X9_of hs hv2) lkX9_99 okX9_of (by decide) (ly134 hs) (lt134 hs) rfl rfl (Nat.le_of_ble_eq_true rfl) (by decide) ?_
  refine s_iadd F dX9_cellOf_15 ?_
  have h := Option.some.inj h
  subst h
  exact s_iret F hr dX9_cellOf_16 rfl (Nat.le_refl _) (Nat.le_refl _) post
set_option maxRecDepth 100000 in
set_option maxHeartbeats 4000000 in
theorem c_X9_cellOf {n : Nat} {Ly : LL} {I : II} {P : PP} {r : Int32} (hs : ShM n Ly P) {x1 : Int32} (h : fX9_cellOf I x1 = some r) (l : Launch) (s0 : Nat) (D : va_G) (DA : Nat → ClassId) : Ct l s0 D DA mX9_cellOf [.inr (some 134), .inl x1] 0 0 n Ly I P (PoD (some (.inl r)) n Ly I P) := ct_of (by decide +kernel) (Nat.le_of_ble_eq_true rfl) (fun X F hr _ => bX9_cellOf F hs hr ⟨rfl, rfl, rfl, rfl, rfl⟩ h)
-- ChipPilersModel.pick
def fX9_pick (I : II) (x1 : Int32) (x2 : Int32) : Option (II) := (fX9_cellOf I x1).bind fun v1 => ck (ix (9 + v1) 367) (ck (ix (9 + v1) 367) ((some (up2 I 135 (9 + v1).toNatClampNeg ((I 135 (9 + v1).toNatClampNeg) - x2))).bind fun I4 => (fX9_of I4 x1 3).bind fun v5 => (fX9_lay I4 x1 3 (v5 + x2)).bind fun v6 => (fX9_of v6 x1 7).bind fun v7 => (fX9_lay v6 x1 7 (v7 + x2)).bind fun v8 => some v8))
set_option maxRecDepth 100000 in
set_option maxHeartbeats 4000000 in
theorem bX9_pick {X : Cx} {n : Nat} {Ly : LL} {I : II} {P : PP} {Po : PQ} {r : II} (F : Fx X RX9 cX9_pick 3 3 0 0) (hs : ShM n Ly P) (hr : Fr X none Po 0 0) (post : Po none n Ly r P) {x1 : Int32} {x2 : Int32} (h : fX9_pick I x1 x2 = some r) : G X 3 0 0 n Ly 0 [some (.inr (some 134)), some (.inl x1), some (.inl x2)] [] I P := by
  unfold fX9_pick at h
  refine s_aload_n F dX9_pick_0 rfl ?_
  refine s_getR F dX9_pick_1 flX9_7 (ly134 hs) (lt134 hs) rfl (p134_0 hs) ?_
  refine s_bipush (v := 9) F dX9_pick_4 (by decide) ?_
  refine s_aload_n F dX9_pick_6 rfl ?_
  refine s_iload_n F dX9_pick_7 rfl ?_
  obtain ⟨v1, hv1, h⟩ := bd_i h
  refine s_cV (ci := 9) F dX9_pick_8 (c_X9_cellOf hs hv1) lkX9_102 okX9_cellOf (by decide) (ly134 hs) (lt134 hs) rfl rfl (Nat.le_of_ble_eq_true rfl) (by decide) ?_
  refine s_iadd F dX9_pick_11 ?_
  refine s_dup2 F dX9_pick_12 ?_
  obtain ⟨hc2, h⟩ := ck_s h
  refine s_iald F dX9_pick_13 (ly135 hs) (lt135 hs) (ix_s hc2) ?_
  refine s_iload_n F dX9_pick_14 rfl ?_
  refine s_isub F dX9_pick_15 ?_
  obtain ⟨hc3, h⟩ := ck_s h
  have h := bd_s h
  refine s_iast F dX9_pick_16 (ly135 hs) (lt135 hs) (ix_s hc3) ?_
  refine s_aload_n F dX9_pick_17 rfl ?_
  refine s_iload_n F dX9_pick_18 rfl ?_
  refine s_iconst (v := 3) F dX9_pick_19 (by decide) ?_
  refine s_aload_n F dX9_pick_20 rfl ?_
  refine s_iload_n F dX9_pick_21 rfl ?_
  refine s_iconst (v := 3) F dX9_pick_22 (by decide) ?_
  obtain ⟨v5, hv5, h⟩ := bd_i h
  refine s_cV (ci := 9) F dX9_pick_23 (c_X9_of hs hv5) lkX9_99 okX9_of (by decide) (ly134 hs) (lt134 hs) rfl rfl (Nat.le_of_ble_eq_true rfl) (by decide) ?_
  refine s_iload_n F dX9_pick_26 rfl ?_
  refine s_iadd F dX9_pick_27 ?_
  obtain ⟨v6, hv6, h⟩ := bd_i h
  refine s_cV (ci := 9) F dX9_pick_28 (c_X9_lay hs hv6) lkX9_91 okX9_lay (by decide) (ly134 hs) (lt134 hs) rfl rfl (Nat.le_of_ble_eq_true rfl) (by decide) ?_
  refine s_aload_n F dX9_pick_31 rfl ?_
  refine s_iload_n F dX9_pick_32 rfl ?_
  refine s_bipush (v := 7) F dX9_pick_33 (by decide) ?_
  refine s_aload_n F dX9_pick_35 rfl ?_
  refine s_iload_n F dX9_pick_36 rfl ?_
  refine s_bipush (v := 7) F dX9_pick_37 (by decide) ?_
  obtain ⟨v7, hv7, h⟩ := bd_i h
  refine s_cV (ci := 9) F dX9_pick_39 (c_X9_of hs hv7) lkX9_99 okX9_of (by decide) (ly134 hs) (lt134 hs) rfl rfl (Nat.le_of_ble_eq_true rfl) (by decide) ?_
  refine s_iload_n F dX9_pick_42 rfl ?_
  refine s_iadd F dX9_pick_43 ?_
  obtain ⟨v8, hv8, h⟩ := bd_i h
  refine s_cV (ci := 9) F dX9_pick_44 (c_X9_lay hs hv8) lkX9_91 okX9_lay (by decide) (ly134 hs) (lt134 hs) rfl rfl (Nat.le_of_ble_eq_true rfl) (by decide) ?_
  have h := Option.some.inj h
  subst h
  exact s_vret F hr dX9_pick_47 (Nat.le_refl _) (Nat.le_refl _) post
set_option maxRecDepth 100000 in
set_option maxHeartbeats 4000000 in
theorem c_X9_pick {n : Nat} {Ly : LL} {I : II} {P : PP} {r : II} (hs : ShM n Ly P) {x1 : Int32} {x2 : Int32} (h : fX9_pick I x1 x2 = some r) (l : Launch) (s0 : Nat) (D : va_G) (DA : Nat → ClassId) : Ct l s0 D DA mX9_pick [.inr (some 134), .inl x1, .inl x2] 0 0 n Ly I P (PoD none n Ly r P) := ct_of (by decide +kernel) (Nat.le_of_ble_eq_true rfl) (fun X F hr _ => bX9_pick F hs hr ⟨rfl, rfl, rfl, rfl, rfl⟩ h)
-- ChipPilersModel.drop
def fX9_drop (I : II) (x1 : Int32) (x2 : Int32) : Option (II) := (fX9_cellOf I x1).bind fun v1 => ck (ix (9 + v1) 367) (ck (ix (9 + v1) 367) ((some (up2 I 135 (9 + v1).toNatClampNeg ((I 135 (9 + v1).toNatClampNeg) + x2))).bind fun I4 => (fX9_of I4 x1 3).bind fun v5 => (fX9_lay I4 x1 3 (v5 - x2)).bind fun v6 => (fX9_of v6 x1 8).bind fun v7 => (fX9_lay v6 x1 8 (v7 + x2)).bind fun v8 => some v8))
set_option maxRecDepth 100000 in
set_option maxHeartbeats 4000000 in
theorem bX9_drop {X : Cx} {n : Nat} {Ly : LL} {I : II} {P : PP} {Po : PQ} {r : II} (F : Fx X RX9 cX9_drop 3 3 0 0) (hs : ShM n Ly P) (hr : Fr X none Po 0 0) (post : Po none n Ly r P) {x1 : Int32} {x2 : Int32} (h : fX9_drop I x1 x2 = some r) : G X 3 0 0 n Ly 0 [some (.inr (some 134)), some (.inl x1), some (.inl x2)] [] I P := by
  unfold fX9_drop at h
  refine s_aload_n F dX9_drop_0 rfl ?_
  refine s_getR F dX9_drop_1 flX9_7 (ly134 hs) (lt134 hs) rfl (p134_0 hs) ?_
  refine s_bipush (v := 9) F dX9_drop_4 (by decide) ?_
  refine s_aload_n F dX9_drop_6 rfl ?_
  refine s_iload_n F dX9_drop_7 rfl ?_
  obtain ⟨v1, hv1, h⟩ := bd_i h
  refine s_cV (ci := 9) F dX9_drop_8 (c_X9_cellOf hs hv1) lkX9_102 okX9_cellOf (by decide) (ly134 hs) (lt134 hs) rfl rfl (Nat.le_of_ble_eq_true rfl) (by decide) ?_
  refine s_iadd F dX9_drop_11 ?_
  refine s_dup2 F dX9_drop_12 ?_
  obtain ⟨hc2, h⟩ := ck_s h
  refine s_iald F dX9_drop_13 (ly135 hs) (lt135 hs) (ix_s hc2) ?_
  refine s_iload_n F dX9_drop_14 rfl ?_
  refine s_iadd F dX9_drop_15 ?_
  obtain ⟨hc3, h⟩ := ck_s h
  have h := bd_s h
  refine s_iast F dX9_drop_16 (ly135 hs) (lt135 hs) (ix_s hc3) ?_
  refine s_aload_n F dX9_drop_17 rfl ?_
  refine s_iload_n F dX9_drop_18 rfl ?_
  refine s_iconst (v := 3) F dX9_drop_19 (by decide) ?_
  refine s_aload_n F dX9_drop_20 rfl ?_
  refine s_iload_n F dX9_drop_21 rfl ?_
  refine s_iconst (v := 3) F dX9_drop_22 (by decide) ?_
  obtain ⟨v5, hv5, h⟩ := bd_i h
  refine s_cV (ci := 9) F dX9_drop_23 (c_X9_of hs hv5) lkX9_99 okX9_of (by decide) (ly134 hs) (lt134 hs) rfl rfl (Nat.le_of_ble_eq_true rfl) (by decide) ?_
  refine s_iload_n F dX9_drop_26 rfl ?_
  refine s_isub F dX9_drop_27 ?_
  obtain ⟨v6, hv6, h⟩ := bd_i h
  refine s_cV (ci := 9) F dX9_drop_28 (c_X9_lay hs hv6) lkX9_91 okX9_lay (by decide) (ly134 hs) (lt134 hs) rfl rfl (Nat.le_of_ble_eq_true rfl) (by decide) ?_
  refine s_aload_n F dX9_drop_31 rfl ?_
  refine s_iload_n F dX9_drop_32 rfl ?_
  refine s_bipush (v := 8) F dX9_drop_33 (by decide) ?_
  refine s_aload_n F dX9_drop_35 rfl ?_
  refine s_iload_n F dX9_drop_36 rfl ?_
  refine s_bipush (v := 8) F dX9_drop_37 (by decide) ?_
  obtain ⟨v7, hv7, h⟩ := bd_i h
  refine s_cV (ci := 9) F dX9_drop_39 (c_X9_of hs hv7) lkX9_99 okX9_of (by decide) (ly134 hs) (lt134 hs) rfl rfl (Nat.le_of_ble_eq_true rfl) (by decide) ?_
  refine s_iload_n F dX9_drop_42 rfl ?_
  refine s_iadd F dX9_drop_43 ?_
  obtain ⟨v8, hv8, h⟩ := bd_i h
  refine s_cV (ci := 9) F dX9_drop_44 (c_X9_lay hs hv8) lkX9_91 okX9_lay (by decide) (ly134 hs) (lt134 hs) rfl rfl (Nat.le_of_ble_eq_true rfl) (by decide) ?_
  have h := Option.some.inj h
  subst h
  exact s_vret F hr dX9_drop_47 (Nat.le_refl _) (Nat.le_refl _) post
set_option maxRecDepth 100000 in
set_option maxHeartbeats 4000000 in
theorem c_X9_drop {n : Nat} {Ly : LL} {I : II} {P : PP} {r : II} (hs : ShM n Ly P) {x1 : Int32} {x2 : Int32} (h : fX9_drop I x1 x2 = some r) (l : Launch) (s0 : Nat) (D : va_G) (DA : Nat → ClassId) : Ct l s0 D DA mX9_drop [.inr (some 134), .inl x1, .inl x2] 0 0 n Ly I P (PoD none n Ly r P) := ct_of (by decide +kernel) (Nat.le_of_ble_eq_true rfl) (fun X F hr _ => bX9_drop F hs hr ⟨rfl, rfl, rfl, rfl, rfl⟩ h)
-- ChipPilersModel.empty
def fX9_empty (I : II) (x1 : Int32) : Option (Int32 × II) := (fX9_noWalker I x1).bind fun v1 => (if v1 = 0 then (fX9_cellOf I x1).bind fun v3 => ck (ix (9 + v3) 367) ((fX9_of I x1 3).bind fun v5 => (if ((I 135 (9 + v3).toNatClampNeg) + v5) ≤ 99 then (fX9_of I x1 3).bind fun v7 => (if ¬ v7 = 0 then (fX9_begin I).bind fun v9 => (fX9_of v9 x1 3).bind fun v10 => (fX9_drop v9 x1 v10).bind fun v11 => (fX9_cellOf v11 x1).bind fun v12 => ck (ix (9 + v12) 367) ((fX9_done v11 (v11 135 (9 + v12).toNatClampNeg)).bind fun v14 => some (v14.1, v14.2)) else some ((-5), I)) else some ((-4), I))) else some ((-1), I))
set_option maxRecDepth 100000 in
set_option maxHeartbeats 4000000 in
theorem bX9_empty {X : Cx} {n : Nat} {Ly : LL} {I : II} {P : PP} {Po : PQ} {r : Int32 × II} (F : Fx X RX9 cX9_empty 2 4 0 0) (hs : ShM n Ly P) (hr : Fr X (some .int) Po 0 0) (post : Po (some (.inl r.1)) n Ly r.2 P) {x1 : Int32} (h : fX9_empty I x1 = some r) : G X 2 0 0 n Ly 0 [some (.inr (some 134)), some (.inl x1)] [] I P := by
  unfold fX9_empty at h
  refine s_aload_n F dX9_empty_0 rfl ?_
  refine s_iload_n F dX9_empty_1 rfl ?_
  obtain ⟨v1, hv1, h⟩ := bd_i h
  refine s_cV (ci := 9) F dX9_empty_2 (c_X9_noWalker hs hv1) lkX9_95 okX9_noWalker (by decide) (ly134 hs) (lt134 hs) rfl rfl (Nat.le_of_ble_eq_true rfl) (by decide) ?_
  refine s_if_eq (tgt := 10) F dX9_empty_5 (by decide) (fun c2 => ?_) (fun c2 => ?_)
  · have h := if_t c2 h
    refine s_aload_n F dX9_empty_10 rfl ?_
    refine s_getR F dX9_empty_11 flX9_7 (ly134 hs) (lt134 hs) rfl (p134_0 hs) ?_
    refine s_bipush (v := 9) F dX9_empty_14 (by decide) ?_
    refine s_aload_n F dX9_empty_16 rfl ?_
    refine s_iload_n F dX9_empty_17 rfl ?_
    obtain ⟨v3, hv3, h⟩ := bd_i h
    refine s_cV (ci := 9) F dX9_empty_18 (c_X9_cellOf hs hv3) lkX9_102 okX9_cellOf (by decide) (ly134 hs) (lt134 hs) rfl rfl (Nat.le_of_ble_eq_true rfl) (by decide) ?_
    refine s_iadd F dX9_empty_21 ?_
    obtain ⟨hc4, h⟩ := ck_s h
    refine s_iald F dX9_empty_22 (ly135 hs) (lt135 hs) (ix_s hc4) ?_
    refine s_aload_n F dX9_empty_23 rfl ?_
    refine s_iload_n F dX9_empty_24 rfl ?_
    refine s_iconst (v := 3) F dX9_empty_25 (by decide) ?_
    obtain ⟨v5, hv5, h⟩ := bd_i h
    refine s_cV (ci := 9) F dX9_empty_26 (c_X9_of hs hv5) lkX9_99 okX9_of (by decide) (ly134 hs) (lt134 hs) rfl rfl (Nat.le_of_ble_eq_true rfl) (by decide) ?_
    refine s_iadd F dX9_empty_29 ?_
    refine s_bipush (v := 99) F dX9_empty_30 (by decide) ?_
    refine s_icmp_le (tgt := 38) F dX9_empty_32 (by decide) (fun c6 => ?_) (fun c6 => ?_)
    · have h := if_t c6 h
      refine s_aload_n F dX9_empty_38 rfl ?_
      refine s_iload_n F dX9_empty_39 rfl ?_
      refine s_iconst (v := 3) F dX9_empty_40 (by decide) ?_
      obtain ⟨v7, hv7, h⟩ := bd_i h
      refine s_cV (ci := 9) F dX9_empty_41 (c_X9_of hs hv7) lkX9_99 okX9_of (by decide) (ly134 hs) (lt134 hs) rfl rfl (Nat.le_of_ble_eq_true rfl) (by decide) ?_
      refine s_if_ne (tgt := 50) F dX9_empty_44 (by decide) (fun c8 => ?_) (fun c8 => ?_)
      · have h := if_t c8 h
        refine s_aload_n F dX9_empty_50 rfl ?_
        obtain ⟨v9, hv9, h⟩ := bd_i h
        refine s_cV (ci := 9) F dX9_empty_51 (c_X9_begin hs hv9) lkX9_66 okX9_begin (by decide) (ly134 hs) (lt134 hs) rfl rfl (Nat.le_of_ble_eq_true rfl) (by decide) ?_
        refine s_aload_n F dX9_empty_54 rfl ?_
        refine s_iload_n F dX9_empty_55 rfl ?_
        refine s_aload_n F dX9_empty_56 rfl ?_
        refine s_iload_n F dX9_empty_57 rfl ?_
        refine s_iconst (v := 3) F dX9_empty_58 (by decide) ?_
        obtain ⟨v10, hv10, h⟩ := bd_i h
        refine s_cV (ci := 9) F dX9_empty_59 (c_X9_of hs hv10) lkX9_99 okX9_of (by decide) (ly134 hs) (lt134 hs) rfl rfl (Nat.le_of_ble_eq_true rfl) (by decide) ?_
        obtain ⟨v11, hv11, h⟩ := bd_i h
        refine s_cV (ci := 9) F dX9_empty_62 (c_X9_drop hs hv11) lkX9_105 okX9_drop (by decide) (ly134 hs) (lt134 hs) rfl rfl (Nat.le_of_ble_eq_true rfl) (by decide) ?_
        refine s_aload_n F dX9_empty_65 rfl ?_
        refine s_aload_n F dX9_empty_66 rfl ?_
        refine s_getR F dX9_empty_67 flX9_7 (ly134 hs) (lt134 hs) rfl (p134_0 hs) ?_
        refine s_bipush (v := 9) F dX9_empty_70 (by decide) ?_
        refine s_aload_n F dX9_empty_72 rfl ?_
        refine s_iload_n F dX9_empty_73 rfl ?_
        obtain ⟨v12, hv12, h⟩ := bd_i h
        refine s_cV (ci := 9) F dX9_empty_74 (c_X9_cellOf hs hv12) lkX9_102 okX9_cellOf (by decide) (ly134 hs) (lt134 hs) rfl rfl (Nat.le_of_ble_eq_true rfl) (by decide) ?_
        refine s_iadd F dX9_empty_77 ?_
        obtain ⟨hc13, h⟩ := ck_s h
        refine s_iald F dX9_empty_78 (ly135 hs) (lt135 hs) (ix_s hc13) ?_
        obtain ⟨v14, hv14, h⟩ := bd_i h
        refine s_cV (ci := 9) F dX9_empty_79 (c_X9_done hs hv14) lkX9_69 okX9_done (by decide) (ly134 hs) (lt134 hs) rfl rfl (Nat.le_of_ble_eq_true rfl) (by decide) ?_
        have h := Option.some.inj h
        subst h
        exact s_iret F hr dX9_empty_82 rfl (Nat.le_refl _) (Nat.le_refl _) post
      · have h := if_f (not_not_intro c8) h
        refine s_bipush (v := (-5)) F dX9_empty_47 (by decide) ?_
        have h := Option.some.inj h
        subst h
        exact s_iret F hr dX9_empty_49 rfl (Nat.le_refl _) (Nat.le_refl _) post
    · have h := if_f c6 h
      refine s_bipush (v := (-4)) F dX9_empty_35 (by decide) ?_
      have h := Option.some.inj h
      subst h
      exact s_iret F hr dX9_empty_37 rfl (Nat.le_refl _) (Nat.le_refl _) post
  · have h := if_f c2 h
    refine s_iconst (v := (-1)) F dX9_empty_8 (by decide) ?_
    have h := Option.some.inj h
    subst h
    exact s_iret F hr dX9_empty_9 rfl (Nat.le_refl _) (Nat.le_refl _) post
set_option maxRecDepth 100000 in
set_option maxHeartbeats 4000000 in
theorem c_X9_empty {n : Nat} {Ly : LL} {I : II} {P : PP} {r : Int32 × II} (hs : ShM n Ly P) {x1 : Int32} (h : fX9_empty I x1 = some r) (l : Launch) (s0 : Nat) (D : va_G) (DA : Nat → ClassId) : Ct l s0 D DA mX9_empty [.inr (some 134), .inl x1] 0 0 n Ly I P (PoD (some (.inl r.1)) n Ly r.2 P) := ct_of (by decide +kernel) (Nat.le_of_ble_eq_true rfl) (fun X F hr _ => bX9_empty F hs hr ⟨rfl, rfl, rfl, rfl, rfl⟩ h)
-- ChipPilersModel.addTurn
def fX9_addTurn_J51 (I : II) (x1 : Int32) (s0 : Int32) : Option (Int32 × II) := ck (ix (337 + s0) 367) ((some (up2 I 135 (337 + s0).toNatClampNeg x1)).bind fun I7 => (some (up2 I7 135 3 (s0 + 1))).bind fun I8 => (some (up2 I8 135 5 0)).bind fun I9 => (some (up2 I9 135 4 0)).bind fun I10 => (fX9_done I10 (s0 + 1)).bind fun v11 => some (v11.1, v11.2))
def fX9_addTurn (I : II) (x1 : Int32) : Option (Int32 × II) := (fX9_in x1 0 9).bind fun v1 => (if ¬ v1 = 0 then (if ¬ (I 135 3) = 30 then (fX9_begin I).bind fun v4 => (if ¬ (v4 135 5) = 1 then fX9_addTurn_J51 v4 x1 (v4 135 3) else fX9_addTurn_J51 v4 x1 0) else some ((-3), I)) else some ((-2), I))
set_option maxRecDepth 100000 in
set_option maxHeartbeats 4000000 in
theorem lX9_addTurn_J51 {X : Cx} {n : Nat} {Ly : LL} {I : II} {P : PP} {Po : PQ} {r : Int32 × II} (F : Fx X RX9 cX9_addTurn 3 2 0 0) (hs : ShM n Ly P) (hr : Fr X (some .int) Po 0 0) (post : Po (some (.inl r.1)) n Ly r.2 P) {x1 : Int32} {s0 : Int32} (h : fX9_addTurn_J51 I x1 s0 = some r) : G X 3 0 0 n Ly 51 [some (.inr (some 134)), some (.inl x1), none] [.inl s0] I P := by
  unfold fX9_addTurn_J51 at h
  refine s_istore_n F dX9_addTurn_51 (by decide) ?_
  refine s_aload_n F dX9_addTurn_52 rfl ?_
  refine s_getR F dX9_addTurn_53 flX9_7 (ly134 hs) (lt134 hs) rfl (p134_0 hs) ?_
  refine s_sipush (v := 337) F dX9_addTurn_56 (by decide) ?_
  refine s_iload_n F dX9_addTurn_59 rfl ?_
  refine s_iadd F dX9_addTurn_60 ?_
  refine s_iload_n F dX9_addTurn_61 rfl ?_
  obtain ⟨hc6, h⟩ := ck_s h
  have h := bd_s h
  refine s_iast F dX9_addTurn_62 (ly135 hs) (lt135 hs) (ix_s hc6) ?_
  refine s_aload_n F dX9_addTurn_63 rfl ?_
  refine s_getR F dX9_addTurn_64 flX9_7 (ly134 hs) (lt134 hs) rfl (p134_0 hs) ?_
  refine s_iconst (v := 3) F dX9_addTurn_67 (by decide) ?_
  refine s_iload_n F dX9_addTurn_68 rfl ?_
  refine s_iconst (v := 1) F dX9_addTurn_69 (by decide) ?_
  refine s_iadd F dX9_addTurn_70 ?_
  have h := bd_s h
  refine s_iastK (j := 3) F dX9_addTurn_71 (ly135 hs) (lt135 hs) (vp_lit 3 rfl) (by decide) ?_
  refine s_aload_n F dX9_addTurn_72 rfl ?_
  refine s_getR F dX9_addTurn_73 flX9_7 (ly134 hs) (lt134 hs) rfl (p134_0 hs) ?_
  refine s_iconst (v := 5) F dX9_addTurn_76 (by decide) ?_
  refine s_iconst (v := 0) F dX9_addTurn_77 (by decide) ?_
  have h := bd_s h
  refine s_iastK (j := 5) F dX9_addTurn_78 (ly135 hs) (lt135 hs) (vp_lit 5 rfl) (by decide) ?_
  refine s_aload_n F dX9_addTurn_79 rfl ?_
  refine s_getR F dX9_addTurn_80 flX9_7 (ly134 hs) (lt134 hs) rfl (p134_0 hs) ?_
  refine s_iconst (v := 4) F dX9_addTurn_83 (by decide) ?_
  refine s_iconst (v := 0) F dX9_addTurn_84 (by decide) ?_
  have h := bd_s h
  refine s_iastK (j := 4) F dX9_addTurn_85 (ly135 hs) (lt135 hs) (vp_lit 4 rfl) (by decide) ?_
  refine s_aload_n F dX9_addTurn_86 rfl ?_
  refine s_iload_n F dX9_addTurn_87 rfl ?_
  refine s_iconst (v := 1) F dX9_addTurn_88 (by decide) ?_
  refine s_iadd F dX9_addTurn_89 ?_
  obtain ⟨v11, hv11, h⟩ := bd_i h
  refine s_cV (ci := 9) F dX9_addTurn_90 (c_X9_done hs hv11) lkX9_69 okX9_done (by decide) (ly134 hs) (lt134 hs) rfl rfl (Nat.le_of_ble_eq_true rfl) (by decide) ?_
  have h := Option.some.inj h
  subst h
  exact s_iret F hr dX9_addTurn_93 rfl (Nat.le_refl _) (Nat.le_refl _) post
set_option maxRecDepth 100000 in
set_option maxHeartbeats 4000000 in
theorem bX9_addTurn {X : Cx} {n : Nat} {Ly : LL} {I : II} {P : PP} {Po : PQ} {r : Int32 × II} (F : Fx X RX9 cX9_addTurn 3 2 0 0) (hs : ShM n Ly P) (hr : Fr X (some .int) Po 0 0) (post : Po (some (.inl r.1)) n Ly r.2 P) {x1 : Int32} (h : fX9_addTurn I x1 = some r) : G X 3 0 0 n Ly 0 [some (.inr (some 134)), some (.inl x1), none] [] I P := by
  unfold fX9_addTurn at h
  refine s_iload_n F dX9_addTurn_0 rfl ?_
  refine s_iconst (v := 0) F dX9_addTurn_1 (by decide) ?_
  refine s_bipush (v := 9) F dX9_addTurn_2 (by decide) ?_
  obtain ⟨v1, hv1, h⟩ := bd_i h
  refine s_cS F dX9_addTurn_4 (c_X9_in hs hv1) lkX9_58 okX9_in rfl (Nat.le_of_ble_eq_true rfl) (by decide) ?_
  refine s_if_ne (tgt := 13) F dX9_addTurn_7 (by decide) (fun c2 => ?_) (fun c2 => ?_)
  · have h := if_t c2 h
    refine s_aload_n F dX9_addTurn_13 rfl ?_
    refine s_getR F dX9_addTurn_14 flX9_7 (ly134 hs) (lt134 hs) rfl (p134_0 hs) ?_
    refine s_iconst (v := 3) F dX9_addTurn_17 (by decide) ?_
    refine s_ialdK (j := 3) F dX9_addTurn_18 (ly135 hs) (lt135 hs) (vp_lit 3 rfl) (by decide) ?_
    refine s_bipush (v := 30) F dX9_addTurn_19 (by decide) ?_
    refine s_icmp_ne (tgt := 27) F dX9_addTurn_21 (by decide) (fun c3 => ?_) (fun c3 => ?_)
    · have h := if_t c3 h
      refine s_aload_n F dX9_addTurn_27 rfl ?_
      obtain ⟨v4, hv4, h⟩ := bd_i h
      refine s_cV (ci := 9) F dX9_addTurn_28 (c_X9_begin hs hv4) lkX9_66 okX9_begin (by decide) (ly134 hs) (lt134 hs) rfl rfl (Nat.le_of_ble_eq_true rfl) (by decide) ?_
      refine s_aload_n F dX9_addTurn_31 rfl ?_
      refine s_getR F dX9_addTurn_32 flX9_7 (ly134 hs) (lt134 hs) rfl (p134_0 hs) ?_
      refine s_iconst (v := 5) F dX9_addTurn_35 (by decide) ?_
      refine s_ialdK (j := 5) F dX9_addTurn_36 (ly135 hs) (lt135 hs) (vp_lit 5 rfl) (by decide) ?_
      refine s_iconst (v := 1) F dX9_addTurn_37 (by decide) ?_
      refine s_icmp_ne (tgt := 45) F dX9_addTurn_38 (by decide) (fun c5 => ?_) (fun c5 => ?_)
      · have h := if_t c5 h
        refine s_aload_n F dX9_addTurn_45 rfl ?_
        refine s_getR F dX9_addTurn_46 flX9_7 (ly134 hs) (lt134 hs) rfl (p134_0 hs) ?_
        refine s_iconst (v := 3) F dX9_addTurn_49 (by decide) ?_
        refine s_ialdK (j := 3) F dX9_addTurn_50 (ly135 hs) (lt135 hs) (vp_lit 3 rfl) (by decide) ?_
        exact G.weak (by exact ⟨rfl, ⟨rfl, trivial⟩⟩) (lX9_addTurn_J51 F hs hr post h)
      · have h := if_f (not_not_intro c5) h
        refine s_iconst (v := 0) F dX9_addTurn_41 (by decide) ?_
        refine s_goto (tgt := 51) F dX9_addTurn_42 (by decide) ?_
        exact G.weak (by exact ⟨rfl, ⟨rfl, trivial⟩⟩) (lX9_addTurn_J51 F hs hr post h)
    · have h := if_f (not_not_intro c3) h
      refine s_bipush (v := (-3)) F dX9_addTurn_24 (by decide) ?_
      have h := Option.some.inj h
      subst h
      exact s_iret F hr dX9_addTurn_26 rfl (Nat.le_refl _) (Nat.le_refl _) post
  · have h := if_f (not_not_intro c2) h
    refine s_bipush (v := (-2)) F dX9_addTurn_10 (by decide) ?_
    have h := Option.some.inj h
    subst h
    exact s_iret F hr dX9_addTurn_12 rfl (Nat.le_refl _) (Nat.le_refl _) post
set_option maxRecDepth 100000 in
set_option maxHeartbeats 4000000 in
theorem c_X9_addTurn {n : Nat} {Ly : LL} {I : II} {P : PP} {r : Int32 × II} (hs : ShM n Ly P) {x1 : Int32} (h : fX9_addTurn I x1 = some r) (l : Launch) (s0 : Nat) (D : va_G) (DA : Nat → ClassId) : Ct l s0 D DA mX9_addTurn [.inr (some 134), .inl x1] 0 0 n Ly I P (PoD (some (.inl r.1)) n Ly r.2 P) := ct_of (by decide +kernel) (Nat.le_of_ble_eq_true rfl) (fun X F hr _ => bX9_addTurn F hs hr ⟨rfl, rfl, rfl, rfl, rfl⟩ h)
-- ChipPilersModel.clearTurns
def fX9_clearTurns (I : II) : Option (Int32 × II) := (fX9_begin I).bind fun v1 => (some (up2 v1 135 337 0)).bind fun I2 => (some (up2 I2 135 3 1)).bind fun I3 => (some (up2 I3 135 5 1)).bind fun I4 => (some (up2 I4 135 4 0)).bind fun I5 => (fX9_done I5 (v1 135 3)).bind fun v6 => some (v6.1, v6.2)
set_option maxRecDepth 100000 in
set_option maxHeartbeats 4000000 in
theorem bX9_clearTurns {X : Cx} {n : Nat} {Ly : LL} {I : II} {P : PP} {Po : PQ} {r : Int32 × II} (F : Fx X RX9 cX9_clearTurns 2 2 0 0) (hs : ShM n Ly P) (hr : Fr X (some .int) Po 0 0) (post : Po (some (.inl r.1)) n Ly r.2 P)  (h : fX9_clearTurns I = some r) : G X 2 0 0 n Ly 0 [some (.inr (some 134)), none] [] I P := by
  unfold fX9_clearTurns at h
  refine s_aload_n F dX9_clearTurns_0 rfl ?_
  obtain ⟨v1, hv1, h⟩ := bd_i h
  refine s_cV (ci := 9) F dX9_clearTurns_1 (c_X9_begin hs hv1) lkX9_66 okX9_begin (by decide) (ly134 hs) (lt134 hs) rfl rfl (Nat.le_of_ble_eq_true rfl) (by decide) ?_
  refine s_aload_n F dX9_clearTurns_4 rfl ?_
  refine s_getR F dX9_clearTurns_5 flX9_7 (ly134 hs) (lt134 hs) rfl (p134_0 hs) ?_
  refine s_iconst (v := 3) F dX9_clearTurns_8 (by decide) ?_
  refine s_ialdK (j := 3) F dX9_clearTurns_9 (ly135 hs) (lt135 hs) (vp_lit 3 rfl) (by decide) ?_
  refine s_istore_n F dX9_clearTurns_10 (by decide) ?_
  refine s_aload_n F dX9_clearTurns_11 rfl ?_
  refine s_getR F dX9_clearTurns_12 flX9_7 (ly134 hs) (lt134 hs) rfl (p134_0 hs) ?_
  refine s_sipush (v := 337) F dX9_clearTurns_15 (by decide) ?_
  refine s_iconst (v := 0) F dX9_clearTurns_18 (by decide) ?_
  have h := bd_s h
  refine s_iastK (j := 337) F dX9_clearTurns_19 (ly135 hs) (lt135 hs) (vp_lit 337 rfl) (by decide) ?_
  refine s_aload_n F dX9_clearTurns_20 rfl ?_
  refine s_getR F dX9_clearTurns_21 flX9_7 (ly134 hs) (lt134 hs) rfl (p134_0 hs) ?_
  refine s_iconst (v := 3) F dX9_clearTurns_24 (by decide) ?_
  refine s_iconst (v := 1) F dX9_clearTurns_25 (by decide) ?_
  have h := bd_s h
  refine s_iastK (j := 3) F dX9_clearTurns_26 (ly135 hs) (lt135 hs) (vp_lit 3 rfl) (by decide) ?_
  refine s_aload_n F dX9_clearTurns_27 rfl ?_
  refine s_getR F dX9_clearTurns_28 flX9_7 (ly134 hs) (lt134 hs) rfl (p134_0 hs) ?_
  refine s_iconst (v := 5) F dX9_clearTurns_31 (by decide) ?_
  refine s_iconst (v := 1) F dX9_clearTurns_32 (by decide) ?_
  have h := bd_s h
  refine s_iastK (j := 5) F dX9_clearTurns_33 (ly135 hs) (lt135 hs) (vp_lit 5 rfl) (by decide) ?_
  refine s_aload_n F dX9_clearTurns_34 rfl ?_
  refine s_getR F dX9_clearTurns_35 flX9_7 (ly134 hs) (lt134 hs) rfl (p134_0 hs) ?_
  refine s_iconst (v := 4) F dX9_clearTurns_38 (by decide) ?_
  refine s_iconst (v := 0) F dX9_clearTurns_39 (by decide) ?_
  have h := bd_s h
  refine s_iastK (j := 4) F dX9_clearTurns_40 (ly135 hs) (lt135 hs) (vp_lit 4 rfl) (by decide) ?_
  refine s_aload_n F dX9_clearTurns_41 rfl ?_
  refine s_iload_n F dX9_clearTurns_42 rfl ?_
  obtain ⟨v6, hv6, h⟩ := bd_i h
  refine s_cV (ci := 9) F dX9_clearTurns_43 (c_X9_done hs hv6) lkX9_69 okX9_done (by decide) (ly134 hs) (lt134 hs) rfl rfl (Nat.le_of_ble_eq_true rfl) (by decide) ?_
  have h := Option.some.inj h
  subst h
  exact s_iret F hr dX9_clearTurns_46 rfl (Nat.le_refl _) (Nat.le_refl _) post
set_option maxRecDepth 100000 in
set_option maxHeartbeats 4000000 in
theorem c_X9_clearTurns {n : Nat} {Ly : LL} {I : II} {P : PP} {r : Int32 × II} (hs : ShM n Ly P)  (h : fX9_clearTurns I = some r) (l : Launch) (s0 : Nat) (D : va_G) (DA : Nat → ClassId) : Ct l s0 D DA mX9_clearTurns [.inr (some 134)] 0 0 n Ly I P (PoD (some (.inl r.1)) n Ly r.2 P) := ct_of (by decide +kernel) (Nat.le_of_ble_eq_true rfl) (fun X F hr _ => bX9_clearTurns F hs hr ⟨rfl, rfl, rfl, rfl, rfl⟩ h)
-- ChipPilersModel.nextTurn
def fX9_nextTurn (I : II) : Option (Int32 × II) := ck (ix (337 + (I 135 4)) 367) (ck (nz (I 135 3)) ((some (up2 I 135 4 (rm ((I 135 4) + 1) (I 135 3)))).bind fun I3 => (if 5 ≤ (I 135 (337 + (I 135 4)).toNatClampNeg) then (if 7 ≤ (I 135 (337 + (I 135 4)).toNatClampNeg) then (if 9 ≤ (I 135 (337 + (I 135 4)).toNatClampNeg) then some (2, I3) else some (3, I3)) else some (1, I3)) else some (0, I3))))
set_option maxRecDepth 100000 in
set_option maxHeartbeats 4000000 in
theorem bX9_nextTurn {X : Cx} {n : Nat} {Ly : LL} {I : II} {P : PP} {Po : PQ} {r : Int32 × II} (F : Fx X RX9 cX9_nextTurn 2 1 0 0) (hs : ShM n Ly P) (hr : Fr X (some .int) Po 0 0) (post : Po (some (.inl r.1)) n Ly r.2 P)  (h : fX9_nextTurn I = some r) : G X 2 0 0 n Ly 0 [some (.inr (some 134)), none] [] I P := by
  unfold fX9_nextTurn at h
  refine s_aload_n F dX9_nextTurn_0 rfl ?_
  refine s_getR F dX9_nextTurn_1 flX9_7 (ly134 hs) (lt134 hs) rfl (p134_0 hs) ?_
  refine s_sipush (v := 337) F dX9_nextTurn_4 (by decide) ?_
  refine s_aload_n F dX9_nextTurn_7 rfl ?_
  refine s_getR F dX9_nextTurn_8 flX9_7 (ly134 hs) (lt134 hs) rfl (p134_0 hs) ?_
  refine s_iconst (v := 4) F dX9_nextTurn_11 (by decide) ?_
  refine s_ialdK (j := 4) F dX9_nextTurn_12 (ly135 hs) (lt135 hs) (vp_lit 4 rfl) (by decide) ?_
  refine s_iadd F dX9_nextTurn_13 ?_
  obtain ⟨hc1, h⟩ := ck_s h
  refine s_iald F dX9_nextTurn_14 (ly135 hs) (lt135 hs) (ix_s hc1) ?_
  refine s_istore_n F dX9_nextTurn_15 (by decide) ?_
  refine s_aload_n F dX9_nextTurn_16 rfl ?_
  refine s_getR F dX9_nextTurn_17 flX9_7 (ly134 hs) (lt134 hs) rfl (p134_0 hs) ?_
  refine s_iconst (v := 4) F dX9_nextTurn_20 (by decide) ?_
  refine s_aload_n F dX9_nextTurn_21 rfl ?_
  refine s_getR F dX9_nextTurn_22 flX9_7 (ly134 hs) (lt134 hs) rfl (p134_0 hs) ?_
  refine s_iconst (v := 4) F dX9_nextTurn_25 (by decide) ?_
  refine s_ialdK (j := 4) F dX9_nextTurn_26 (ly135 hs) (lt135 hs) (vp_lit 4 rfl) (by decide) ?_
  refine s_iconst (v := 1) F dX9_nextTurn_27 (by decide) ?_
  refine s_iadd F dX9_nextTurn_28 ?_
  refine s_aload_n F dX9_nextTurn_29 rfl ?_
  refine s_getR F dX9_nextTurn_30 flX9_7 (ly134 hs) (lt134 hs) rfl (p134_0 hs) ?_
  refine s_iconst (v := 3) F dX9_nextTurn_33 (by decide) ?_
  refine s_ialdK (j := 3) F dX9_nextTurn_34 (ly135 hs) (lt135 hs) (vp_lit 3 rfl) (by decide) ?_
  obtain ⟨hy2, h⟩ := ck_s h
  refine s_rem F dX9_nextTurn_35 (nz_s hy2) ?_
  have h := bd_s h
  refine s_iastK (j := 4) F dX9_nextTurn_36 (ly135 hs) (lt135 hs) (vp_lit 4 rfl) (by decide) ?_
  refine s_iload_n F dX9_nextTurn_37 rfl ?_
  refine s_iconst (v := 5) F dX9_nextTurn_38 (by decide) ?_
  refine s_icmp_ge (tgt := 46) F dX9_nextTurn_39 (by decide) (fun c4 => ?_) (fun c4 => ?_)
  · have h := if_t c4 h
    refine s_iload_n F dX9_nextTurn_46 rfl ?_
    refine s_bipush (v := 7) F dX9_nextTurn_47 (by decide) ?_
    refine s_icmp_ge (tgt := 56) F dX9_nextTurn_49 (by decide) (fun c5 => ?_) (fun c5 => ?_)
    · have h := if_t c5 h
      refine s_iload_n F dX9_nextTurn_56 rfl ?_
      refine s_bipush (v := 9) F dX9_nextTurn_57 (by decide) ?_
      refine s_icmp_ge (tgt := 66) F dX9_nextTurn_59 (by decide) (fun c6 => ?_) (fun c6 => ?_)
      · have h := if_t c6 h
        refine s_iconst (v := 2) F dX9_nextTurn_66 (by decide) ?_
        have h := Option.some.inj h
        subst h
        exact s_iret F hr dX9_nextTurn_67 rfl (Nat.le_refl _) (Nat.le_refl _) post
      · have h := if_f c6 h
        refine s_iconst (v := 3) F dX9_nextTurn_62 (by decide) ?_
        refine s_goto (tgt := 67) F dX9_nextTurn_63 (by decide) ?_
        have h := Option.some.inj h
        subst h
        exact s_iret F hr dX9_nextTurn_67 rfl (Nat.le_refl _) (Nat.le_refl _) post
    · have h := if_f c5 h
      refine s_iconst (v := 1) F dX9_nextTurn_52 (by decide) ?_
      refine s_goto (tgt := 67) F dX9_nextTurn_53 (by decide) ?_
      have h := Option.some.inj h
      subst h
      exact s_iret F hr dX9_nextTurn_67 rfl (Nat.le_refl _) (Nat.le_refl _) post
  · have h := if_f c4 h
    refine s_iconst (v := 0) F dX9_nextTurn_42 (by decide) ?_
    refine s_goto (tgt := 67) F dX9_nextTurn_43 (by decide) ?_
    have h := Option.some.inj h
    subst h
    exact s_iret F hr dX9_nextTurn_67 rfl (Nat.le_refl _) (Nat.le_refl _) post
set_option maxRecDepth 100000 in
set_option maxHeartbeats 4000000 in
theorem c_X9_nextTurn {n : Nat} {Ly : LL} {I : II} {P : PP} {r : Int32 × II} (hs : ShM n Ly P)  (h : fX9_nextTurn I = some r) (l : Launch) (s0 : Nat) (D : va_G) (DA : Nat → ClassId) : Ct l s0 D DA mX9_nextTurn [.inr (some 134)] 0 0 n Ly I P (PoD (some (.inl r.1)) n Ly r.2 P) := ct_of (by decide +kernel) (Nat.le_of_ble_eq_true rfl) (fun X F hr _ => bX9_nextTurn F hs hr ⟨rfl, rfl, rfl, rfl, rfl⟩ h)
-- ChipPilersModel.actBySort
def fX9_actBySort_J81 (I : II) (x1 : Int32) (x2 : Int32) (x3 : Int32) : Option (II) := (if x3 ≤ 0 then some I else (if x2 ≤ 0 then some I else (if 99 ≤ x2 then some I else (fX9_drop I x1 1).bind fun v11 => some v11)))
def fX9_actBySort_J132 (I : II) (x1 : Int32) (x2 : Int32) (x3 : Int32) : Option (II) := (if x2 ≤ 2 then some I else (if x3 ≤ 0 then some I else (fX9_lesser x3 (99 - x2)).bind fun v19 => (fX9_drop I x1 v19).bind fun v20 => some v20))
def fX9_actBySort_J196 (I : II) (x1 : Int32) (x2 : Int32) (x3 : Int32) : Option (II) := (if x3 ≤ 0 then some I else (if x2 ≤ 0 then some I else (if 99 ≤ x2 then some I else (fX9_drop I x1 1).bind fun v29 => some v29)))
def fX9_actBySort (I : II) (x1 : Int32) : Option (II) := (fX9_cellOf I x1).bind fun v1 => ck (ix (9 + v1) 367) ((fX9_of I x1 3).bind fun v3 => (fX9_of I x1 4).bind fun v4 => (fX9_of I x1 5).bind fun v5 => (if v5 = 0 then (if ¬ v3 = 0 then fX9_actBySort_J81 I x1 (I 135 (9 + v1).toNatClampNeg) v3 else (if (I 135 (9 + v1).toNatClampNeg) ≤ 0 then fX9_actBySort_J81 I x1 (I 135 (9 + v1).toNatClampNeg) v3 else (fX9_pick I x1 1).bind fun v13 => some v13)) else if v5 = 1 then (fX9_in (I 135 (9 + v1).toNatClampNeg) 1 2).bind fun v15 => (if v15 = 0 then fX9_actBySort_J132 I x1 (I 135 (9 + v1).toNatClampNeg) v3 else (if (v4 - v3) ≤ 0 then fX9_actBySort_J132 I x1 (I 135 (9 + v1).toNatClampNeg) v3 else (fX9_lesser (I 135 (9 + v1).toNatClampNeg) (v4 - v3)).bind fun v22 => (fX9_pick I x1 v22).bind fun v23 => some v23)) else (fX9_findHeaps I).bind fun v24 => (if (v4 - v3) ≤ 0 then fX9_actBySort_J196 v24 x1 (I 135 (9 + v1).toNatClampNeg) v3 else (if (I 135 (9 + v1).toNatClampNeg) ≤ 0 then fX9_actBySort_J196 v24 x1 (I 135 (9 + v1).toNatClampNeg) v3 else (fX9_cellOf v24 x1).bind fun v31 => ck (ix v31 256) ((fX9_placeOf v24 (v24 140 v31.toNatClampNeg)).bind fun v33 => (if v33 ≤ 0 then fX9_actBySort_J196 v24 x1 (I 135 (9 + v1).toNatClampNeg) v3 else (fX9_pick v24 x1 1).bind fun v35 => some v35))))))
set_option maxRecDepth 100000 in
set_option maxHeartbeats 4000000 in
theorem lX9_actBySort_J81 {X : Cx} {n : Nat} {Ly : LL} {I : II} {P : PP} {Po : PQ} {r : II} (F : Fx X RX9 cX9_actBySort 5 6 0 0) (hs : ShM n Ly P) (hr : Fr X none Po 0 0) (post : Po none n Ly r P) {x1 : Int32} {x2 : Int32} {x3 : Int32} (h : fX9_actBySort_J81 I x1 x2 x3 = some r) : G X 5 0 0 n Ly 81 [some (.inr (some 134)), some (.inl x1), some (.inl x2), some (.inl x3), none] [] I P := by
  unfold fX9_actBySort_J81 at h
  refine s_iload_n F dX9_actBySort_81 rfl ?_
  refine s_if_le (tgt := 216) F dX9_actBySort_82 (by decide) (fun c8 => ?_) (fun c8 => ?_)
  · have h := if_t c8 h
    have h := Option.some.inj h
    subst h
    exact s_vret F hr dX9_actBySort_216 (Nat.le_refl _) (Nat.le_refl _) post
  · have h := if_f c8 h
    refine s_iload_n F dX9_actBySort_85 rfl ?_
    refine s_if_le (tgt := 216) F dX9_actBySort_86 (by decide) (fun c9 => ?_) (fun c9 => ?_)
    · have h := if_t c9 h
      have h := Option.some.inj h
      subst h
      exact s_vret F hr dX9_actBySort_216 (Nat.le_refl _) (Nat.le_refl _) post
    · have h := if_f c9 h
      refine s_iload_n F dX9_actBySort_89 rfl ?_
      refine s_bipush (v := 99) F dX9_actBySort_90 (by decide) ?_
      refine s_icmp_ge (tgt := 216) F dX9_actBySort_92 (by decide) (fun c10 => ?_) (fun c10 => ?_)
      · have h := if_t c10 h
        have h := Option.some.inj h
        subst h
        exact s_vret F hr dX9_actBySort_216 (Nat.le_refl _) (Nat.le_refl _) post
      · have h := if_f c10 h
        refine s_aload_n F dX9_actBySort_95 rfl ?_
        refine s_iload_n F dX9_actBySort_96 rfl ?_
        refine s_iconst (v := 1) F dX9_actBySort_97 (by decide) ?_
        obtain ⟨v11, hv11, h⟩ := bd_i h
        refine s_cV (ci := 9) F dX9_actBySort_98 (c_X9_drop hs hv11) lkX9_105 okX9_drop (by decide) (ly134 hs) (lt134 hs) rfl rfl (Nat.le_of_ble_eq_true rfl) (by decide) ?_
        refine s_goto (tgt := 216) F dX9_actBySort_101 (by decide) ?_
        have h := Option.some.inj h
        subst h
        exact s_vret F hr dX9_actBySort_216 (Nat.le_refl _) (Nat.le_refl _) post
set_option maxRecDepth 100000 in
set_option maxHeartbeats 4000000 in
theorem lX9_actBySort_J132 {X : Cx} {n : Nat} {Ly : LL} {I : II} {P : PP} {Po : PQ} {r : II} (F : Fx X RX9 cX9_actBySort 5 6 0 0) (hs : ShM n Ly P) (hr : Fr X none Po 0 0) (post : Po none n Ly r P) {x1 : Int32} {x2 : Int32} {x3 : Int32} (h : fX9_actBySort_J132 I x1 x2 x3 = some r) : G X 5 0 0 n Ly 132 [some (.inr (some 134)), some (.inl x1), some (.inl x2), some (.inl x3), none] [] I P := by
  unfold fX9_actBySort_J132 at h
  refine s_iload_n F dX9_actBySort_132 rfl ?_
  refine s_iconst (v := 2) F dX9_actBySort_133 (by decide) ?_
  refine s_icmp_le (tgt := 216) F dX9_actBySort_134 (by decide) (fun c17 => ?_) (fun c17 => ?_)
  · have h := if_t c17 h
    have h := Option.some.inj h
    subst h
    exact s_vret F hr dX9_actBySort_216 (Nat.le_refl _) (Nat.le_refl _) post
  · have h := if_f c17 h
    refine s_iload_n F dX9_actBySort_137 rfl ?_
    refine s_if_le (tgt := 216) F dX9_actBySort_138 (by decide) (fun c18 => ?_) (fun c18 => ?_)
    · have h := if_t c18 h
      have h := Option.some.inj h
      subst h
      exact s_vret F hr dX9_actBySort_216 (Nat.le_refl _) (Nat.le_refl _) post
    · have h := if_f c18 h
      refine s_aload_n F dX9_actBySort_141 rfl ?_
      refine s_iload_n F dX9_actBySort_142 rfl ?_
      refine s_iload_n F dX9_actBySort_143 rfl ?_
      refine s_bipush (v := 99) F dX9_actBySort_144 (by decide) ?_
      refine s_iload_n F dX9_actBySort_146 rfl ?_
      refine s_isub F dX9_actBySort_147 ?_
      obtain ⟨v19, hv19, h⟩ := bd_i h
      refine s_cS F dX9_actBySort_148 (c_X9_lesser hs hv19) lkX9_112 okX9_lesser rfl (Nat.le_of_ble_eq_true rfl) (by decide) ?_
      obtain ⟨v20, hv20, h⟩ := bd_i h
      refine s_cV (ci := 9) F dX9_actBySort_151 (c_X9_drop hs hv20) lkX9_105 okX9_drop (by decide) (ly134 hs) (lt134 hs) rfl rfl (Nat.le_of_ble_eq_true rfl) (by decide) ?_
      refine s_goto (tgt := 216) F dX9_actBySort_154 (by decide) ?_
      have h := Option.some.inj h
      subst h
      exact s_vret F hr dX9_actBySort_216 (Nat.le_refl _) (Nat.le_refl _) post
set_option maxRecDepth 100000 in
set_option maxHeartbeats 4000000 in
theorem lX9_actBySort_J196 {X : Cx} {n : Nat} {Ly : LL} {I : II} {P : PP} {Po : PQ} {r : II} (F : Fx X RX9 cX9_actBySort 5 6 0 0) (hs : ShM n Ly P) (hr : Fr X none Po 0 0) (post : Po none n Ly r P) {x1 : Int32} {x2 : Int32} {x3 : Int32} (h : fX9_actBySort_J196 I x1 x2 x3 = some r) : G X 5 0 0 n Ly 196 [some (.inr (some 134)), some (.inl x1), some (.inl x2), some (.inl x3), none] [] I P := by
  unfold fX9_actBySort_J196 at h
  refine s_iload_n F dX9_actBySort_196 rfl ?_
  refine s_if_le (tgt := 216) F dX9_actBySort_197 (by decide) (fun c26 => ?_) (fun c26 => ?_)
  · have h := if_t c26 h
    have h := Option.some.inj h
    subst h
    exact s_vret F hr dX9_actBySort_216 (Nat.le_refl _) (Nat.le_refl _) post
  · have h := if_f c26 h
    refine s_iload_n F dX9_actBySort_200 rfl ?_
    refine s_if_le (tgt := 216) F dX9_actBySort_201 (by decide) (fun c27 => ?_) (fun c27 => ?_)
    · have h := if_t c27 h
      have h := Option.some.inj h
      subst h
      exact s_vret F hr dX9_actBySort_216 (Nat.le_refl _) (Nat.le_refl _) post
    · have h := if_f c27 h
      refine s_iload_n F dX9_actBySort_204 rfl ?_
      refine s_bipush (v := 99) F dX9_actBySort_205 (by decide) ?_
      refine s_icmp_ge (tgt := 216) F dX9_actBySort_207 (by decide) (fun c28 => ?_) (fun c28 => ?_)
      · have h := if_t c28 h
        have h := Option.some.inj h
        subst h
        exact s_vret F hr dX9_actBySort_216 (Nat.le_refl _) (Nat.le_refl _) post
      · have h := if_f c28 h
        refine s_aload_n F dX9_actBySort_210 rfl ?_
        refine s_iload_n F dX9_actBySort_211 rfl ?_
        refine s_iconst (v := 1) F dX9_actBySort_212 (by decide) ?_
        obtain ⟨v29, hv29, h⟩ := bd_i h
        refine s_cV (ci := 9) F dX9_actBySort_213 (c_X9_drop hs hv29) lkX9_105 okX9_drop (by decide) (ly134 hs) (lt134 hs) rfl rfl (Nat.le_of_ble_eq_true rfl) (by decide) ?_
        have h := Option.some.inj h
        subst h
        exact s_vret F hr dX9_actBySort_216 (Nat.le_refl _) (Nat.le_refl _) post
set_option maxRecDepth 100000 in
set_option maxHeartbeats 4000000 in
theorem bX9_actBySort {X : Cx} {n : Nat} {Ly : LL} {I : II} {P : PP} {Po : PQ} {r : II} (F : Fx X RX9 cX9_actBySort 5 6 0 0) (hs : ShM n Ly P) (hr : Fr X none Po 0 0) (post : Po none n Ly r P) {x1 : Int32} (h : fX9_actBySort I x1 = some r) : G X 5 0 0 n Ly 0 [some (.inr (some 134)), some (.inl x1), none, none, none] [] I P := by
  unfold fX9_actBySort at h
  refine s_aload_n F dX9_actBySort_0 rfl ?_
  refine s_getR F dX9_actBySort_1 flX9_7 (ly134 hs) (lt134 hs) rfl (p134_0 hs) ?_
  refine s_bipush (v := 9) F dX9_actBySort_4 (by decide) ?_
  refine s_aload_n F dX9_actBySort_6 rfl ?_
  refine s_iload_n F dX9_actBySort_7 rfl ?_
  obtain ⟨v1, hv1, h⟩ := bd_i h
  refine s_cV (ci := 9) F dX9_actBySort_8 (c_X9_cellOf hs hv1) lkX9_102 okX9_cellOf (by decide) (ly134 hs) (lt134 hs) rfl rfl (Nat.le_of_ble_eq_true rfl) (by decide) ?_
  refine s_iadd F dX9_actBySort_11 ?_
  obtain ⟨hc2, h⟩ := ck_s h
  refine s_iald F dX9_actBySort_12 (ly135 hs) (lt135 hs) (ix_s hc2) ?_
  refine s_istore_n F dX9_actBySort_13 (by decide) ?_
  refine s_aload_n F dX9_actBySort_14 rfl ?_
  refine s_iload_n F dX9_actBySort_15 rfl ?_
  refine s_iconst (v := 3) F dX9_actBySort_16 (by decide) ?_
  obtain ⟨v3, hv3, h⟩ := bd_i h
  refine s_cV (ci := 9) F dX9_actBySort_17 (c_X9_of hs hv3) lkX9_99 okX9_of (by decide) (ly134 hs) (lt134 hs) rfl rfl (Nat.le_of_ble_eq_true rfl) (by decide) ?_
  refine s_istore_n F dX9_actBySort_20 (by decide) ?_
  refine s_aload_n F dX9_actBySort_21 rfl ?_
  refine s_iload_n F dX9_actBySort_22 rfl ?_
  refine s_iconst (v := 4) F dX9_actBySort_23 (by decide) ?_
  obtain ⟨v4, hv4, h⟩ := bd_i h
  refine s_cV (ci := 9) F dX9_actBySort_24 (c_X9_of hs hv4) lkX9_99 okX9_of (by decide) (ly134 hs) (lt134 hs) rfl rfl (Nat.le_of_ble_eq_true rfl) (by decide) ?_
  refine s_iload_n F dX9_actBySort_27 rfl ?_
  refine s_isub F dX9_actBySort_28 ?_
  refine s_istore F dX9_actBySort_29 (by decide) ?_
  refine s_aload_n F dX9_actBySort_31 rfl ?_
  refine s_iload_n F dX9_actBySort_32 rfl ?_
  refine s_iconst (v := 5) F dX9_actBySort_33 (by decide) ?_
  obtain ⟨v5, hv5, h⟩ := bd_i h
  refine s_cV (ci := 9) F dX9_actBySort_34 (c_X9_of hs hv5) lkX9_99 okX9_of (by decide) (ly134 hs) (lt134 hs) rfl rfl (Nat.le_of_ble_eq_true rfl) (by decide) ?_
  by_cases e6 : v5 = 0
  · have h := if_t e6 h
    refine s_lkC (off := 27) (tgt := 64) F dX9_actBySort_37 e6 (by decide +kernel) ?_
    refine s_iload_n F dX9_actBySort_64 rfl ?_
    refine s_if_ne (tgt := 81) F dX9_actBySort_65 (by decide) (fun c7 => ?_) (fun c7 => ?_)
    · have h := if_t c7 h
      exact G.weak (by exact ⟨rfl, ⟨rfl, ⟨rfl, ⟨rfl, trivial⟩⟩⟩⟩) (lX9_actBySort_J81 F hs hr post h)
    · have h := if_f (not_not_intro c7) h
      refine s_iload_n F dX9_actBySort_68 rfl ?_
      refine s_if_le (tgt := 81) F dX9_actBySort_69 (by decide) (fun c12 => ?_) (fun c12 => ?_)
      · have h := if_t c12 h
        exact G.weak (by exact ⟨rfl, ⟨rfl, ⟨rfl, ⟨rfl, trivial⟩⟩⟩⟩) (lX9_actBySort_J81 F hs hr post h)
      · have h := if_f c12 h
        refine s_aload_n F dX9_actBySort_72 rfl ?_
        refine s_iload_n F dX9_actBySort_73 rfl ?_
        refine s_iconst (v := 1) F dX9_actBySort_74 (by decide) ?_
        obtain ⟨v13, hv13, h⟩ := bd_i h
        refine s_cV (ci := 9) F dX9_actBySort_75 (c_X9_pick hs hv13) lkX9_109 okX9_pick (by decide) (ly134 hs) (lt134 hs) rfl rfl (Nat.le_of_ble_eq_true rfl) (by decide) ?_
        refine s_goto (tgt := 216) F dX9_actBySort_78 (by decide) ?_
        have h := Option.some.inj h
        subst h
        exact s_vret F hr dX9_actBySort_216 (Nat.le_refl _) (Nat.le_refl _) post
  have h := if_f e6 h
  by_cases e14 : v5 = 1
  · have h := if_t e14 h
    refine s_lkC (off := 67) (tgt := 104) F dX9_actBySort_37 e14 (by decide +kernel) ?_
    refine s_iload_n F dX9_actBySort_104 rfl ?_
    refine s_iconst (v := 1) F dX9_actBySort_105 (by decide) ?_
    refine s_iconst (v := 2) F dX9_actBySort_106 (by decide) ?_
    obtain ⟨v15, hv15, h⟩ := bd_i h
    refine s_cS F dX9_actBySort_107 (c_X9_in hs hv15) lkX9_58 okX9_in rfl (Nat.le_of_ble_eq_true rfl) (by decide) ?_
    refine s_if_eq (tgt := 132) F dX9_actBySort_110 (by decide) (fun c16 => ?_) (fun c16 => ?_)
    · have h := if_t c16 h
      exact G.weak (by exact ⟨rfl, ⟨rfl, ⟨rfl, ⟨rfl, trivial⟩⟩⟩⟩) (lX9_actBySort_J132 F hs hr post h)
    · have h := if_f c16 h
      refine s_iload F dX9_actBySort_113 rfl ?_
      refine s_if_le (tgt := 132) F dX9_actBySort_115 (by decide) (fun c21 => ?_) (fun c21 => ?_)
      · have h := if_t c21 h
        exact G.weak (by exact ⟨rfl, ⟨rfl, ⟨rfl, ⟨rfl, trivial⟩⟩⟩⟩) (lX9_actBySort_J132 F hs hr post h)
      · have h := if_f c21 h
        refine s_aload_n F dX9_actBySort_118 rfl ?_
        refine s_iload_n F dX9_actBySort_119 rfl ?_
        refine s_iload_n F dX9_actBySort_120 rfl ?_
        refine s_iload F dX9_actBySort_121 rfl ?_
        obtain ⟨v22, hv22, h⟩ := bd_i h
        refine s_cS F dX9_actBySort_123 (c_X9_lesser hs hv22) lkX9_112 okX9_lesser rfl (Nat.le_of_ble_eq_true rfl) (by decide) ?_
        obtain ⟨v23, hv23, h⟩ := bd_i h
        refine s_cV (ci := 9) F dX9_actBySort_126 (c_X9_pick hs hv23) lkX9_109 okX9_pick (by decide) (ly134 hs) (lt134 hs) rfl rfl (Nat.le_of_ble_eq_true rfl) (by decide) ?_
        refine s_goto (tgt := 216) F dX9_actBySort_129 (by decide) ?_
        have h := Option.some.inj h
        subst h
        exact s_vret F hr dX9_actBySort_216 (Nat.le_refl _) (Nat.le_refl _) post
  have h := if_f e14 h
  refine s_lkD (off := 120) (tgt := 157) F dX9_actBySort_37 (by decide +kernel) (by show Op.lookupswitch.offset [(0, 27), (1, 67)] 120 _ = _; rw [lv_osw (k := 0) e6 (by decide), lv_osw (k := 1) e14 (by decide)]; rfl) (by decide) ?_
  refine s_aload_n F dX9_actBySort_157 rfl ?_
  obtain ⟨v24, hv24, h⟩ := bd_i h
  refine s_cV (ci := 9) F dX9_actBySort_158 (c_X9_findHeaps hs hv24) lkX9_115 okX9_findHeaps (by decide) (ly134 hs) (lt134 hs) rfl rfl (Nat.le_of_ble_eq_true rfl) (by decide) ?_
  refine s_iload F dX9_actBySort_161 rfl ?_
  refine s_if_le (tgt := 196) F dX9_actBySort_163 (by decide) (fun c25 => ?_) (fun c25 => ?_)
  · have h := if_t c25 h
    exact G.weak (by exact ⟨rfl, ⟨rfl, ⟨rfl, ⟨rfl, trivial⟩⟩⟩⟩) (lX9_actBySort_J196 F hs hr post h)
  · have h := if_f c25 h
    refine s_iload_n F dX9_actBySort_166 rfl ?_
    refine s_if_le (tgt := 196) F dX9_actBySort_167 (by decide) (fun c30 => ?_) (fun c30 => ?_)
    · have h := if_t c30 h
      exact G.weak (by exact ⟨rfl, ⟨rfl, ⟨rfl, ⟨rfl, trivial⟩⟩⟩⟩) (lX9_actBySort_J196 F hs hr post h)
    · have h := if_f c30 h
      refine s_aload_n F dX9_actBySort_170 rfl ?_
      refine s_aload_n F dX9_actBySort_171 rfl ?_
      refine s_getR F dX9_actBySort_172 flX9_26 (ly134 hs) (lt134 hs) rfl (p134_6 hs) ?_
      refine s_aload_n F dX9_actBySort_175 rfl ?_
      refine s_iload_n F dX9_actBySort_176 rfl ?_
      obtain ⟨v31, hv31, h⟩ := bd_i h
      refine s_cV (ci := 9) F dX9_actBySort_177 (c_X9_cellOf hs hv31) lkX9_102 okX9_cellOf (by decide) (ly134 hs) (lt134 hs) rfl rfl (Nat.le_of_ble_eq_true rfl) (by decide) ?_
      obtain ⟨hc32, h⟩ := ck_s h
      refine s_iald F dX9_actBySort_180 (ly140 hs) (lt140 hs) (ix_s hc32) ?_
      obtain ⟨v33, hv33, h⟩ := bd_i h
      refine s_cV (ci := 9) F dX9_actBySort_181 (c_X9_placeOf hs hv33) lkX9_118 okX9_placeOf (by decide) (ly134 hs) (lt134 hs) rfl rfl (Nat.le_of_ble_eq_true rfl) (by decide) ?_
      refine s_if_le (tgt := 196) F dX9_actBySort_184 (by decide) (fun c34 => ?_) (fun c34 => ?_)
      · have h := if_t c34 h
        exact G.weak (by exact ⟨rfl, ⟨rfl, ⟨rfl, ⟨rfl, trivial⟩⟩⟩⟩) (lX9_actBySort_J196 F hs hr post h)
      · have h := if_f c34 h
        refine s_aload_n F dX9_actBySort_187 rfl ?_
        refine s_iload_n F dX9_actBySort_188 rfl ?_
        refine s_iconst (v := 1) F dX9_actBySort_189 (by decide) ?_
        obtain ⟨v35, hv35, h⟩ := bd_i h
        refine s_cV (ci := 9) F dX9_actBySort_190 (c_X9_pick hs hv35) lkX9_109 okX9_pick (by decide) (ly134 hs) (lt134 hs) rfl rfl (Nat.le_of_ble_eq_true rfl) (by decide) ?_
        refine s_goto (tgt := 216) F dX9_actBySort_193 (by decide) ?_
        have h := Option.some.inj h
        subst h
        exact s_vret F hr dX9_actBySort_216 (Nat.le_refl _) (Nat.le_refl _) post
set_option maxRecDepth 100000 in
set_option maxHeartbeats 4000000 in
theorem c_X9_actBySort {n : Nat} {Ly : LL} {I : II} {P : PP} {r : II} (hs : ShM n Ly P) {x1 : Int32} (h : fX9_actBySort I x1 = some r) (l : Launch) (s0 : Nat) (D : va_G) (DA : Nat → ClassId) : Ct l s0 D DA mX9_actBySort [.inr (some 134), .inl x1] 0 0 n Ly I P (PoD none n Ly r P) := ct_of (by decide +kernel) (Nat.le_of_ble_eq_true rfl) (fun X F hr _ => bX9_actBySort F hs hr ⟨rfl, rfl, rfl, rfl, rfl⟩ h)
-- ChipPilersModel.goAhead
def fX9_goAhead_J107 (I : II) (x2 : Int32) (s1 : Int32) (s2 : Int32) (s3 : Int32) : Option (II) := ck (ix s1 367) ((some (up2 I 135 s1.toNatClampNeg (s2 + s3))).bind fun I14 => (if (I14 134 7) ≤ x2 then (some (up2 I14 135 7 ((I14 135 7) + 0))).bind fun I16 => some I16 else (some (up2 I14 135 7 ((I14 135 7) + ((I14 134 7) - x2)))).bind fun I17 => some I17))
def fX9_goAhead (I : II) (x1 : Int32) : Option (II) := (fX9_findHeaps I).bind fun v1 => (fX9_cellOf v1 x1).bind fun v2 => (fX9_of v1 x1 2).bind fun v3 => (fX9_stepped v1 v2 v3).bind fun v4 => (fX9_lay v1 x1 0 (v4 / 16)).bind fun v5 => (fX9_lay v5 x1 1 (rm v4 16)).bind fun v6 => (fX9_of v6 x1 6).bind fun v7 => (fX9_lay v6 x1 6 (v7 + 1)).bind fun v8 => (some (up2 v8 135 8 ((v8 135 8) + 1))).bind fun I9 => (fX9_actBySort I9 x1).bind fun v10 => (fX9_findHeaps v10).bind fun v11 => (if (v1 134 7) ≤ (v11 134 7) then fX9_goAhead_J107 v11 (v1 134 7) 6 (v11 135 6) 0 else fX9_goAhead_J107 v11 (v1 134 7) 6 (v11 135 6) ((v1 134 7) - (v11 134 7)))
set_option maxRecDepth 100000 in
set_option maxHeartbeats 4000000 in
theorem lX9_goAhead_J107 {X : Cx} {n : Nat} {Ly : LL} {I : II} {P : PP} {Po : PQ} {r : II} (F : Fx X RX9 cX9_goAhead 4 7 0 0) (hs : ShM n Ly P) (hr : Fr X none Po 0 0) (post : Po none n Ly r P) {x2 : Int32} {s1 : Int32} {s2 : Int32} {s3 : Int32} (h : fX9_goAhead_J107 I x2 s1 s2 s3 = some r) : G X 4 0 0 n Ly 107 [some (.inr (some 134)), none, some (.inl x2), none] [.inl s3, .inl s2, .inl s1, .inr (some 135)] I P := by
  unfold fX9_goAhead_J107 at h
  refine s_iadd F dX9_goAhead_107 ?_
  obtain ⟨hc13, h⟩ := ck_s h
  have h := bd_s h
  refine s_iast F dX9_goAhead_108 (ly135 hs) (lt135 hs) (ix_s hc13) ?_
  refine s_aload_n F dX9_goAhead_109 rfl ?_
  refine s_getR F dX9_goAhead_110 flX9_7 (ly134 hs) (lt134 hs) rfl (p134_0 hs) ?_
  refine s_bipush (v := 7) F dX9_goAhead_113 (by decide) ?_
  refine s_dup2 F dX9_goAhead_115 ?_
  refine s_ialdK (j := 7) F dX9_goAhead_116 (ly135 hs) (lt135 hs) (vp_lit 7 rfl) (by decide) ?_
  refine s_aload_n F dX9_goAhead_117 rfl ?_
  refine s_getI F dX9_goAhead_118 flX9_77 (ly134 hs) (lt134 hs) rfl ?_
  refine s_iload_n F dX9_goAhead_121 rfl ?_
  refine s_icmp_le (tgt := 134) F dX9_goAhead_122 (by decide) (fun c15 => ?_) (fun c15 => ?_)
  · have h := if_t c15 h
    refine s_iconst (v := 0) F dX9_goAhead_134 (by decide) ?_
    refine s_iadd F dX9_goAhead_135 ?_
    have h := bd_s h
    refine s_iastK (j := 7) F dX9_goAhead_136 (ly135 hs) (lt135 hs) (vp_lit 7 rfl) (by decide) ?_
    have h := Option.some.inj h
    subst h
    exact s_vret F hr dX9_goAhead_137 (Nat.le_refl _) (Nat.le_refl _) post
  · have h := if_f c15 h
    refine s_aload_n F dX9_goAhead_125 rfl ?_
    refine s_getI F dX9_goAhead_126 flX9_77 (ly134 hs) (lt134 hs) rfl ?_
    refine s_iload_n F dX9_goAhead_129 rfl ?_
    refine s_isub F dX9_goAhead_130 ?_
    refine s_goto (tgt := 135) F dX9_goAhead_131 (by decide) ?_
    refine s_iadd F dX9_goAhead_135 ?_
    have h := bd_s h
    refine s_iastK (j := 7) F dX9_goAhead_136 (ly135 hs) (lt135 hs) (vp_lit 7 rfl) (by decide) ?_
    have h := Option.some.inj h
    subst h
    exact s_vret F hr dX9_goAhead_137 (Nat.le_refl _) (Nat.le_refl _) post
set_option maxRecDepth 100000 in
set_option maxHeartbeats 4000000 in
theorem bX9_goAhead {X : Cx} {n : Nat} {Ly : LL} {I : II} {P : PP} {Po : PQ} {r : II} (F : Fx X RX9 cX9_goAhead 4 7 0 0) (hs : ShM n Ly P) (hr : Fr X none Po 0 0) (post : Po none n Ly r P) {x1 : Int32} (h : fX9_goAhead I x1 = some r) : G X 4 0 0 n Ly 0 [some (.inr (some 134)), some (.inl x1), none, none] [] I P := by
  unfold fX9_goAhead at h
  refine s_aload_n F dX9_goAhead_0 rfl ?_
  obtain ⟨v1, hv1, h⟩ := bd_i h
  refine s_cV (ci := 9) F dX9_goAhead_1 (c_X9_findHeaps hs hv1) lkX9_115 okX9_findHeaps (by decide) (ly134 hs) (lt134 hs) rfl rfl (Nat.le_of_ble_eq_true rfl) (by decide) ?_
  refine s_aload_n F dX9_goAhead_4 rfl ?_
  refine s_getI F dX9_goAhead_5 flX9_77 (ly134 hs) (lt134 hs) rfl ?_
  refine s_istore_n F dX9_goAhead_8 (by decide) ?_
  refine s_aload_n F dX9_goAhead_9 rfl ?_
  refine s_aload_n F dX9_goAhead_10 rfl ?_
  refine s_iload_n F dX9_goAhead_11 rfl ?_
  obtain ⟨v2, hv2, h⟩ := bd_i h
  refine s_cV (ci := 9) F dX9_goAhead_12 (c_X9_cellOf hs hv2) lkX9_102 okX9_cellOf (by decide) (ly134 hs) (lt134 hs) rfl rfl (Nat.le_of_ble_eq_true rfl) (by decide) ?_
  refine s_aload_n F dX9_goAhead_15 rfl ?_
  refine s_iload_n F dX9_goAhead_16 rfl ?_
  refine s_iconst (v := 2) F dX9_goAhead_17 (by decide) ?_
  obtain ⟨v3, hv3, h⟩ := bd_i h
  refine s_cV (ci := 9) F dX9_goAhead_18 (c_X9_of hs hv3) lkX9_99 okX9_of (by decide) (ly134 hs) (lt134 hs) rfl rfl (Nat.le_of_ble_eq_true rfl) (by decide) ?_
  obtain ⟨v4, hv4, h⟩ := bd_i h
  refine s_cV (ci := 9) F dX9_goAhead_21 (c_X9_stepped hs hv4) lkX9_80 okX9_stepped (by decide) (ly134 hs) (lt134 hs) rfl rfl (Nat.le_of_ble_eq_true rfl) (by decide) ?_
  refine s_istore_n F dX9_goAhead_24 (by decide) ?_
  refine s_aload_n F dX9_goAhead_25 rfl ?_
  refine s_iload_n F dX9_goAhead_26 rfl ?_
  refine s_iconst (v := 0) F dX9_goAhead_27 (by decide) ?_
  refine s_iload_n F dX9_goAhead_28 rfl ?_
  refine s_bipush (v := 16) F dX9_goAhead_29 (by decide) ?_
  refine s_idiv F dX9_goAhead_31 (by decide) ?_
  obtain ⟨v5, hv5, h⟩ := bd_i h
  refine s_cV (ci := 9) F dX9_goAhead_32 (c_X9_lay hs hv5) lkX9_91 okX9_lay (by decide) (ly134 hs) (lt134 hs) rfl rfl (Nat.le_of_ble_eq_true rfl) (by decide) ?_
  refine s_aload_n F dX9_goAhead_35 rfl ?_
  refine s_iload_n F dX9_goAhead_36 rfl ?_
  refine s_iconst (v := 1) F dX9_goAhead_37 (by decide) ?_
  refine s_iload_n F dX9_goAhead_38 rfl ?_
  refine s_bipush (v := 16) F dX9_goAhead_39 (by decide) ?_
  refine s_rem F dX9_goAhead_41 (by decide) ?_
  obtain ⟨v6, hv6, h⟩ := bd_i h
  refine s_cV (ci := 9) F dX9_goAhead_42 (c_X9_lay hs hv6) lkX9_91 okX9_lay (by decide) (ly134 hs) (lt134 hs) rfl rfl (Nat.le_of_ble_eq_true rfl) (by decide) ?_
  refine s_aload_n F dX9_goAhead_45 rfl ?_
  refine s_iload_n F dX9_goAhead_46 rfl ?_
  refine s_bipush (v := 6) F dX9_goAhead_47 (by decide) ?_
  refine s_aload_n F dX9_goAhead_49 rfl ?_
  refine s_iload_n F dX9_goAhead_50 rfl ?_
  refine s_bipush (v := 6) F dX9_goAhead_51 (by decide) ?_
  obtain ⟨v7, hv7, h⟩ := bd_i h
  refine s_cV (ci := 9) F dX9_goAhead_53 (c_X9_of hs hv7) lkX9_99 okX9_of (by decide) (ly134 hs) (lt134 hs) rfl rfl (Nat.le_of_ble_eq_true rfl) (by decide) ?_
  refine s_iconst (v := 1) F dX9_goAhead_56 (by decide) ?_
  refine s_iadd F dX9_goAhead_57 ?_
  obtain ⟨v8, hv8, h⟩ := bd_i h
  refine s_cV (ci := 9) F dX9_goAhead_58 (c_X9_lay hs hv8) lkX9_91 okX9_lay (by decide) (ly134 hs) (lt134 hs) rfl rfl (Nat.le_of_ble_eq_true rfl) (by decide) ?_
  refine s_aload_n F dX9_goAhead_61 rfl ?_
  refine s_getR F dX9_goAhead_62 flX9_7 (ly134 hs) (lt134 hs) rfl (p134_0 hs) ?_
  refine s_bipush (v := 8) F dX9_goAhead_65 (by decide) ?_
  refine s_dup2 F dX9_goAhead_67 ?_
  refine s_ialdK (j := 8) F dX9_goAhead_68 (ly135 hs) (lt135 hs) (vp_lit 8 rfl) (by decide) ?_
  refine s_iconst (v := 1) F dX9_goAhead_69 (by decide) ?_
  refine s_iadd F dX9_goAhead_70 ?_
  have h := bd_s h
  refine s_iastK (j := 8) F dX9_goAhead_71 (ly135 hs) (lt135 hs) (vp_lit 8 rfl) (by decide) ?_
  refine s_aload_n F dX9_goAhead_72 rfl ?_
  refine s_iload_n F dX9_goAhead_73 rfl ?_
  obtain ⟨v10, hv10, h⟩ := bd_i h
  refine s_cV (ci := 9) F dX9_goAhead_74 (c_X9_actBySort hs hv10) lkX9_121 okX9_actBySort (by decide) (ly134 hs) (lt134 hs) rfl rfl (Nat.le_of_ble_eq_true rfl) (by decide) ?_
  refine s_aload_n F dX9_goAhead_77 rfl ?_
  obtain ⟨v11, hv11, h⟩ := bd_i h
  refine s_cV (ci := 9) F dX9_goAhead_78 (c_X9_findHeaps hs hv11) lkX9_115 okX9_findHeaps (by decide) (ly134 hs) (lt134 hs) rfl rfl (Nat.le_of_ble_eq_true rfl) (by decide) ?_
  refine s_aload_n F dX9_goAhead_81 rfl ?_
  refine s_getR F dX9_goAhead_82 flX9_7 (ly134 hs) (lt134 hs) rfl (p134_0 hs) ?_
  refine s_bipush (v := 6) F dX9_goAhead_85 (by decide) ?_
  refine s_dup2 F dX9_goAhead_87 ?_
  refine s_ialdK (j := 6) F dX9_goAhead_88 (ly135 hs) (lt135 hs) (vp_lit 6 rfl) (by decide) ?_
  refine s_aload_n F dX9_goAhead_89 rfl ?_
  refine s_getI F dX9_goAhead_90 flX9_77 (ly134 hs) (lt134 hs) rfl ?_
  refine s_iload_n F dX9_goAhead_93 rfl ?_
  refine s_icmp_ge (tgt := 106) F dX9_goAhead_94 (by decide) (fun c12 => ?_) (fun c12 => ?_)
  · have h := if_t c12 h
    refine s_iconst (v := 0) F dX9_goAhead_106 (by decide) ?_
    exact G.weak (by exact ⟨rfl, ⟨rfl, trivial⟩⟩) (lX9_goAhead_J107 F hs hr post h)
  · have h := if_f c12 h
    refine s_iload_n F dX9_goAhead_97 rfl ?_
    refine s_aload_n F dX9_goAhead_98 rfl ?_
    refine s_getI F dX9_goAhead_99 flX9_77 (ly134 hs) (lt134 hs) rfl ?_
    refine s_isub F dX9_goAhead_102 ?_
    refine s_goto (tgt := 107) F dX9_goAhead_103 (by decide) ?_
    exact G.weak (by exact ⟨rfl, ⟨rfl, trivial⟩⟩) (lX9_goAhead_J107 F hs hr post h)
set_option maxRecDepth 100000 in
set_option maxHeartbeats 4000000 in
theorem c_X9_goAhead {n : Nat} {Ly : LL} {I : II} {P : PP} {r : II} (hs : ShM n Ly P) {x1 : Int32} (h : fX9_goAhead I x1 = some r) (l : Launch) (s0 : Nat) (D : va_G) (DA : Nat → ClassId) : Ct l s0 D DA mX9_goAhead [.inr (some 134), .inl x1] 0 0 n Ly I P (PoD none n Ly r P) := ct_of (by decide +kernel) (Nat.le_of_ble_eq_true rfl) (fun X F hr _ => bX9_goAhead F hs hr ⟨rfl, rfl, rfl, rfl, rfl⟩ h)
-- ChipPilersModel.step
def fX9_step_L19 : Nat → (II → Option (II)) → Int32 → II → Option (II)
  | 0, _, _, _ => none
  | k + 1, ct, x1, I => (fX9_cellOf I x1).bind fun v4 => (fX9_of I x1 2).bind fun v5 => (fX9_stepped I v4 v5).bind fun v6 => (if 0 ≤ v6 then ct I else (fX9_of I x1 2).bind fun v8 => (fX9_lay I x1 2 (rm (v8 + 1) 4)).bind fun v9 => fX9_step_L19 k ct x1 v9)
def fX9_step (I : II) (x1 : Int32) : Option (II) := (fX9_of I x1 2).bind fun v1 => (fX9_nextTurn I).bind fun v2 => (fX9_lay v2.2 x1 2 (rm (v1 + v2.1) 4)).bind fun v3 => fX9_step_L19 2000 (fun I10 => (fX9_goAhead I10 x1).bind fun v11 => some v11) x1 v3
set_option maxRecDepth 100000 in
set_option maxHeartbeats 4000000 in
theorem lX9_step_L19 {X : Cx} {n : Nat} {Ly : LL} {P : PP} {Po : PQ} {r : II} (F : Fx X RX9 cX9_step 2 8 0 0) (hs : ShM n Ly P) (hr : Fr X none Po 0 0) (post : Po none n Ly r P) {x1 : Int32} {ct : II → Option (II)} (hct : ∀  (I : II), ct  I = some r → G X 2 0 0 n Ly 56 [some (.inr (some 134)), some (.inl x1)] [] I P) : ∀ (k : Nat)  (I : II), fX9_step_L19 k ct x1 I = some r → G X 2 0 0 n Ly 19 [some (.inr (some 134)), some (.inl x1)] [] I P := by
  intro k
  induction k with
  | zero =>
    intro I h
    cases h
  | succ k ih =>
    intro I h
    rw [fX9_step_L19] at h
    refine s_aload_n F dX9_step_19 rfl ?_
    refine s_aload_n F dX9_step_20 rfl ?_
    refine s_iload_n F dX9_step_21 rfl ?_
    obtain ⟨v4, hv4, h⟩ := bd_i h
    refine s_cV (ci := 9) F dX9_step_22 (c_X9_cellOf hs hv4) lkX9_102 okX9_cellOf (by decide) (ly134 hs) (lt134 hs) rfl rfl (Nat.le_of_ble_eq_true rfl) (by decide) ?_
    refine s_aload_n F dX9_step_25 rfl ?_
    refine s_iload_n F dX9_step_26 rfl ?_
    refine s_iconst (v := 2) F dX9_step_27 (by decide) ?_
    obtain ⟨v5, hv5, h⟩ := bd_i h
    refine s_cV (ci := 9) F dX9_step_28 (c_X9_of hs hv5) lkX9_99 okX9_of (by decide) (ly134 hs) (lt134 hs) rfl rfl (Nat.le_of_ble_eq_true rfl) (by decide) ?_
    obtain ⟨v6, hv6, h⟩ := bd_i h
    refine s_cV (ci := 9) F dX9_step_31 (c_X9_stepped hs hv6) lkX9_80 okX9_stepped (by decide) (ly134 hs) (lt134 hs) rfl rfl (Nat.le_of_ble_eq_true rfl) (by decide) ?_
    refine s_if_ge (tgt := 56) F dX9_step_34 (by decide) (fun c7 => ?_) (fun c7 => ?_)
    · have h := if_t c7 h
      exact G.weak (by exact ⟨rfl, ⟨rfl, trivial⟩⟩) (hct _ h)
    · have h := if_f c7 h
      refine s_aload_n F dX9_step_37 rfl ?_
      refine s_iload_n F dX9_step_38 rfl ?_
      refine s_iconst (v := 2) F dX9_step_39 (by decide) ?_
      refine s_aload_n F dX9_step_40 rfl ?_
      refine s_iload_n F dX9_step_41 rfl ?_
      refine s_iconst (v := 2) F dX9_step_42 (by decide) ?_
      obtain ⟨v8, hv8, h⟩ := bd_i h
      refine s_cV (ci := 9) F dX9_step_43 (c_X9_of hs hv8) lkX9_99 okX9_of (by decide) (ly134 hs) (lt134 hs) rfl rfl (Nat.le_of_ble_eq_true rfl) (by decide) ?_
      refine s_iconst (v := 1) F dX9_step_46 (by decide) ?_
      refine s_iadd F dX9_step_47 ?_
      refine s_iconst (v := 4) F dX9_step_48 (by decide) ?_
      refine s_rem F dX9_step_49 (by decide) ?_
      obtain ⟨v9, hv9, h⟩ := bd_i h
      refine s_cV (ci := 9) F dX9_step_50 (c_X9_lay hs hv9) lkX9_91 okX9_lay (by decide) (ly134 hs) (lt134 hs) rfl rfl (Nat.le_of_ble_eq_true rfl) (by decide) ?_
      refine s_goto (tgt := 19) F dX9_step_53 (by decide) ?_
      exact G.weak (by exact ⟨rfl, ⟨rfl, trivial⟩⟩) (ih _ h)
set_option maxRecDepth 100000 in
set_option maxHeartbeats 4000000 in
theorem bX9_step {X : Cx} {n : Nat} {Ly : LL} {I : II} {P : PP} {Po : PQ} {r : II} (F : Fx X RX9 cX9_step 2 8 0 0) (hs : ShM n Ly P) (hr : Fr X none Po 0 0) (post : Po none n Ly r P) {x1 : Int32} (h : fX9_step I x1 = some r) : G X 2 0 0 n Ly 0 [some (.inr (some 134)), some (.inl x1)] [] I P := by
  unfold fX9_step at h
  refine s_aload_n F dX9_step_0 rfl ?_
  refine s_iload_n F dX9_step_1 rfl ?_
  refine s_iconst (v := 2) F dX9_step_2 (by decide) ?_
  refine s_aload_n F dX9_step_3 rfl ?_
  refine s_iload_n F dX9_step_4 rfl ?_
  refine s_iconst (v := 2) F dX9_step_5 (by decide) ?_
  obtain ⟨v1, hv1, h⟩ := bd_i h
  refine s_cV (ci := 9) F dX9_step_6 (c_X9_of hs hv1) lkX9_99 okX9_of (by decide) (ly134 hs) (lt134 hs) rfl rfl (Nat.le_of_ble_eq_true rfl) (by decide) ?_
  refine s_aload_n F dX9_step_9 rfl ?_
  obtain ⟨v2, hv2, h⟩ := bd_i h
  refine s_cV (ci := 9) F dX9_step_10 (c_X9_nextTurn hs hv2) lkX9_124 okX9_nextTurn (by decide) (ly134 hs) (lt134 hs) rfl rfl (Nat.le_of_ble_eq_true rfl) (by decide) ?_
  refine s_iadd F dX9_step_13 ?_
  refine s_iconst (v := 4) F dX9_step_14 (by decide) ?_
  refine s_rem F dX9_step_15 (by decide) ?_
  obtain ⟨v3, hv3, h⟩ := bd_i h
  refine s_cV (ci := 9) F dX9_step_16 (c_X9_lay hs hv3) lkX9_91 okX9_lay (by decide) (ly134 hs) (lt134 hs) rfl rfl (Nat.le_of_ble_eq_true rfl) (by decide) ?_
  refine G.weak (by exact ⟨rfl, ⟨rfl, trivial⟩⟩) (lX9_step_L19 F hs hr post (fun I10 h => ?_) 2000  _ h)
  refine s_aload_n F dX9_step_56 rfl ?_
  refine s_iload_n F dX9_step_57 rfl ?_
  obtain ⟨v11, hv11, h⟩ := bd_i h
  refine s_cV (ci := 9) F dX9_step_58 (c_X9_goAhead hs hv11) lkX9_127 okX9_goAhead (by decide) (ly134 hs) (lt134 hs) rfl rfl (Nat.le_of_ble_eq_true rfl) (by decide) ?_
  have h := Option.some.inj h
  subst h
  exact s_vret F hr dX9_step_61 (Nat.le_refl _) (Nat.le_refl _) post
set_option maxRecDepth 100000 in
set_option maxHeartbeats 4000000 in
theorem c_X9_step {n : Nat} {Ly : LL} {I : II} {P : PP} {r : II} (hs : ShM n Ly P) {x1 : Int32} (h : fX9_step I x1 = some r) (l : Launch) (s0 : Nat) (D : va_G) (DA : Nat → ClassId) : Ct l s0 D DA mX9_step [.inr (some 134), .inl x1] 0 0 n Ly I P (PoD none n Ly r P) := ct_of (by decide +kernel) (Nat.le_of_ble_eq_true rfl) (fun X F hr _ => bX9_step F hs hr ⟨rfl, rfl, rfl, rfl, rfl⟩ h)
-- ChipPilersModel.oneRound
def fX9_oneRound_L2 : Nat → (II → Option (II)) → Int32 → II → Option (II)
  | 0, _, _, _ => none
  | k + 1, ct, x1, I => (if (I 135 2) ≤ x1 then ct I else (fX9_step I x1).bind fun v2 => fX9_oneRound_L2 k ct (x1 + 1) v2)
def fX9_oneRound (I : II) : Option (II) := fX9_oneRound_L2 2000 (fun I3 => some I3) 0 I
set_option maxRecDepth 100000 in
set_option maxHeartbeats 4000000 in
theorem lX9_oneRound_L2 {X : Cx} {n : Nat} {Ly : LL} {P : PP} {Po : PQ} {r : II} (F : Fx X RX9 cX9_oneRound 2 9 0 0) (hs : ShM n Ly P) (hr : Fr X none Po 0 0) (post : Po none n Ly r P)  {ct : II → Option (II)} (hct : ∀  (I : II), ct  I = some r → G X 2 0 0 n Ly 23 [none, none] [] I P) : ∀ (k : Nat) (x1 : Int32) (I : II), fX9_oneRound_L2 k ct x1 I = some r → G X 2 0 0 n Ly 2 [some (.inr (some 134)), some (.inl x1)] [] I P := by
  intro k
  induction k with
  | zero =>
    intro x1 I h
    cases h
  | succ k ih =>
    intro x1 I h
    rw [fX9_oneRound_L2] at h
    refine s_iload_n F dX9_oneRound_2 rfl ?_
    refine s_aload_n F dX9_oneRound_3 rfl ?_
    refine s_getR F dX9_oneRound_4 flX9_7 (ly134 hs) (lt134 hs) rfl (p134_0 hs) ?_
    refine s_iconst (v := 2) F dX9_oneRound_7 (by decide) ?_
    refine s_ialdK (j := 2) F dX9_oneRound_8 (ly135 hs) (lt135 hs) (vp_lit 2 rfl) (by decide) ?_
    refine s_icmp_ge (tgt := 23) F dX9_oneRound_9 (by decide) (fun c1 => ?_) (fun c1 => ?_)
    · have h := if_t c1 h
      exact G.weak (by exact trivial) (hct _ h)
    · have h := if_f c1 h
      refine s_aload_n F dX9_oneRound_12 rfl ?_
      refine s_iload_n F dX9_oneRound_13 rfl ?_
      obtain ⟨v2, hv2, h⟩ := bd_i h
      refine s_cV (ci := 9) F dX9_oneRound_14 (c_X9_step hs hv2) lkX9_130 okX9_step (by decide) (ly134 hs) (lt134 hs) rfl rfl (Nat.le_of_ble_eq_true rfl) (by decide) ?_
      refine s_inc (c := 1) F dX9_oneRound_17 rfl (by decide) (by decide) ?_
      refine s_goto (tgt := 2) F dX9_oneRound_20 (by decide) ?_
      exact G.weak (by exact ⟨rfl, ⟨rfl, trivial⟩⟩) (ih _ _ h)
set_option maxRecDepth 100000 in
set_option maxHeartbeats 4000000 in
theorem bX9_oneRound {X : Cx} {n : Nat} {Ly : LL} {I : II} {P : PP} {Po : PQ} {r : II} (F : Fx X RX9 cX9_oneRound 2 9 0 0) (hs : ShM n Ly P) (hr : Fr X none Po 0 0) (post : Po none n Ly r P)  (h : fX9_oneRound I = some r) : G X 2 0 0 n Ly 0 [some (.inr (some 134)), none] [] I P := by
  unfold fX9_oneRound at h
  refine s_iconst (v := 0) F dX9_oneRound_0 (by decide) ?_
  refine s_istore_n F dX9_oneRound_1 (by decide) ?_
  refine G.weak (by exact ⟨rfl, ⟨rfl, trivial⟩⟩) (lX9_oneRound_L2 F hs hr post (fun I3 h => ?_) 2000 _ _ h)
  have h := Option.some.inj h
  subst h
  exact s_vret F hr dX9_oneRound_23 (Nat.le_refl _) (Nat.le_refl _) post
set_option maxRecDepth 100000 in
set_option maxHeartbeats 4000000 in
theorem c_X9_oneRound {n : Nat} {Ly : LL} {I : II} {P : PP} {r : II} (hs : ShM n Ly P)  (h : fX9_oneRound I = some r) (l : Launch) (s0 : Nat) (D : va_G) (DA : Nat → ClassId) : Ct l s0 D DA mX9_oneRound [.inr (some 134)] 0 0 n Ly I P (PoD none n Ly r P) := ct_of (by decide +kernel) (Nat.le_of_ble_eq_true rfl) (fun X F hr _ => bX9_oneRound F hs hr ⟨rfl, rfl, rfl, rfl, rfl⟩ h)
-- ChipPilersModel.walk
def fX9_walk_L29 : Nat → (II → Option (Int32 × II)) → Int32 → Int32 → Int32 → II → Option (Int32 × II)
  | 0, _, _, _, _, _ => none
  | k + 1, ct, x1, x2, x3, I => (if x2 ≤ x3 then ct I else (fX9_step I x1).bind fun v7 => fX9_walk_L29 k ct x1 x2 (x3 + 1) v7)
def fX9_walk (I : II) (x1 : Int32) (x2 : Int32) : Option (Int32 × II) := (fX9_noWalker I x1).bind fun v1 => (if v1 = 0 then (fX9_in x2 1 100).bind fun v3 => (if ¬ v3 = 0 then (fX9_begin I).bind fun v5 => fX9_walk_L29 2000 (fun I8 => (fX9_of I8 x1 3).bind fun v9 => (fX9_done I8 v9).bind fun v10 => some (v10.1, v10.2)) x1 x2 0 v5 else some ((-2), I)) else some ((-1), I))
set_option maxRecDepth 100000 in
set_option maxHeartbeats 4000000 in
theorem lX9_walk_L29 {X : Cx} {n : Nat} {Ly : LL} {P : PP} {Po : PQ} {r : Int32 × II} (F : Fx X RX9 cX9_walk 4 9 0 0) (hs : ShM n Ly P) (hr : Fr X (some .int) Po 0 0) (post : Po (some (.inl r.1)) n Ly r.2 P) {x1 : Int32} {x2 : Int32} {ct : II → Option (Int32 × II)} (hct : ∀  (I : II), ct  I = some r → G X 4 0 0 n Ly 45 [some (.inr (some 134)), some (.inl x1), none, none] [] I P) : ∀ (k : Nat) (x3 : Int32) (I : II), fX9_walk_L29 k ct x1 x2 x3 I = some r → G X 4 0 0 n Ly 29 [some (.inr (some 134)), some (.inl x1), some (.inl x2), some (.inl x3)] [] I P := by
  intro k
  induction k with
  | zero =>
    intro x3 I h
    cases h
  | succ k ih =>
    intro x3 I h
    rw [fX9_walk_L29] at h
    refine s_iload_n F dX9_walk_29 rfl ?_
    refine s_iload_n F dX9_walk_30 rfl ?_
    refine s_icmp_ge (tgt := 45) F dX9_walk_31 (by decide) (fun c6 => ?_) (fun c6 => ?_)
    · have h := if_t c6 h
      exact G.weak (by exact ⟨rfl, ⟨rfl, trivial⟩⟩) (hct _ h)
    · have h := if_f c6 h
      refine s_aload_n F dX9_walk_34 rfl ?_
      refine s_iload_n F dX9_walk_35 rfl ?_
      obtain ⟨v7, hv7, h⟩ := bd_i h
      refine s_cV (ci := 9) F dX9_walk_36 (c_X9_step hs hv7) lkX9_130 okX9_step (by decide) (ly134 hs) (lt134 hs) rfl rfl (Nat.le_of_ble_eq_true rfl) (by decide) ?_
      refine s_inc (c := 1) F dX9_walk_39 rfl (by decide) (by decide) ?_
      refine s_goto (tgt := 29) F dX9_walk_42 (by decide) ?_
      exact G.weak (by exact ⟨rfl, ⟨rfl, ⟨rfl, ⟨rfl, trivial⟩⟩⟩⟩) (ih _ _ h)
set_option maxRecDepth 100000 in
set_option maxHeartbeats 4000000 in
theorem bX9_walk {X : Cx} {n : Nat} {Ly : LL} {I : II} {P : PP} {Po : PQ} {r : Int32 × II} (F : Fx X RX9 cX9_walk 4 9 0 0) (hs : ShM n Ly P) (hr : Fr X (some .int) Po 0 0) (post : Po (some (.inl r.1)) n Ly r.2 P) {x1 : Int32} {x2 : Int32} (h : fX9_walk I x1 x2 = some r) : G X 4 0 0 n Ly 0 [some (.inr (some 134)), some (.inl x1), some (.inl x2), none] [] I P := by
  unfold fX9_walk at h
  refine s_aload_n F dX9_walk_0 rfl ?_
  refine s_iload_n F dX9_walk_1 rfl ?_
  obtain ⟨v1, hv1, h⟩ := bd_i h
  refine s_cV (ci := 9) F dX9_walk_2 (c_X9_noWalker hs hv1) lkX9_95 okX9_noWalker (by decide) (ly134 hs) (lt134 hs) rfl rfl (Nat.le_of_ble_eq_true rfl) (by decide) ?_
  refine s_if_eq (tgt := 10) F dX9_walk_5 (by decide) (fun c2 => ?_) (fun c2 => ?_)
  · have h := if_t c2 h
    refine s_iload_n F dX9_walk_10 rfl ?_
    refine s_iconst (v := 1) F dX9_walk_11 (by decide) ?_
    refine s_bipush (v := 100) F dX9_walk_12 (by decide) ?_
    obtain ⟨v3, hv3, h⟩ := bd_i h
    refine s_cS F dX9_walk_14 (c_X9_in hs hv3) lkX9_58 okX9_in rfl (Nat.le_of_ble_eq_true rfl) (by decide) ?_
    refine s_if_ne (tgt := 23) F dX9_walk_17 (by decide) (fun c4 => ?_) (fun c4 => ?_)
    · have h := if_t c4 h
      refine s_aload_n F dX9_walk_23 rfl ?_
      obtain ⟨v5, hv5, h⟩ := bd_i h
      refine s_cV (ci := 9) F dX9_walk_24 (c_X9_begin hs hv5) lkX9_66 okX9_begin (by decide) (ly134 hs) (lt134 hs) rfl rfl (Nat.le_of_ble_eq_true rfl) (by decide) ?_
      refine s_iconst (v := 0) F dX9_walk_27 (by decide) ?_
      refine s_istore_n F dX9_walk_28 (by decide) ?_
      refine G.weak (by exact ⟨rfl, ⟨rfl, ⟨rfl, ⟨rfl, trivial⟩⟩⟩⟩) (lX9_walk_L29 F hs hr post (fun I8 h => ?_) 2000 _ _ h)
      refine s_aload_n F dX9_walk_45 rfl ?_
      refine s_aload_n F dX9_walk_46 rfl ?_
      refine s_iload_n F dX9_walk_47 rfl ?_
      refine s_iconst (v := 3) F dX9_walk_48 (by decide) ?_
      obtain ⟨v9, hv9, h⟩ := bd_i h
      refine s_cV (ci := 9) F dX9_walk_49 (c_X9_of hs hv9) lkX9_99 okX9_of (by decide) (ly134 hs) (lt134 hs) rfl rfl (Nat.le_of_ble_eq_true rfl) (by decide) ?_
      obtain ⟨v10, hv10, h⟩ := bd_i h
      refine s_cV (ci := 9) F dX9_walk_52 (c_X9_done hs hv10) lkX9_69 okX9_done (by decide) (ly134 hs) (lt134 hs) rfl rfl (Nat.le_of_ble_eq_true rfl) (by decide) ?_
      have h := Option.some.inj h
      subst h
      exact s_iret F hr dX9_walk_55 rfl (Nat.le_refl _) (Nat.le_refl _) post
    · have h := if_f (not_not_intro c4) h
      refine s_bipush (v := (-2)) F dX9_walk_20 (by decide) ?_
      have h := Option.some.inj h
      subst h
      exact s_iret F hr dX9_walk_22 rfl (Nat.le_refl _) (Nat.le_refl _) post
  · have h := if_f c2 h
    refine s_iconst (v := (-1)) F dX9_walk_8 (by decide) ?_
    have h := Option.some.inj h
    subst h
    exact s_iret F hr dX9_walk_9 rfl (Nat.le_refl _) (Nat.le_refl _) post
set_option maxRecDepth 100000 in
set_option maxHeartbeats 4000000 in
theorem c_X9_walk {n : Nat} {Ly : LL} {I : II} {P : PP} {r : Int32 × II} (hs : ShM n Ly P) {x1 : Int32} {x2 : Int32} (h : fX9_walk I x1 x2 = some r) (l : Launch) (s0 : Nat) (D : va_G) (DA : Nat → ClassId) : Ct l s0 D DA mX9_walk [.inr (some 134), .inl x1, .inl x2] 0 0 n Ly I P (PoD (some (.inl r.1)) n Ly r.2 P) := ct_of (by decide +kernel) (Nat.le_of_ble_eq_true rfl) (fun X F hr _ => bX9_walk F hs hr ⟨rfl, rfl, rfl, rfl, rfl⟩ h)
-- ChipPilersModel.rounds
def fX9_rounds_L31 : Nat → (II → Option (Int32 × II)) → Int32 → Int32 → II → Option (Int32 × II)
  | 0, _, _, _, _ => none
  | k + 1, ct, x1, x2, I => (if x1 ≤ x2 then ct I else (fX9_oneRound I).bind fun v6 => fX9_rounds_L31 k ct x1 (x2 + 1) v6)
def fX9_rounds (I : II) (x1 : Int32) : Option (Int32 × II) := (fX9_in x1 1 50).bind fun v1 => (if ¬ v1 = 0 then (if ¬ (I 135 2) = 0 then (fX9_begin I).bind fun v4 => fX9_rounds_L31 2000 (fun I7 => (fX9_findHeaps I7).bind fun v8 => (fX9_done v8 (v8 134 7)).bind fun v9 => some (v9.1, v9.2)) x1 0 v4 else some ((-5), I)) else some ((-2), I))
set_option maxRecDepth 100000 in
set_option maxHeartbeats 4000000 in
theorem lX9_rounds_L31 {X : Cx} {n : Nat} {Ly : LL} {P : PP} {Po : PQ} {r : Int32 × II} (F : Fx X RX9 cX9_rounds 3 10 0 0) (hs : ShM n Ly P) (hr : Fr X (some .int) Po 0 0) (post : Po (some (.inl r.1)) n Ly r.2 P) {x1 : Int32} {ct : II → Option (Int32 × II)} (hct : ∀  (I : II), ct  I = some r → G X 3 0 0 n Ly 46 [some (.inr (some 134)), none, none] [] I P) : ∀ (k : Nat) (x2 : Int32) (I : II), fX9_rounds_L31 k ct x1 x2 I = some r → G X 3 0 0 n Ly 31 [some (.inr (some 134)), some (.inl x1), some (.inl x2)] [] I P := by
  intro k
  induction k with
  | zero =>
    intro x2 I h
    cases h
  | succ k ih =>
    intro x2 I h
    rw [fX9_rounds_L31] at h
    refine s_iload_n F dX9_rounds_31 rfl ?_
    refine s_iload_n F dX9_rounds_32 rfl ?_
    refine s_icmp_ge (tgt := 46) F dX9_rounds_33 (by decide) (fun c5 => ?_) (fun c5 => ?_)
    · have h := if_t c5 h
      exact G.weak (by exact ⟨rfl, trivial⟩) (hct _ h)
    · have h := if_f c5 h
      refine s_aload_n F dX9_rounds_36 rfl ?_
      obtain ⟨v6, hv6, h⟩ := bd_i h
      refine s_cV (ci := 9) F dX9_rounds_37 (c_X9_oneRound hs hv6) lkX9_133 okX9_oneRound (by decide) (ly134 hs) (lt134 hs) rfl rfl (Nat.le_of_ble_eq_true rfl) (by decide) ?_
      refine s_inc (c := 1) F dX9_rounds_40 rfl (by decide) (by decide) ?_
      refine s_goto (tgt := 31) F dX9_rounds_43 (by decide) ?_
      exact G.weak (by exact ⟨rfl, ⟨rfl, ⟨rfl, trivial⟩⟩⟩) (ih _ _ h)
set_option maxRecDepth 100000 in
set_option maxHeartbeats 4000000 in
theorem bX9_rounds {X : Cx} {n : Nat} {Ly : LL} {I : II} {P : PP} {Po : PQ} {r : Int32 × II} (F : Fx X RX9 cX9_rounds 3 10 0 0) (hs : ShM n Ly P) (hr : Fr X (some .int) Po 0 0) (post : Po (some (.inl r.1)) n Ly r.2 P) {x1 : Int32} (h : fX9_rounds I x1 = some r) : G X 3 0 0 n Ly 0 [some (.inr (some 134)), some (.inl x1), none] [] I P := by
  unfold fX9_rounds at h
  refine s_iload_n F dX9_rounds_0 rfl ?_
  refine s_iconst (v := 1) F dX9_rounds_1 (by decide) ?_
  refine s_bipush (v := 50) F dX9_rounds_2 (by decide) ?_
  obtain ⟨v1, hv1, h⟩ := bd_i h
  refine s_cS F dX9_rounds_4 (c_X9_in hs hv1) lkX9_58 okX9_in rfl (Nat.le_of_ble_eq_true rfl) (by decide) ?_
  refine s_if_ne (tgt := 13) F dX9_rounds_7 (by decide) (fun c2 => ?_) (fun c2 => ?_)
  · have h := if_t c2 h
    refine s_aload_n F dX9_rounds_13 rfl ?_
    refine s_getR F dX9_rounds_14 flX9_7 (ly134 hs) (lt134 hs) rfl (p134_0 hs) ?_
    refine s_iconst (v := 2) F dX9_rounds_17 (by decide) ?_
    refine s_ialdK (j := 2) F dX9_rounds_18 (ly135 hs) (lt135 hs) (vp_lit 2 rfl) (by decide) ?_
    refine s_if_ne (tgt := 25) F dX9_rounds_19 (by decide) (fun c3 => ?_) (fun c3 => ?_)
    · have h := if_t c3 h
      refine s_aload_n F dX9_rounds_25 rfl ?_
      obtain ⟨v4, hv4, h⟩ := bd_i h
      refine s_cV (ci := 9) F dX9_rounds_26 (c_X9_begin hs hv4) lkX9_66 okX9_begin (by decide) (ly134 hs) (lt134 hs) rfl rfl (Nat.le_of_ble_eq_true rfl) (by decide) ?_
      refine s_iconst (v := 0) F dX9_rounds_29 (by decide) ?_
      refine s_istore_n F dX9_rounds_30 (by decide) ?_
      refine G.weak (by exact ⟨rfl, ⟨rfl, ⟨rfl, trivial⟩⟩⟩) (lX9_rounds_L31 F hs hr post (fun I7 h => ?_) 2000 _ _ h)
      refine s_aload_n F dX9_rounds_46 rfl ?_
      obtain ⟨v8, hv8, h⟩ := bd_i h
      refine s_cV (ci := 9) F dX9_rounds_47 (c_X9_findHeaps hs hv8) lkX9_115 okX9_findHeaps (by decide) (ly134 hs) (lt134 hs) rfl rfl (Nat.le_of_ble_eq_true rfl) (by decide) ?_
      refine s_aload_n F dX9_rounds_50 rfl ?_
      refine s_aload_n F dX9_rounds_51 rfl ?_
      refine s_getI F dX9_rounds_52 flX9_77 (ly134 hs) (lt134 hs) rfl ?_
      obtain ⟨v9, hv9, h⟩ := bd_i h
      refine s_cV (ci := 9) F dX9_rounds_55 (c_X9_done hs hv9) lkX9_69 okX9_done (by decide) (ly134 hs) (lt134 hs) rfl rfl (Nat.le_of_ble_eq_true rfl) (by decide) ?_
      have h := Option.some.inj h
      subst h
      exact s_iret F hr dX9_rounds_58 rfl (Nat.le_refl _) (Nat.le_refl _) post
    · have h := if_f (not_not_intro c3) h
      refine s_bipush (v := (-5)) F dX9_rounds_22 (by decide) ?_
      have h := Option.some.inj h
      subst h
      exact s_iret F hr dX9_rounds_24 rfl (Nat.le_refl _) (Nat.le_refl _) post
  · have h := if_f (not_not_intro c2) h
    refine s_bipush (v := (-2)) F dX9_rounds_10 (by decide) ?_
    have h := Option.some.inj h
    subst h
    exact s_iret F hr dX9_rounds_12 rfl (Nat.le_refl _) (Nat.le_refl _) post
set_option maxRecDepth 100000 in
set_option maxHeartbeats 4000000 in
theorem c_X9_rounds {n : Nat} {Ly : LL} {I : II} {P : PP} {r : Int32 × II} (hs : ShM n Ly P) {x1 : Int32} (h : fX9_rounds I x1 = some r) (l : Launch) (s0 : Nat) (D : va_G) (DA : Nat → ClassId) : Ct l s0 D DA mX9_rounds [.inr (some 134), .inl x1] 0 0 n Ly I P (PoD (some (.inl r.1)) n Ly r.2 P) := ct_of (by decide +kernel) (Nat.le_of_ble_eq_true rfl) (fun X F hr _ => bX9_rounds F hs hr ⟨rfl, rfl, rfl, rfl, rfl⟩ h)
-- ChipPilersModel.roundsUntil
def fX9_roundsUntil_L44 : Nat → (Int32 → II → Option (Int32 × II)) → Int32 → Int32 → II → Option (Int32 × II)
  | 0, _, _, _, _ => none
  | k + 1, ct, x1, x2, I => (if (I 134 7) ≤ x1 then ct x2 I else (if 200 ≤ x2 then ct x2 I else (fX9_oneRound I).bind fun v8 => (fX9_findHeaps v8).bind fun v9 => fX9_roundsUntil_L44 k ct x1 (x2 + 1) v9))
def fX9_roundsUntil (I : II) (x1 : Int32) : Option (Int32 × II) := (fX9_in x1 0 256).bind fun v1 => (if ¬ v1 = 0 then (fX9_findHeaps I).bind fun v3 => (if (v3 134 7) ≤ x1 then (fX9_begin v3).bind fun v5 => fX9_roundsUntil_L44 2000 (fun z10 I11 => (if x1 < (I11 134 7) then (fX9_goBack I11).bind fun v13 => some ((-5), v13) else (fX9_goBack I11).bind fun v14 => some (z10, v14))) x1 0 v5 else (if ¬ (v3 135 2) = 0 then (fX9_begin v3).bind fun v16 => fX9_roundsUntil_L44 2000 (fun z17 I18 => (if x1 < (I18 134 7) then (fX9_goBack I18).bind fun v20 => some ((-5), v20) else (fX9_goBack I18).bind fun v21 => some (z17, v21))) x1 0 v16 else some ((-5), v3))) else some ((-2), I))
set_option maxRecDepth 100000 in
set_option maxHeartbeats 4000000 in
theorem lX9_roundsUntil_L44 {X : Cx} {n : Nat} {Ly : LL} {P : PP} {Po : PQ} {r : Int32 × II} (F : Fx X RX9 cX9_roundsUntil 4 10 0 0) (hs : ShM n Ly P) (hr : Fr X (some .int) Po 0 0) (post : Po (some (.inl r.1)) n Ly r.2 P) {x1 : Int32} {ct : Int32 → II → Option (Int32 × II)} (hct : ∀ (x2 : Int32) (I : II), ct x2 I = some r → G X 4 0 0 n Ly 73 [some (.inr (some 134)), some (.inl x1), some (.inl x2), none] [] I P) : ∀ (k : Nat) (x2 : Int32) (I : II), fX9_roundsUntil_L44 k ct x1 x2 I = some r → G X 4 0 0 n Ly 44 [some (.inr (some 134)), some (.inl x1), some (.inl x2), none] [] I P := by
  intro k
  induction k with
  | zero =>
    intro x2 I h
    cases h
  | succ k ih =>
    intro x2 I h
    rw [fX9_roundsUntil_L44] at h
    refine s_aload_n F dX9_roundsUntil_44 rfl ?_
    refine s_getI F dX9_roundsUntil_45 flX9_77 (ly134 hs) (lt134 hs) rfl ?_
    refine s_iload_n F dX9_roundsUntil_48 rfl ?_
    refine s_icmp_le (tgt := 73) F dX9_roundsUntil_49 (by decide) (fun c6 => ?_) (fun c6 => ?_)
    · have h := if_t c6 h
      exact G.weak (by exact ⟨rfl, ⟨rfl, ⟨rfl, trivial⟩⟩⟩) (hct _ _ h)
    · have h := if_f c6 h
      refine s_iload_n F dX9_roundsUntil_52 rfl ?_
      refine s_sipush (v := 200) F dX9_roundsUntil_53 (by decide) ?_
      refine s_icmp_ge (tgt := 73) F dX9_roundsUntil_56 (by decide) (fun c7 => ?_) (fun c7 => ?_)
      · have h := if_t c7 h
        exact G.weak (by exact ⟨rfl, ⟨rfl, ⟨rfl, trivial⟩⟩⟩) (hct _ _ h)
      · have h := if_f c7 h
        refine s_aload_n F dX9_roundsUntil_59 rfl ?_
        obtain ⟨v8, hv8, h⟩ := bd_i h
        refine s_cV (ci := 9) F dX9_roundsUntil_60 (c_X9_oneRound hs hv8) lkX9_133 okX9_oneRound (by decide) (ly134 hs) (lt134 hs) rfl rfl (Nat.le_of_ble_eq_true rfl) (by decide) ?_
        refine s_aload_n F dX9_roundsUntil_63 rfl ?_
        obtain ⟨v9, hv9, h⟩ := bd_i h
        refine s_cV (ci := 9) F dX9_roundsUntil_64 (c_X9_findHeaps hs hv9) lkX9_115 okX9_findHeaps (by decide) (ly134 hs) (lt134 hs) rfl rfl (Nat.le_of_ble_eq_true rfl) (by decide) ?_
        refine s_inc (c := 1) F dX9_roundsUntil_67 rfl (by decide) (by decide) ?_
        refine s_goto (tgt := 44) F dX9_roundsUntil_70 (by decide) ?_
        exact G.weak (by exact ⟨rfl, ⟨rfl, ⟨rfl, trivial⟩⟩⟩) (ih _ _ h)
set_option maxRecDepth 100000 in
set_option maxHeartbeats 4000000 in
theorem bX9_roundsUntil {X : Cx} {n : Nat} {Ly : LL} {I : II} {P : PP} {Po : PQ} {r : Int32 × II} (F : Fx X RX9 cX9_roundsUntil 4 10 0 0) (hs : ShM n Ly P) (hr : Fr X (some .int) Po 0 0) (post : Po (some (.inl r.1)) n Ly r.2 P) {x1 : Int32} (h : fX9_roundsUntil I x1 = some r) : G X 4 0 0 n Ly 0 [some (.inr (some 134)), some (.inl x1), none, none] [] I P := by
  unfold fX9_roundsUntil at h
  refine s_iload_n F dX9_roundsUntil_0 rfl ?_
  refine s_iconst (v := 0) F dX9_roundsUntil_1 (by decide) ?_
  refine s_sipush (v := 256) F dX9_roundsUntil_2 (by decide) ?_
  obtain ⟨v1, hv1, h⟩ := bd_i h
  refine s_cS F dX9_roundsUntil_5 (c_X9_in hs hv1) lkX9_58 okX9_in rfl (Nat.le_of_ble_eq_true rfl) (by decide) ?_
  refine s_if_ne (tgt := 14) F dX9_roundsUntil_8 (by decide) (fun c2 => ?_) (fun c2 => ?_)
  · have h := if_t c2 h
    refine s_aload_n F dX9_roundsUntil_14 rfl ?_
    obtain ⟨v3, hv3, h⟩ := bd_i h
    refine s_cV (ci := 9) F dX9_roundsUntil_15 (c_X9_findHeaps hs hv3) lkX9_115 okX9_findHeaps (by decide) (ly134 hs) (lt134 hs) rfl rfl (Nat.le_of_ble_eq_true rfl) (by decide) ?_
    refine s_aload_n F dX9_roundsUntil_18 rfl ?_
    refine s_getI F dX9_roundsUntil_19 flX9_77 (ly134 hs) (lt134 hs) rfl ?_
    refine s_iload_n F dX9_roundsUntil_22 rfl ?_
    refine s_icmp_le (tgt := 38) F dX9_roundsUntil_23 (by decide) (fun c4 => ?_) (fun c4 => ?_)
    · have h := if_t c4 h
      refine s_aload_n F dX9_roundsUntil_38 rfl ?_
      obtain ⟨v5, hv5, h⟩ := bd_i h
      refine s_cV (ci := 9) F dX9_roundsUntil_39 (c_X9_begin hs hv5) lkX9_66 okX9_begin (by decide) (ly134 hs) (lt134 hs) rfl rfl (Nat.le_of_ble_eq_true rfl) (by decide) ?_
      refine s_iconst (v := 0) F dX9_roundsUntil_42 (by decide) ?_
      refine s_istore_n F dX9_roundsUntil_43 (by decide) ?_
      refine G.weak (by exact ⟨rfl, ⟨rfl, ⟨rfl, trivial⟩⟩⟩) (lX9_roundsUntil_L44 F hs hr post (fun z10 I11 h => ?_) 2000 _ _ h)
      refine s_aload_n F dX9_roundsUntil_73 rfl ?_
      refine s_getI F dX9_roundsUntil_74 flX9_77 (ly134 hs) (lt134 hs) rfl ?_
      refine s_iload_n F dX9_roundsUntil_77 rfl ?_
      refine s_icmp_gt (tgt := 85) F dX9_roundsUntil_78 (by decide) (fun c12 => ?_) (fun c12 => ?_)
      · have h := if_t c12 h
        refine s_iconst (v := 0) F dX9_roundsUntil_85 (by decide) ?_
        refine s_istore_n F dX9_roundsUntil_86 (by decide) ?_
        refine s_aload_n F dX9_roundsUntil_87 rfl ?_
        obtain ⟨v13, hv13, h⟩ := bd_i h
        refine s_cV (ci := 9) F dX9_roundsUntil_88 (c_X9_goBack hs hv13) lkX9_136 okX9_goBack (by decide) (ly134 hs) (lt134 hs) rfl rfl (Nat.le_of_ble_eq_true rfl) (by decide) ?_
        refine s_iload_n F dX9_roundsUntil_91 rfl ?_
        refine s_if_eq (tgt := 99) F dX9_roundsUntil_92 (by decide) (fun _ => ?_) (fun q => absurd (by decide) q)
        refine s_bipush (v := (-5)) F dX9_roundsUntil_99 (by decide) ?_
        have h := Option.some.inj h
        subst h
        exact s_iret F hr dX9_roundsUntil_101 rfl (Nat.le_refl _) (Nat.le_refl _) post
      · have h := if_f c12 h
        refine s_iconst (v := 1) F dX9_roundsUntil_81 (by decide) ?_
        refine s_goto (tgt := 86) F dX9_roundsUntil_82 (by decide) ?_
        refine s_istore_n F dX9_roundsUntil_86 (by decide) ?_
        refine s_aload_n F dX9_roundsUntil_87 rfl ?_
        obtain ⟨v14, hv14, h⟩ := bd_i h
        refine s_cV (ci := 9) F dX9_roundsUntil_88 (c_X9_goBack hs hv14) lkX9_136 okX9_goBack (by decide) (ly134 hs) (lt134 hs) rfl rfl (Nat.le_of_ble_eq_true rfl) (by decide) ?_
        refine s_iload_n F dX9_roundsUntil_91 rfl ?_
        refine s_if_eq (tgt := 99) F dX9_roundsUntil_92 (by decide) (fun q => absurd q (by decide)) (fun _ => ?_)
        refine s_iload_n F dX9_roundsUntil_95 rfl ?_
        refine s_goto (tgt := 101) F dX9_roundsUntil_96 (by decide) ?_
        have h := Option.some.inj h
        subst h
        exact s_iret F hr dX9_roundsUntil_101 rfl (Nat.le_refl _) (Nat.le_refl _) post
    · have h := if_f c4 h
      refine s_aload_n F dX9_roundsUntil_26 rfl ?_
      refine s_getR F dX9_roundsUntil_27 flX9_7 (ly134 hs) (lt134 hs) rfl (p134_0 hs) ?_
      refine s_iconst (v := 2) F dX9_roundsUntil_30 (by decide) ?_
      refine s_ialdK (j := 2) F dX9_roundsUntil_31 (ly135 hs) (lt135 hs) (vp_lit 2 rfl) (by decide) ?_
      refine s_if_ne (tgt := 38) F dX9_roundsUntil_32 (by decide) (fun c15 => ?_) (fun c15 => ?_)
      · have h := if_t c15 h
        refine s_aload_n F dX9_roundsUntil_38 rfl ?_
        obtain ⟨v16, hv16, h⟩ := bd_i h
        refine s_cV (ci := 9) F dX9_roundsUntil_39 (c_X9_begin hs hv16) lkX9_66 okX9_begin (by decide) (ly134 hs) (lt134 hs) rfl rfl (Nat.le_of_ble_eq_true rfl) (by decide) ?_
        refine s_iconst (v := 0) F dX9_roundsUntil_42 (by decide) ?_
        refine s_istore_n F dX9_roundsUntil_43 (by decide) ?_
        refine G.weak (by exact ⟨rfl, ⟨rfl, ⟨rfl, trivial⟩⟩⟩) (lX9_roundsUntil_L44 F hs hr post (fun z17 I18 h => ?_) 2000 _ _ h)
        refine s_aload_n F dX9_roundsUntil_73 rfl ?_
        refine s_getI F dX9_roundsUntil_74 flX9_77 (ly134 hs) (lt134 hs) rfl ?_
        refine s_iload_n F dX9_roundsUntil_77 rfl ?_
        refine s_icmp_gt (tgt := 85) F dX9_roundsUntil_78 (by decide) (fun c19 => ?_) (fun c19 => ?_)
        · have h := if_t c19 h
          refine s_iconst (v := 0) F dX9_roundsUntil_85 (by decide) ?_
          refine s_istore_n F dX9_roundsUntil_86 (by decide) ?_
          refine s_aload_n F dX9_roundsUntil_87 rfl ?_
          obtain ⟨v20, hv20, h⟩ := bd_i h
          refine s_cV (ci := 9) F dX9_roundsUntil_88 (c_X9_goBack hs hv20) lkX9_136 okX9_goBack (by decide) (ly134 hs) (lt134 hs) rfl rfl (Nat.le_of_ble_eq_true rfl) (by decide) ?_
          refine s_iload_n F dX9_roundsUntil_91 rfl ?_
          refine s_if_eq (tgt := 99) F dX9_roundsUntil_92 (by decide) (fun _ => ?_) (fun q => absurd (by decide) q)
          refine s_bipush (v := (-5)) F dX9_roundsUntil_99 (by decide) ?_
          have h := Option.some.inj h
          subst h
          exact s_iret F hr dX9_roundsUntil_101 rfl (Nat.le_refl _) (Nat.le_refl _) post
        · have h := if_f c19 h
          refine s_iconst (v := 1) F dX9_roundsUntil_81 (by decide) ?_
          refine s_goto (tgt := 86) F dX9_roundsUntil_82 (by decide) ?_
          refine s_istore_n F dX9_roundsUntil_86 (by decide) ?_
          refine s_aload_n F dX9_roundsUntil_87 rfl ?_
          obtain ⟨v21, hv21, h⟩ := bd_i h
          refine s_cV (ci := 9) F dX9_roundsUntil_88 (c_X9_goBack hs hv21) lkX9_136 okX9_goBack (by decide) (ly134 hs) (lt134 hs) rfl rfl (Nat.le_of_ble_eq_true rfl) (by decide) ?_
          refine s_iload_n F dX9_roundsUntil_91 rfl ?_
          refine s_if_eq (tgt := 99) F dX9_roundsUntil_92 (by decide) (fun q => absurd q (by decide)) (fun _ => ?_)
          refine s_iload_n F dX9_roundsUntil_95 rfl ?_
          refine s_goto (tgt := 101) F dX9_roundsUntil_96 (by decide) ?_
          have h := Option.some.inj h
          subst h
          exact s_iret F hr dX9_roundsUntil_101 rfl (Nat.le_refl _) (Nat.le_refl _) post
      · have h := if_f (not_not_intro c15) h
        refine s_bipush (v := (-5)) F dX9_roundsUntil_35 (by decide) ?_
        have h := Option.some.inj h
        subst h
        exact s_iret F hr dX9_roundsUntil_37 rfl (Nat.le_refl _) (Nat.le_refl _) post
  · have h := if_f (not_not_intro c2) h
    refine s_bipush (v := (-2)) F dX9_roundsUntil_11 (by decide) ?_
    have h := Option.some.inj h
    subst h
    exact s_iret F hr dX9_roundsUntil_13 rfl (Nat.le_refl _) (Nat.le_refl _) post
set_option maxRecDepth 100000 in
set_option maxHeartbeats 4000000 in
theorem c_X9_roundsUntil {n : Nat} {Ly : LL} {I : II} {P : PP} {r : Int32 × II} (hs : ShM n Ly P) {x1 : Int32} (h : fX9_roundsUntil I x1 = some r) (l : Launch) (s0 : Nat) (D : va_G) (DA : Nat → ClassId) : Ct l s0 D DA mX9_roundsUntil [.inr (some 134), .inl x1] 0 0 n Ly I P (PoD (some (.inl r.1)) n Ly r.2 P) := ct_of (by decide +kernel) (Nat.le_of_ble_eq_true rfl) (fun X F hr _ => bX9_roundsUntil F hs hr ⟨rfl, rfl, rfl, rfl, rfl⟩ h)
-- ChipPilersModel.type
def fX9_type (I : II) (x1 : Int32) : Option (Int32 × II) := (if ¬ (I 134 13) = 40 then ck (ix (I 134 13) 40) (ck (bC x1) ((some (up2 I 146 (I 134 13).toNatClampNeg x1)).bind fun I4 => (some (up2 I4 134 13 ((I4 134 13) + 1))).bind fun I5 => some ((I5 134 13), I5))) else some ((-3), I))
set_option maxRecDepth 100000 in
set_option maxHeartbeats 4000000 in
theorem bX9_type {X : Cx} {n : Nat} {Ly : LL} {I : II} {P : PP} {Po : PQ} {r : Int32 × II} (F : Fx X RX9 cX9_type 2 1 0 0) (hs : ShM n Ly P) (hr : Fr X (some .int) Po 0 0) (post : Po (some (.inl r.1)) n Ly r.2 P) {x1 : Int32} (h : fX9_type I x1 = some r) : G X 2 0 0 n Ly 0 [some (.inr (some 134)), some (.inl x1)] [] I P := by
  unfold fX9_type at h
  refine s_aload_n F dX9_type_0 rfl ?_
  refine s_getI F dX9_type_1 flX9_139 (ly134 hs) (lt134 hs) rfl ?_
  refine s_bipush (v := 40) F dX9_type_4 (by decide) ?_
  refine s_icmp_ne (tgt := 12) F dX9_type_6 (by decide) (fun c1 => ?_) (fun c1 => ?_)
  · have h := if_t c1 h
    refine s_aload_n F dX9_type_12 rfl ?_
    refine s_getR F dX9_type_13 flX9_44 (ly134 hs) (lt134 hs) rfl (p134_14 hs) ?_
    refine s_aload_n F dX9_type_16 rfl ?_
    refine s_getI F dX9_type_17 flX9_139 (ly134 hs) (lt134 hs) rfl ?_
    refine s_iload_n F dX9_type_20 rfl ?_
    obtain ⟨hc2, h⟩ := ck_s h
    obtain ⟨hc3, h⟩ := ck_s h
    have h := bd_s h
    refine s_cast F dX9_type_21 (ly146 hs) (lt146 hs) (ix_s hc2) (bC_s hc3).1 ?_
    refine s_aload_n F dX9_type_22 rfl ?_
    refine s_dup F dX9_type_23 ?_
    refine s_getI F dX9_type_24 flX9_139 (ly134 hs) (lt134 hs) rfl ?_
    refine s_iconst (v := 1) F dX9_type_27 (by decide) ?_
    refine s_iadd F dX9_type_28 ?_
    have h := bd_s h
    refine s_putI F dX9_type_29 flX9_139 (ly134 hs) (lt134 hs) rfl rfl ⟨rfl, rfl⟩ ?_
    refine s_aload_n F dX9_type_32 rfl ?_
    refine s_getI F dX9_type_33 flX9_139 (ly134 hs) (lt134 hs) rfl ?_
    have h := Option.some.inj h
    subst h
    exact s_iret F hr dX9_type_36 rfl (Nat.le_refl _) (Nat.le_refl _) post
  · have h := if_f (not_not_intro c1) h
    refine s_bipush (v := (-3)) F dX9_type_9 (by decide) ?_
    have h := Option.some.inj h
    subst h
    exact s_iret F hr dX9_type_11 rfl (Nat.le_refl _) (Nat.le_refl _) post
set_option maxRecDepth 100000 in
set_option maxHeartbeats 4000000 in
theorem c_X9_type {n : Nat} {Ly : LL} {I : II} {P : PP} {r : Int32 × II} (hs : ShM n Ly P) {x1 : Int32} (h : fX9_type I x1 = some r) (l : Launch) (s0 : Nat) (D : va_G) (DA : Nat → ClassId) : Ct l s0 D DA mX9_type [.inr (some 134), .inl x1] 0 0 n Ly I P (PoD (some (.inl r.1)) n Ly r.2 P) := ct_of (by decide +kernel) (Nat.le_of_ble_eq_true rfl) (fun X F hr _ => bX9_type F hs hr ⟨rfl, rfl, rfl, rfl, rfl⟩ h)
-- ChipPilersModel.clearText
def fX9_clearText (I : II) : Option (Int32 × II) := (some (up2 I 134 13 0)).bind fun I1 => some ((I 134 13), I1)
set_option maxRecDepth 100000 in
set_option maxHeartbeats 4000000 in
theorem bX9_clearText {X : Cx} {n : Nat} {Ly : LL} {I : II} {P : PP} {Po : PQ} {r : Int32 × II} (F : Fx X RX9 cX9_clearText 2 1 0 0) (hs : ShM n Ly P) (hr : Fr X (some .int) Po 0 0) (post : Po (some (.inl r.1)) n Ly r.2 P)  (h : fX9_clearText I = some r) : G X 2 0 0 n Ly 0 [some (.inr (some 134)), none] [] I P := by
  unfold fX9_clearText at h
  refine s_aload_n F dX9_clearText_0 rfl ?_
  refine s_getI F dX9_clearText_1 flX9_139 (ly134 hs) (lt134 hs) rfl ?_
  refine s_istore_n F dX9_clearText_4 (by decide) ?_
  refine s_aload_n F dX9_clearText_5 rfl ?_
  refine s_iconst (v := 0) F dX9_clearText_6 (by decide) ?_
  have h := bd_s h
  refine s_putI F dX9_clearText_7 flX9_139 (ly134 hs) (lt134 hs) rfl rfl ⟨rfl, rfl⟩ ?_
  refine s_iload_n F dX9_clearText_10 rfl ?_
  have h := Option.some.inj h
  subst h
  exact s_iret F hr dX9_clearText_11 rfl (Nat.le_refl _) (Nat.le_refl _) post
set_option maxRecDepth 100000 in
set_option maxHeartbeats 4000000 in
theorem c_X9_clearText {n : Nat} {Ly : LL} {I : II} {P : PP} {r : Int32 × II} (hs : ShM n Ly P)  (h : fX9_clearText I = some r) (l : Launch) (s0 : Nat) (D : va_G) (DA : Nat → ClassId) : Ct l s0 D DA mX9_clearText [.inr (some 134)] 0 0 n Ly I P (PoD (some (.inl r.1)) n Ly r.2 P) := ct_of (by decide +kernel) (Nat.le_of_ble_eq_true rfl) (fun X F hr _ => bX9_clearText F hs hr ⟨rfl, rfl, rfl, rfl, rfl⟩ h)
-- ChipPilersModel.directionOf
def fX9_directionOf (x0 : Int32) : Option (Int32) := (if ¬ x0 = 110 then (if ¬ x0 = 101 then (if ¬ x0 = 115 then (if ¬ x0 = 119 then some (-5) else some 3) else some 2) else some 1) else some 0)
set_option maxRecDepth 100000 in
set_option maxHeartbeats 4000000 in
theorem bX9_directionOf {X : Cx} {n : Nat} {Ly : LL} {I : II} {P : PP} {Po : PQ} {r : Int32} (F : Fx X RX9 cX9_directionOf 1 1 0 0) (hs : ShM n Ly P) (hr : Fr X (some .int) Po 0 0) (post : Po (some (.inl r)) n Ly I P) {x0 : Int32} (h : fX9_directionOf x0 = some r) : G X 1 0 0 n Ly 0 [some (.inl x0)] [] I P := by
  unfold fX9_directionOf at h
  refine s_iload_n F dX9_directionOf_0 rfl ?_
  refine s_bipush (v := 110) F dX9_directionOf_1 (by decide) ?_
  refine s_icmp_ne (tgt := 10) F dX9_directionOf_3 (by decide) (fun c1 => ?_) (fun c1 => ?_)
  · have h := if_t c1 h
    refine s_iload_n F dX9_directionOf_10 rfl ?_
    refine s_bipush (v := 101) F dX9_directionOf_11 (by decide) ?_
    refine s_icmp_ne (tgt := 20) F dX9_directionOf_13 (by decide) (fun c2 => ?_) (fun c2 => ?_)
    · have h := if_t c2 h
      refine s_iload_n F dX9_directionOf_20 rfl ?_
      refine s_bipush (v := 115) F dX9_directionOf_21 (by decide) ?_
      refine s_icmp_ne (tgt := 30) F dX9_directionOf_23 (by decide) (fun c3 => ?_) (fun c3 => ?_)
      · have h := if_t c3 h
        refine s_iload_n F dX9_directionOf_30 rfl ?_
        refine s_bipush (v := 119) F dX9_directionOf_31 (by decide) ?_
        refine s_icmp_ne (tgt := 40) F dX9_directionOf_33 (by decide) (fun c4 => ?_) (fun c4 => ?_)
        · have h := if_t c4 h
          refine s_bipush (v := (-5)) F dX9_directionOf_40 (by decide) ?_
          have h := Option.some.inj h
          subst h
          exact s_iret F hr dX9_directionOf_42 rfl (Nat.le_refl _) (Nat.le_refl _) post
        · have h := if_f (not_not_intro c4) h
          refine s_iconst (v := 3) F dX9_directionOf_36 (by decide) ?_
          refine s_goto (tgt := 42) F dX9_directionOf_37 (by decide) ?_
          have h := Option.some.inj h
          subst h
          exact s_iret F hr dX9_directionOf_42 rfl (Nat.le_refl _) (Nat.le_refl _) post
      · have h := if_f (not_not_intro c3) h
        refine s_iconst (v := 2) F dX9_directionOf_26 (by decide) ?_
        refine s_goto (tgt := 42) F dX9_directionOf_27 (by decide) ?_
        have h := Option.some.inj h
        subst h
        exact s_iret F hr dX9_directionOf_42 rfl (Nat.le_refl _) (Nat.le_refl _) post
    · have h := if_f (not_not_intro c2) h
      refine s_iconst (v := 1) F dX9_directionOf_16 (by decide) ?_
      refine s_goto (tgt := 42) F dX9_directionOf_17 (by decide) ?_
      have h := Option.some.inj h
      subst h
      exact s_iret F hr dX9_directionOf_42 rfl (Nat.le_refl _) (Nat.le_refl _) post
  · have h := if_f (not_not_intro c1) h
    refine s_iconst (v := 0) F dX9_directionOf_6 (by decide) ?_
    refine s_goto (tgt := 42) F dX9_directionOf_7 (by decide) ?_
    have h := Option.some.inj h
    subst h
    exact s_iret F hr dX9_directionOf_42 rfl (Nat.le_refl _) (Nat.le_refl _) post
set_option maxRecDepth 100000 in
set_option maxHeartbeats 4000000 in
theorem c_X9_directionOf {n : Nat} {Ly : LL} {I : II} {P : PP} {r : Int32} (hs : ShM n Ly P) {x0 : Int32} (h : fX9_directionOf x0 = some r) (l : Launch) (s0 : Nat) (D : va_G) (DA : Nat → ClassId) : Ct l s0 D DA mX9_directionOf [.inl x0] 0 0 n Ly I P (PoD (some (.inl r)) n Ly I P) := ct_of (by decide +kernel) (Nat.le_of_ble_eq_true rfl) (fun X F hr _ => bX9_directionOf F hs hr ⟨rfl, rfl, rfl, rfl, rfl⟩ h)
-- ChipPilersModel.isLetter
def fX9_isLetter (I : II) (x1 : Int32) : Option (Int32) := (if x1 = 114 then some 1 else (if x1 = 35 then some 1 else (if (I 135 2) ≤ 0 then some 0 else (fX9_directionOf x1).bind fun v4 => (if 0 ≤ v4 then some 1 else (if x1 = 103 then some 1 else (if ¬ x1 = 100 then some 0 else some 1))))))
set_option maxRecDepth 100000 in
set_option maxHeartbeats 4000000 in
theorem bX9_isLetter {X : Cx} {n : Nat} {Ly : LL} {I : II} {P : PP} {Po : PQ} {r : Int32} (F : Fx X RX9 cX9_isLetter 2 2 0 0) (hs : ShM n Ly P) (hr : Fr X (some .boolean) Po 0 0) (post : Po (some (.inl r)) n Ly I P) {x1 : Int32} (h : fX9_isLetter I x1 = some r) : G X 2 0 0 n Ly 0 [some (.inr (some 134)), some (.inl x1)] [] I P := by
  unfold fX9_isLetter at h
  refine s_iload_n F dX9_isLetter_0 rfl ?_
  refine s_bipush (v := 114) F dX9_isLetter_1 (by decide) ?_
  refine s_icmp_eq (tgt := 40) F dX9_isLetter_3 (by decide) (fun c1 => ?_) (fun c1 => ?_)
  · have h := if_t c1 h
    refine s_iconst (v := 1) F dX9_isLetter_40 (by decide) ?_
    refine s_goto (tgt := 45) F dX9_isLetter_41 (by decide) ?_
    have h := Option.some.inj h
    subst h
    exact s_iret F hr dX9_isLetter_45 rfl (Nat.le_refl _) (Nat.le_refl _) post
  · have h := if_f c1 h
    refine s_iload_n F dX9_isLetter_6 rfl ?_
    refine s_bipush (v := 35) F dX9_isLetter_7 (by decide) ?_
    refine s_icmp_eq (tgt := 40) F dX9_isLetter_9 (by decide) (fun c2 => ?_) (fun c2 => ?_)
    · have h := if_t c2 h
      refine s_iconst (v := 1) F dX9_isLetter_40 (by decide) ?_
      refine s_goto (tgt := 45) F dX9_isLetter_41 (by decide) ?_
      have h := Option.some.inj h
      subst h
      exact s_iret F hr dX9_isLetter_45 rfl (Nat.le_refl _) (Nat.le_refl _) post
    · have h := if_f c2 h
      refine s_aload_n F dX9_isLetter_12 rfl ?_
      refine s_getR F dX9_isLetter_13 flX9_7 (ly134 hs) (lt134 hs) rfl (p134_0 hs) ?_
      refine s_iconst (v := 2) F dX9_isLetter_16 (by decide) ?_
      refine s_ialdK (j := 2) F dX9_isLetter_17 (ly135 hs) (lt135 hs) (vp_lit 2 rfl) (by decide) ?_
      refine s_if_le (tgt := 44) F dX9_isLetter_18 (by decide) (fun c3 => ?_) (fun c3 => ?_)
      · have h := if_t c3 h
        refine s_iconst (v := 0) F dX9_isLetter_44 (by decide) ?_
        have h := Option.some.inj h
        subst h
        exact s_iret F hr dX9_isLetter_45 rfl (Nat.le_refl _) (Nat.le_refl _) post
      · have h := if_f c3 h
        refine s_iload_n F dX9_isLetter_21 rfl ?_
        obtain ⟨v4, hv4, h⟩ := bd_i h
        refine s_cS F dX9_isLetter_22 (c_X9_directionOf hs hv4) lkX9_142 okX9_directionOf rfl (Nat.le_of_ble_eq_true rfl) (by decide) ?_
        refine s_if_ge (tgt := 40) F dX9_isLetter_25 (by decide) (fun c5 => ?_) (fun c5 => ?_)
        · have h := if_t c5 h
          refine s_iconst (v := 1) F dX9_isLetter_40 (by decide) ?_
          refine s_goto (tgt := 45) F dX9_isLetter_41 (by decide) ?_
          have h := Option.some.inj h
          subst h
          exact s_iret F hr dX9_isLetter_45 rfl (Nat.le_refl _) (Nat.le_refl _) post
        · have h := if_f c5 h
          refine s_iload_n F dX9_isLetter_28 rfl ?_
          refine s_bipush (v := 103) F dX9_isLetter_29 (by decide) ?_
          refine s_icmp_eq (tgt := 40) F dX9_isLetter_31 (by decide) (fun c6 => ?_) (fun c6 => ?_)
          · have h := if_t c6 h
            refine s_iconst (v := 1) F dX9_isLetter_40 (by decide) ?_
            refine s_goto (tgt := 45) F dX9_isLetter_41 (by decide) ?_
            have h := Option.some.inj h
            subst h
            exact s_iret F hr dX9_isLetter_45 rfl (Nat.le_refl _) (Nat.le_refl _) post
          · have h := if_f c6 h
            refine s_iload_n F dX9_isLetter_34 rfl ?_
            refine s_bipush (v := 100) F dX9_isLetter_35 (by decide) ?_
            refine s_icmp_ne (tgt := 44) F dX9_isLetter_37 (by decide) (fun c7 => ?_) (fun c7 => ?_)
            · have h := if_t c7 h
              refine s_iconst (v := 0) F dX9_isLetter_44 (by decide) ?_
              have h := Option.some.inj h
              subst h
              exact s_iret F hr dX9_isLetter_45 rfl (Nat.le_refl _) (Nat.le_refl _) post
            · have h := if_f (not_not_intro c7) h
              refine s_iconst (v := 1) F dX9_isLetter_40 (by decide) ?_
              refine s_goto (tgt := 45) F dX9_isLetter_41 (by decide) ?_
              have h := Option.some.inj h
              subst h
              exact s_iret F hr dX9_isLetter_45 rfl (Nat.le_refl _) (Nat.le_refl _) post
set_option maxRecDepth 100000 in
set_option maxHeartbeats 4000000 in
theorem c_X9_isLetter {n : Nat} {Ly : LL} {I : II} {P : PP} {r : Int32} (hs : ShM n Ly P) {x1 : Int32} (h : fX9_isLetter I x1 = some r) (l : Launch) (s0 : Nat) (D : va_G) (DA : Nat → ClassId) : Ct l s0 D DA mX9_isLetter [.inr (some 134), .inl x1] 0 0 n Ly I P (PoD (some (.inl r)) n Ly I P) := ct_of (by decide +kernel) (Nat.le_of_ble_eq_true rfl) (fun X F hr _ => bX9_isLetter F hs hr ⟨rfl, rfl, rfl, rfl, rfl⟩ h)
-- ChipPilersModel.isDigit
def fX9_isDigit (I : II) (x1 : Int32) : Option (Int32) := (if (I 134 13) ≤ x1 then some 0 else ck (ix x1 40) ((if (I 146 x1.toNatClampNeg) < 48 then some 0 else ck (ix x1 40) ((if 57 < (I 146 x1.toNatClampNeg) then some 0 else some 1)))))
set_option maxRecDepth 100000 in
set_option maxHeartbeats 4000000 in
theorem bX9_isDigit {X : Cx} {n : Nat} {Ly : LL} {I : II} {P : PP} {Po : PQ} {r : Int32} (F : Fx X RX9 cX9_isDigit 2 1 0 0) (hs : ShM n Ly P) (hr : Fr X (some .boolean) Po 0 0) (post : Po (some (.inl r)) n Ly I P) {x1 : Int32} (h : fX9_isDigit I x1 = some r) : G X 2 0 0 n Ly 0 [some (.inr (some 134)), some (.inl x1)] [] I P := by
  unfold fX9_isDigit at h
  refine s_iload_n F dX9_isDigit_0 rfl ?_
  refine s_aload_n F dX9_isDigit_1 rfl ?_
  refine s_getI F dX9_isDigit_2 flX9_139 (ly134 hs) (lt134 hs) rfl ?_
  refine s_icmp_ge (tgt := 34) F dX9_isDigit_5 (by decide) (fun c1 => ?_) (fun c1 => ?_)
  · have h := if_t c1 h
    refine s_iconst (v := 0) F dX9_isDigit_34 (by decide) ?_
    have h := Option.some.inj h
    subst h
    exact s_iret F hr dX9_isDigit_35 rfl (Nat.le_refl _) (Nat.le_refl _) post
  · have h := if_f c1 h
    refine s_aload_n F dX9_isDigit_8 rfl ?_
    refine s_getR F dX9_isDigit_9 flX9_44 (ly134 hs) (lt134 hs) rfl (p134_14 hs) ?_
    refine s_iload_n F dX9_isDigit_12 rfl ?_
    obtain ⟨hc2, h⟩ := ck_s h
    refine s_cald F dX9_isDigit_13 (ly146 hs) (lt146 hs) (ix_s hc2) ?_
    refine s_bipush (v := 48) F dX9_isDigit_14 (by decide) ?_
    refine s_icmp_lt (tgt := 34) F dX9_isDigit_16 (by decide) (fun c3 => ?_) (fun c3 => ?_)
    · have h := if_t c3 h
      refine s_iconst (v := 0) F dX9_isDigit_34 (by decide) ?_
      have h := Option.some.inj h
      subst h
      exact s_iret F hr dX9_isDigit_35 rfl (Nat.le_refl _) (Nat.le_refl _) post
    · have h := if_f c3 h
      refine s_aload_n F dX9_isDigit_19 rfl ?_
      refine s_getR F dX9_isDigit_20 flX9_44 (ly134 hs) (lt134 hs) rfl (p134_14 hs) ?_
      refine s_iload_n F dX9_isDigit_23 rfl ?_
      obtain ⟨hc4, h⟩ := ck_s h
      refine s_cald F dX9_isDigit_24 (ly146 hs) (lt146 hs) (ix_s hc4) ?_
      refine s_bipush (v := 57) F dX9_isDigit_25 (by decide) ?_
      refine s_icmp_gt (tgt := 34) F dX9_isDigit_27 (by decide) (fun c5 => ?_) (fun c5 => ?_)
      · have h := if_t c5 h
        refine s_iconst (v := 0) F dX9_isDigit_34 (by decide) ?_
        have h := Option.some.inj h
        subst h
        exact s_iret F hr dX9_isDigit_35 rfl (Nat.le_refl _) (Nat.le_refl _) post
      · have h := if_f c5 h
        refine s_iconst (v := 1) F dX9_isDigit_30 (by decide) ?_
        refine s_goto (tgt := 35) F dX9_isDigit_31 (by decide) ?_
        have h := Option.some.inj h
        subst h
        exact s_iret F hr dX9_isDigit_35 rfl (Nat.le_refl _) (Nat.le_refl _) post
set_option maxRecDepth 100000 in
set_option maxHeartbeats 4000000 in
theorem c_X9_isDigit {n : Nat} {Ly : LL} {I : II} {P : PP} {r : Int32} (hs : ShM n Ly P) {x1 : Int32} (h : fX9_isDigit I x1 = some r) (l : Launch) (s0 : Nat) (D : va_G) (DA : Nat → ClassId) : Ct l s0 D DA mX9_isDigit [.inr (some 134), .inl x1] 0 0 n Ly I P (PoD (some (.inl r)) n Ly I P) := ct_of (by decide +kernel) (Nat.le_of_ble_eq_true rfl) (fun X F hr _ => bX9_isDigit F hs hr ⟨rfl, rfl, rfl, rfl, rfl⟩ h)
-- ChipPilersModel.readPlan
def fX9_readPlan_J19 (bk : Int32 → II → Option (Int32 × II)) (ct : II → Option (Int32 × II)) (I : II) (x1 : Int32) : Option (Int32 × II) := (if x1 = (I 134 13) then some (x1, I) else ck (ix x1 40) ((fX9_isLetter I (I 146 x1.toNatClampNeg)).bind fun v5 => (if ¬ v5 = 0 then ck (ix x1 40) (ck (ix (I 134 15) 40) (ck (bC (I 146 x1.toNatClampNeg)) ((some (up2 I 147 (I 134 15).toNatClampNeg (I 146 x1.toNatClampNeg))).bind fun I10 => ck (ix (I10 134 15) 40) ((some (up2 I10 148 (I10 134 15).toNatClampNeg 1)).bind fun I12 => ck (ix ((x1 + 1) - 1) 40) ((if ¬ (I12 146 ((x1 + 1) - 1).toNatClampNeg) = 35 then (fX9_isDigit I12 (x1 + 1)).bind fun v15 => (if v15 = 0 then (some (up2 I12 134 15 ((I12 134 15) + 1))).bind fun I17 => bk (x1 + 1) I17 else ck (ix (x1 + 1) 40) ((if ¬ (I12 146 (x1 + 1).toNatClampNeg) = 48 then ck (ix (x1 + 1) 40) (ck (ix (I12 134 15) 40) ((some (up2 I12 148 (I12 134 15).toNatClampNeg ((I12 146 (x1 + 1).toNatClampNeg) - 48))).bind fun I22 => (fX9_isDigit I22 ((x1 + 1) + 1)).bind fun v23 => (if v23 = 0 then (some (up2 I22 134 15 ((I22 134 15) + 1))).bind fun I25 => bk ((x1 + 1) + 1) I25 else ck (ix (I22 134 15) 40) (ck (ix ((x1 + 1) + 1) 40) (ck (ix (I22 134 15) 40) ((some (up2 I22 148 (I22 134 15).toNatClampNeg (((10 * (I22 148 (I22 134 15).toNatClampNeg)) + (I22 146 ((x1 + 1) + 1).toNatClampNeg)) - 48))).bind fun I29 => ck (ix (I29 134 15) 40) ((if (I29 148 (I29 134 15).toNatClampNeg) ≤ 50 then (some (up2 I29 134 15 ((I29 134 15) + 1))).bind fun I32 => bk (((x1 + 1) + 1) + 1) I32 else some (((x1 + 1) + 1), I29))))))))) else some ((x1 + 1), I12)))) else (fX9_isDigit I12 (x1 + 1)).bind fun v33 => (if v33 = 0 then some ((x1 + 1), I12) else ck (ix (x1 + 1) 40) ((if ((I12 146 (x1 + 1).toNatClampNeg) - 48) < (I12 135 2) then ck (ix (x1 + 1) 40) (ck (ix (I12 134 15) 40) ((some (up2 I12 148 (I12 134 15).toNatClampNeg ((I12 146 (x1 + 1).toNatClampNeg) - 48))).bind fun I39 => (some (up2 I39 134 15 ((I39 134 15) + 1))).bind fun I40 => bk ((x1 + 1) + 1) I40)) else some ((x1 + 1), I12)))))))))) else some (x1, I))))
def fX9_readPlan_L7 : Nat → (II → Option (Int32 × II)) → Int32 → II → Option (Int32 × II)
  | 0, _, _, _ => none
  | k + 1, ct, x1, I => (if x1 < (I 134 13) then fX9_readPlan_J19 (fX9_readPlan_L7 k ct) ct I x1 else (if ¬ x1 = 0 then ct I else fX9_readPlan_J19 (fX9_readPlan_L7 k ct) ct I x1))
def fX9_readPlan (I : II) : Option (Int32 × II) := (some (up2 I 134 15 0)).bind fun I1 => fX9_readPlan_L7 2000 (fun I42 => some ((-5), I42)) 0 I1
set_option maxRecDepth 100000 in
set_option maxHeartbeats 4000000 in
theorem lX9_readPlan_J19 {X : Cx} {n : Nat} {Ly : LL} {I : II} {P : PP} {Po : PQ} {r : Int32 × II} (F : Fx X RX9 cX9_readPlan 2 3 0 0) (hs : ShM n Ly P) (hr : Fr X (some .int) Po 0 0) (post : Po (some (.inl r.1)) n Ly r.2 P) {x1 : Int32} {bk : Int32 → II → Option (Int32 × II)} {ct : II → Option (Int32 × II)} (hbk : ∀ (y1 : Int32) (I : II), bk y1 I = some r → G X 2 0 0 n Ly 7 [some (.inr (some 134)), some (.inl y1)] [] I P) (hct : ∀  (I : II), ct  I = some r → G X 2 0 0 n Ly 248 [none, none] [] I P) (h : fX9_readPlan_J19 bk ct I x1 = some r) : G X 2 0 0 n Ly 19 [some (.inr (some 134)), some (.inl x1)] [] I P := by
  unfold fX9_readPlan_J19 at h
  refine s_iload_n F dX9_readPlan_19 rfl ?_
  refine s_aload_n F dX9_readPlan_20 rfl ?_
  refine s_getI F dX9_readPlan_21 flX9_139 (ly134 hs) (lt134 hs) rfl ?_
  refine s_icmp_eq (tgt := 40) F dX9_readPlan_24 (by decide) (fun c3 => ?_) (fun c3 => ?_)
  · have h := if_t c3 h
    refine s_iload_n F dX9_readPlan_40 rfl ?_
    have h := Option.some.inj h
    subst h
    exact s_iret F hr dX9_readPlan_41 rfl (Nat.le_refl _) (Nat.le_refl _) post
  · have h := if_f c3 h
    refine s_aload_n F dX9_readPlan_27 rfl ?_
    refine s_aload_n F dX9_readPlan_28 rfl ?_
    refine s_getR F dX9_readPlan_29 flX9_44 (ly134 hs) (lt134 hs) rfl (p134_14 hs) ?_
    refine s_iload_n F dX9_readPlan_32 rfl ?_
    obtain ⟨hc4, h⟩ := ck_s h
    refine s_cald F dX9_readPlan_33 (ly146 hs) (lt146 hs) (ix_s hc4) ?_
    obtain ⟨v5, hv5, h⟩ := bd_i h
    refine s_cV (ci := 9) F dX9_readPlan_34 (c_X9_isLetter hs hv5) lkX9_149 okX9_isLetter (by decide) (ly134 hs) (lt134 hs) rfl rfl (Nat.le_of_ble_eq_true rfl) (by decide) ?_
    refine s_if_ne (tgt := 42) F dX9_readPlan_37 (by decide) (fun c6 => ?_) (fun c6 => ?_)
    · have h := if_t c6 h
      refine s_aload_n F dX9_readPlan_42 rfl ?_
      refine s_getR F dX9_readPlan_43 flX9_48 (ly134 hs) (lt134 hs) rfl (p134_16 hs) ?_
      refine s_aload_n F dX9_readPlan_46 rfl ?_
      refine s_getI F dX9_readPlan_47 flX9_146 (ly134 hs) (lt134 hs) rfl ?_
      refine s_aload_n F dX9_readPlan_50 rfl ?_
      refine s_getR F dX9_readPlan_51 flX9_44 (ly134 hs) (lt134 hs) rfl (p134_14 hs) ?_
      refine s_iload_n F dX9_readPlan_54 rfl ?_
      obtain ⟨hc7, h⟩ := ck_s h
      refine s_cald F dX9_readPlan_55 (ly146 hs) (lt146 hs) (ix_s hc7) ?_
      obtain ⟨hc8, h⟩ := ck_s h
      obtain ⟨hc9, h⟩ := ck_s h
      have h := bd_s h
      refine s_cast F dX9_readPlan_56 (ly147 hs) (lt147 hs) (ix_s hc8) (bC_s hc9).1 ?_
      refine s_aload_n F dX9_readPlan_57 rfl ?_
      refine s_getR F dX9_readPlan_58 flX9_51 (ly134 hs) (lt134 hs) rfl (p134_17 hs) ?_
      refine s_aload_n F dX9_readPlan_61 rfl ?_
      refine s_getI F dX9_readPlan_62 flX9_146 (ly134 hs) (lt134 hs) rfl ?_
      refine s_iconst (v := 1) F dX9_readPlan_65 (by decide) ?_
      obtain ⟨hc11, h⟩ := ck_s h
      have h := bd_s h
      refine s_iast F dX9_readPlan_66 (ly148 hs) (lt148 hs) (ix_s hc11) ?_
      refine s_inc (c := 1) F dX9_readPlan_67 rfl (by decide) (by decide) ?_
      refine s_aload_n F dX9_readPlan_70 rfl ?_
      refine s_getR F dX9_readPlan_71 flX9_44 (ly134 hs) (lt134 hs) rfl (p134_14 hs) ?_
      refine s_iload_n F dX9_readPlan_74 rfl ?_
      refine s_iconst (v := 1) F dX9_readPlan_75 (by decide) ?_
      refine s_isub F dX9_readPlan_76 ?_
      obtain ⟨hc13, h⟩ := ck_s h
      refine s_cald F dX9_readPlan_77 (ly146 hs) (lt146 hs) (ix_s hc13) ?_
      refine s_bipush (v := 35) F dX9_readPlan_78 (by decide) ?_
      refine s_icmp_ne (tgt := 135) F dX9_readPlan_80 (by decide) (fun c14 => ?_) (fun c14 => ?_)
      · have h := if_t c14 h
        refine s_aload_n F dX9_readPlan_135 rfl ?_
        refine s_iload_n F dX9_readPlan_136 rfl ?_
        obtain ⟨v15, hv15, h⟩ := bd_i h
        refine s_cV (ci := 9) F dX9_readPlan_137 (c_X9_isDigit hs hv15) lkX9_153 okX9_isDigit (by decide) (ly134 hs) (lt134 hs) rfl rfl (Nat.le_of_ble_eq_true rfl) (by decide) ?_
        refine s_if_eq (tgt := 235) F dX9_readPlan_140 (by decide) (fun c16 => ?_) (fun c16 => ?_)
        · have h := if_t c16 h
          refine s_aload_n F dX9_readPlan_235 rfl ?_
          refine s_dup F dX9_readPlan_236 ?_
          refine s_getI F dX9_readPlan_237 flX9_146 (ly134 hs) (lt134 hs) rfl ?_
          refine s_iconst (v := 1) F dX9_readPlan_240 (by decide) ?_
          refine s_iadd F dX9_readPlan_241 ?_
          have h := bd_s h
          refine s_putI F dX9_readPlan_242 flX9_146 (ly134 hs) (lt134 hs) rfl rfl ⟨rfl, rfl⟩ ?_
          refine s_goto (tgt := 7) F dX9_readPlan_245 (by decide) ?_
          exact G.weak (by exact ⟨rfl, ⟨rfl, trivial⟩⟩) (hbk _ _ h)
        · have h := if_f c16 h
          refine s_aload_n F dX9_readPlan_143 rfl ?_
          refine s_getR F dX9_readPlan_144 flX9_44 (ly134 hs) (lt134 hs) rfl (p134_14 hs) ?_
          refine s_iload_n F dX9_readPlan_147 rfl ?_
          obtain ⟨hc18, h⟩ := ck_s h
          refine s_cald F dX9_readPlan_148 (ly146 hs) (lt146 hs) (ix_s hc18) ?_
          refine s_bipush (v := 48) F dX9_readPlan_149 (by decide) ?_
          refine s_icmp_ne (tgt := 156) F dX9_readPlan_151 (by decide) (fun c19 => ?_) (fun c19 => ?_)
          · have h := if_t c19 h
            refine s_aload_n F dX9_readPlan_156 rfl ?_
            refine s_getR F dX9_readPlan_157 flX9_51 (ly134 hs) (lt134 hs) rfl (p134_17 hs) ?_
            refine s_aload_n F dX9_readPlan_160 rfl ?_
            refine s_getI F dX9_readPlan_161 flX9_146 (ly134 hs) (lt134 hs) rfl ?_
            refine s_aload_n F dX9_readPlan_164 rfl ?_
            refine s_getR F dX9_readPlan_165 flX9_44 (ly134 hs) (lt134 hs) rfl (p134_14 hs) ?_
            refine s_iload_n F dX9_readPlan_168 rfl ?_
            obtain ⟨hc20, h⟩ := ck_s h
            refine s_cald F dX9_readPlan_169 (ly146 hs) (lt146 hs) (ix_s hc20) ?_
            refine s_bipush (v := 48) F dX9_readPlan_170 (by decide) ?_
            refine s_isub F dX9_readPlan_172 ?_
            obtain ⟨hc21, h⟩ := ck_s h
            have h := bd_s h
            refine s_iast F dX9_readPlan_173 (ly148 hs) (lt148 hs) (ix_s hc21) ?_
            refine s_inc (c := 1) F dX9_readPlan_174 rfl (by decide) (by decide) ?_
            refine s_aload_n F dX9_readPlan_177 rfl ?_
            refine s_iload_n F dX9_readPlan_178 rfl ?_
            obtain ⟨v23, hv23, h⟩ := bd_i h
            refine s_cV (ci := 9) F dX9_readPlan_179 (c_X9_isDigit hs hv23) lkX9_153 okX9_isDigit (by decide) (ly134 hs) (lt134 hs) rfl rfl (Nat.le_of_ble_eq_true rfl) (by decide) ?_
            refine s_if_eq (tgt := 235) F dX9_readPlan_182 (by decide) (fun c24 => ?_) (fun c24 => ?_)
            · have h := if_t c24 h
              refine s_aload_n F dX9_readPlan_235 rfl ?_
              refine s_dup F dX9_readPlan_236 ?_
              refine s_getI F dX9_readPlan_237 flX9_146 (ly134 hs) (lt134 hs) rfl ?_
              refine s_iconst (v := 1) F dX9_readPlan_240 (by decide) ?_
              refine s_iadd F dX9_readPlan_241 ?_
              have h := bd_s h
              refine s_putI F dX9_readPlan_242 flX9_146 (ly134 hs) (lt134 hs) rfl rfl ⟨rfl, rfl⟩ ?_
              refine s_goto (tgt := 7) F dX9_readPlan_245 (by decide) ?_
              exact G.weak (by exact ⟨rfl, ⟨rfl, trivial⟩⟩) (hbk _ _ h)
            · have h := if_f c24 h
              refine s_aload_n F dX9_readPlan_185 rfl ?_
              refine s_getR F dX9_readPlan_186 flX9_51 (ly134 hs) (lt134 hs) rfl (p134_17 hs) ?_
              refine s_aload_n F dX9_readPlan_189 rfl ?_
              refine s_getI F dX9_readPlan_190 flX9_146 (ly134 hs) (lt134 hs) rfl ?_
              refine s_bipush (v := 10) F dX9_readPlan_193 (by decide) ?_
              refine s_aload_n F dX9_readPlan_195 rfl ?_
              refine s_getR F dX9_readPlan_196 flX9_51 (ly134 hs) (lt134 hs) rfl (p134_17 hs) ?_
              refine s_aload_n F dX9_readPlan_199 rfl ?_
              refine s_getI F dX9_readPlan_200 flX9_146 (ly134 hs) (lt134 hs) rfl ?_
              obtain ⟨hc26, h⟩ := ck_s h
              refine s_iald F dX9_readPlan_203 (ly148 hs) (lt148 hs) (ix_s hc26) ?_
              refine s_imul F dX9_readPlan_204 ?_
              refine s_aload_n F dX9_readPlan_205 rfl ?_
              refine s_getR F dX9_readPlan_206 flX9_44 (ly134 hs) (lt134 hs) rfl (p134_14 hs) ?_
              refine s_iload_n F dX9_readPlan_209 rfl ?_
              obtain ⟨hc27, h⟩ := ck_s h
              refine s_cald F dX9_readPlan_210 (ly146 hs) (lt146 hs) (ix_s hc27) ?_
              refine s_iadd F dX9_readPlan_211 ?_
              refine s_bipush (v := 48) F dX9_readPlan_212 (by decide) ?_
              refine s_isub F dX9_readPlan_214 ?_
              obtain ⟨hc28, h⟩ := ck_s h
              have h := bd_s h
              refine s_iast F dX9_readPlan_215 (ly148 hs) (lt148 hs) (ix_s hc28) ?_
              refine s_aload_n F dX9_readPlan_216 rfl ?_
              refine s_getR F dX9_readPlan_217 flX9_51 (ly134 hs) (lt134 hs) rfl (p134_17 hs) ?_
              refine s_aload_n F dX9_readPlan_220 rfl ?_
              refine s_getI F dX9_readPlan_221 flX9_146 (ly134 hs) (lt134 hs) rfl ?_
              obtain ⟨hc30, h⟩ := ck_s h
              refine s_iald F dX9_readPlan_224 (ly148 hs) (lt148 hs) (ix_s hc30) ?_
              refine s_bipush (v := 50) F dX9_readPlan_225 (by decide) ?_
              refine s_icmp_le (tgt := 232) F dX9_readPlan_227 (by decide) (fun c31 => ?_) (fun c31 => ?_)
              · have h := if_t c31 h
                refine s_inc (c := 1) F dX9_readPlan_232 rfl (by decide) (by decide) ?_
                refine s_aload_n F dX9_readPlan_235 rfl ?_
                refine s_dup F dX9_readPlan_236 ?_
                refine s_getI F dX9_readPlan_237 flX9_146 (ly134 hs) (lt134 hs) rfl ?_
                refine s_iconst (v := 1) F dX9_readPlan_240 (by decide) ?_
                refine s_iadd F dX9_readPlan_241 ?_
                have h := bd_s h
                refine s_putI F dX9_readPlan_242 flX9_146 (ly134 hs) (lt134 hs) rfl rfl ⟨rfl, rfl⟩ ?_
                refine s_goto (tgt := 7) F dX9_readPlan_245 (by decide) ?_
                exact G.weak (by exact ⟨rfl, ⟨rfl, trivial⟩⟩) (hbk _ _ h)
              · have h := if_f c31 h
                refine s_iload_n F dX9_readPlan_230 rfl ?_
                have h := Option.some.inj h
                subst h
                exact s_iret F hr dX9_readPlan_231 rfl (Nat.le_refl _) (Nat.le_refl _) post
          · have h := if_f (not_not_intro c19) h
            refine s_iload_n F dX9_readPlan_154 rfl ?_
            have h := Option.some.inj h
            subst h
            exact s_iret F hr dX9_readPlan_155 rfl (Nat.le_refl _) (Nat.le_refl _) post
      · have h := if_f (not_not_intro c14) h
        refine s_aload_n F dX9_readPlan_83 rfl ?_
        refine s_iload_n F dX9_readPlan_84 rfl ?_
        obtain ⟨v33, hv33, h⟩ := bd_i h
        refine s_cV (ci := 9) F dX9_readPlan_85 (c_X9_isDigit hs hv33) lkX9_153 okX9_isDigit (by decide) (ly134 hs) (lt134 hs) rfl rfl (Nat.le_of_ble_eq_true rfl) (by decide) ?_
        refine s_if_eq (tgt := 109) F dX9_readPlan_88 (by decide) (fun c34 => ?_) (fun c34 => ?_)
        · have h := if_t c34 h
          refine s_iload_n F dX9_readPlan_109 rfl ?_
          have h := Option.some.inj h
          subst h
          exact s_iret F hr dX9_readPlan_110 rfl (Nat.le_refl _) (Nat.le_refl _) post
        · have h := if_f c34 h
          refine s_aload_n F dX9_readPlan_91 rfl ?_
          refine s_getR F dX9_readPlan_92 flX9_44 (ly134 hs) (lt134 hs) rfl (p134_14 hs) ?_
          refine s_iload_n F dX9_readPlan_95 rfl ?_
          obtain ⟨hc35, h⟩ := ck_s h
          refine s_cald F dX9_readPlan_96 (ly146 hs) (lt146 hs) (ix_s hc35) ?_
          refine s_bipush (v := 48) F dX9_readPlan_97 (by decide) ?_
          refine s_isub F dX9_readPlan_99 ?_
          refine s_aload_n F dX9_readPlan_100 rfl ?_
          refine s_getR F dX9_readPlan_101 flX9_7 (ly134 hs) (lt134 hs) rfl (p134_0 hs) ?_
          refine s_iconst (v := 2) F dX9_readPlan_104 (by decide) ?_
          refine s_ialdK (j := 2) F dX9_readPlan_105 (ly135 hs) (lt135 hs) (vp_lit 2 rfl) (by decide) ?_
          refine s_icmp_lt (tgt := 111) F dX9_readPlan_106 (by decide) (fun c36 => ?_) (fun c36 => ?_)
          · have h := if_t c36 h
            refine s_aload_n F dX9_readPlan_111 rfl ?_
            refine s_getR F dX9_readPlan_112 flX9_51 (ly134 hs) (lt134 hs) rfl (p134_17 hs) ?_
            refine s_aload_n F dX9_readPlan_115 rfl ?_
            refine s_getI F dX9_readPlan_116 flX9_146 (ly134 hs) (lt134 hs) rfl ?_
            refine s_aload_n F dX9_readPlan_119 rfl ?_
            refine s_getR F dX9_readPlan_120 flX9_44 (ly134 hs) (lt134 hs) rfl (p134_14 hs) ?_
            refine s_iload_n F dX9_readPlan_123 rfl ?_
            obtain ⟨hc37, h⟩ := ck_s h
            refine s_cald F dX9_readPlan_124 (ly146 hs) (lt146 hs) (ix_s hc37) ?_
            refine s_bipush (v := 48) F dX9_readPlan_125 (by decide) ?_
            refine s_isub F dX9_readPlan_127 ?_
            obtain ⟨hc38, h⟩ := ck_s h
            have h := bd_s h
            refine s_iast F dX9_readPlan_128 (ly148 hs) (lt148 hs) (ix_s hc38) ?_
            refine s_inc (c := 1) F dX9_readPlan_129 rfl (by decide) (by decide) ?_
            refine s_goto (tgt := 235) F dX9_readPlan_132 (by decide) ?_
            refine s_aload_n F dX9_readPlan_235 rfl ?_
            refine s_dup F dX9_readPlan_236 ?_
            refine s_getI F dX9_readPlan_237 flX9_146 (ly134 hs) (lt134 hs) rfl ?_
            refine s_iconst (v := 1) F dX9_readPlan_240 (by decide) ?_
            refine s_iadd F dX9_readPlan_241 ?_
            have h := bd_s h
            refine s_putI F dX9_readPlan_242 flX9_146 (ly134 hs) (lt134 hs) rfl rfl ⟨rfl, rfl⟩ ?_
            refine s_goto (tgt := 7) F dX9_readPlan_245 (by decide) ?_
            exact G.weak (by exact ⟨rfl, ⟨rfl, trivial⟩⟩) (hbk _ _ h)
          · have h := if_f c36 h
            refine s_iload_n F dX9_readPlan_109 rfl ?_
            have h := Option.some.inj h
            subst h
            exact s_iret F hr dX9_readPlan_110 rfl (Nat.le_refl _) (Nat.le_refl _) post
    · have h := if_f (not_not_intro c6) h
      refine s_iload_n F dX9_readPlan_40 rfl ?_
      have h := Option.some.inj h
      subst h
      exact s_iret F hr dX9_readPlan_41 rfl (Nat.le_refl _) (Nat.le_refl _) post
set_option maxRecDepth 100000 in
set_option maxHeartbeats 4000000 in
theorem lX9_readPlan_L7 {X : Cx} {n : Nat} {Ly : LL} {P : PP} {Po : PQ} {r : Int32 × II} (F : Fx X RX9 cX9_readPlan 2 3 0 0) (hs : ShM n Ly P) (hr : Fr X (some .int) Po 0 0) (post : Po (some (.inl r.1)) n Ly r.2 P)  {ct : II → Option (Int32 × II)} (hct : ∀  (I : II), ct  I = some r → G X 2 0 0 n Ly 248 [none, none] [] I P) : ∀ (k : Nat) (x1 : Int32) (I : II), fX9_readPlan_L7 k ct x1 I = some r → G X 2 0 0 n Ly 7 [some (.inr (some 134)), some (.inl x1)] [] I P := by
  intro k
  induction k with
  | zero =>
    intro x1 I h
    cases h
  | succ k ih =>
    intro x1 I h
    rw [fX9_readPlan_L7] at h
    refine s_iload_n F dX9_readPlan_7 rfl ?_
    refine s_aload_n F dX9_readPlan_8 rfl ?_
    refine s_getI F dX9_readPlan_9 flX9_139 (ly134 hs) (lt134 hs) rfl ?_
    refine s_icmp_lt (tgt := 19) F dX9_readPlan_12 (by decide) (fun c2 => ?_) (fun c2 => ?_)
    · have h := if_t c2 h
      exact G.weak (by exact ⟨rfl, ⟨rfl, trivial⟩⟩) (lX9_readPlan_J19 F hs hr post (fun y0 y1 h => ih y0 y1 h) hct h)
    · have h := if_f c2 h
      refine s_iload_n F dX9_readPlan_15 rfl ?_
      refine s_if_ne (tgt := 248) F dX9_readPlan_16 (by decide) (fun c41 => ?_) (fun c41 => ?_)
      · have h := if_t c41 h
        exact G.weak (by exact trivial) (hct _ h)
      · have h := if_f (not_not_intro c41) h
        exact G.weak (by exact ⟨rfl, ⟨rfl, trivial⟩⟩) (lX9_readPlan_J19 F hs hr post (fun y0 y1 h => ih y0 y1 h) hct h)
set_option maxRecDepth 100000 in
set_option maxHeartbeats 4000000 in
theorem bX9_readPlan {X : Cx} {n : Nat} {Ly : LL} {I : II} {P : PP} {Po : PQ} {r : Int32 × II} (F : Fx X RX9 cX9_readPlan 2 3 0 0) (hs : ShM n Ly P) (hr : Fr X (some .int) Po 0 0) (post : Po (some (.inl r.1)) n Ly r.2 P)  (h : fX9_readPlan I = some r) : G X 2 0 0 n Ly 0 [some (.inr (some 134)), none] [] I P := by
  unfold fX9_readPlan at h
  refine s_aload_n F dX9_readPlan_0 rfl ?_
  refine s_iconst (v := 0) F dX9_readPlan_1 (by decide) ?_
  have h := bd_s h
  refine s_putI F dX9_readPlan_2 flX9_146 (ly134 hs) (lt134 hs) rfl rfl ⟨rfl, rfl⟩ ?_
  refine s_iconst (v := 0) F dX9_readPlan_5 (by decide) ?_
  refine s_istore_n F dX9_readPlan_6 (by decide) ?_
  refine G.weak (by exact ⟨rfl, ⟨rfl, trivial⟩⟩) (lX9_readPlan_L7 F hs hr post (fun I42 h => ?_) 2000 _ _ h)
  refine s_bipush (v := (-5)) F dX9_readPlan_248 (by decide) ?_
  have h := Option.some.inj h
  subst h
  exact s_iret F hr dX9_readPlan_250 rfl (Nat.le_refl _) (Nat.le_refl _) post
set_option maxRecDepth 100000 in
set_option maxHeartbeats 4000000 in
theorem c_X9_readPlan {n : Nat} {Ly : LL} {I : II} {P : PP} {r : Int32 × II} (hs : ShM n Ly P)  (h : fX9_readPlan I = some r) (l : Launch) (s0 : Nat) (D : va_G) (DA : Nat → ClassId) : Ct l s0 D DA mX9_readPlan [.inr (some 134)] 0 0 n Ly I P (PoD (some (.inl r.1)) n Ly r.2 P) := ct_of (by decide +kernel) (Nat.le_of_ble_eq_true rfl) (fun X F hr _ => bX9_readPlan F hs hr ⟨rfl, rfl, rfl, rfl, rfl⟩ h)
-- ChipPilersModel.carryOut
def fX9_carryOut_L42 : Nat → (II → Option (II)) → Int32 → Int32 → Int32 → Int32 → II → Option (II)
  | 0, _, _, _, _, _, _ => none
  | k + 1, ct, x1, x3, x4, x5, I => (if x3 ≤ x5 then ct I else (fX9_cellOf I x1).bind fun v19 => (fX9_stepped I v19 x4).bind fun v20 => (if v20 < 0 then ct I else (fX9_lay I x1 2 x4).bind fun v22 => (fX9_goAhead v22 x1).bind fun v23 => fX9_carryOut_L42 k ct x1 x3 x4 (x5 + 1) v23))
def fX9_carryOut_L15 : Nat → (II → Option (II)) → Int32 → Int32 → II → Option (II)
  | 0, _, _, _, _ => none
  | k + 1, ct, x3, x5, I => (if x3 ≤ x5 then ct I else (fX9_oneRound I).bind fun v26 => fX9_carryOut_L15 k ct x3 (x5 + 1) v26)
def fX9_carryOut (I : II) (x1 : Int32) (x2 : Int32) (x3 : Int32) : Option (II) := (fX9_directionOf x2).bind fun v1 => (if ¬ x2 = 114 then (if v1 < 0 then (if ¬ x2 = 103 then (fX9_of I x1 3).bind fun v5 => (fX9_cellOf I x1).bind fun v6 => ck (ix (9 + v6) 367) ((fX9_lesser v5 (99 - (I 135 (9 + v6).toNatClampNeg))).bind fun v8 => (fX9_lesser x3 v8).bind fun v9 => (fX9_drop I x1 v9).bind fun v10 => some v10) else (fX9_cellOf I x1).bind fun v11 => ck (ix (9 + v11) 367) ((fX9_of I x1 4).bind fun v13 => (fX9_of I x1 3).bind fun v14 => (fX9_lesser (I 135 (9 + v11).toNatClampNeg) (v13 - v14)).bind fun v15 => (fX9_lesser x3 v15).bind fun v16 => (fX9_pick I x1 v16).bind fun v17 => some v17)) else fX9_carryOut_L42 2000 (fun I24 => some I24) x1 x3 v1 0 I) else fX9_carryOut_L15 2000 (fun I27 => some I27) x3 0 I)
set_option maxRecDepth 100000 in
set_option maxHeartbeats 4000000 in
theorem lX9_carryOut_L42 {X : Cx} {n : Nat} {Ly : LL} {P : PP} {Po : PQ} {r : II} (F : Fx X RX9 cX9_carryOut 6 10 0 0) (hs : ShM n Ly P) (hr : Fr X none Po 0 0) (post : Po none n Ly r P) {x1 : Int32} {x3 : Int32} {x4 : Int32} {ct : II → Option (II)} (hct : ∀  (I : II), ct  I = some r → G X 6 0 0 n Ly 81 [none, none, none, none, none, none] [] I P) : ∀ (k : Nat) (x5 : Int32) (I : II), fX9_carryOut_L42 k ct x1 x3 x4 x5 I = some r → G X 6 0 0 n Ly 42 [some (.inr (some 134)), some (.inl x1), none, some (.inl x3), some (.inl x4), some (.inl x5)] [] I P := by
  intro k
  induction k with
  | zero =>
    intro x5 I h
    cases h
  | succ k ih =>
    intro x5 I h
    rw [fX9_carryOut_L42] at h
    refine s_iload F dX9_carryOut_42 rfl ?_
    refine s_iload_n F dX9_carryOut_44 rfl ?_
    refine s_icmp_ge (tgt := 81) F dX9_carryOut_45 (by decide) (fun c18 => ?_) (fun c18 => ?_)
    · have h := if_t c18 h
      exact G.weak (by exact trivial) (hct _ h)
    · have h := if_f c18 h
      refine s_aload_n F dX9_carryOut_48 rfl ?_
      refine s_aload_n F dX9_carryOut_49 rfl ?_
      refine s_iload_n F dX9_carryOut_50 rfl ?_
      obtain ⟨v19, hv19, h⟩ := bd_i h
      refine s_cV (ci := 9) F dX9_carryOut_51 (c_X9_cellOf hs hv19) lkX9_102 okX9_cellOf (by decide) (ly134 hs) (lt134 hs) rfl rfl (Nat.le_of_ble_eq_true rfl) (by decide) ?_
      refine s_iload F dX9_carryOut_54 rfl ?_
      obtain ⟨v20, hv20, h⟩ := bd_i h
      refine s_cV (ci := 9) F dX9_carryOut_56 (c_X9_stepped hs hv20) lkX9_80 okX9_stepped (by decide) (ly134 hs) (lt134 hs) rfl rfl (Nat.le_of_ble_eq_true rfl) (by decide) ?_
      refine s_if_lt (tgt := 81) F dX9_carryOut_59 (by decide) (fun c21 => ?_) (fun c21 => ?_)
      · have h := if_t c21 h
        exact G.weak (by exact trivial) (hct _ h)
      · have h := if_f c21 h
        refine s_aload_n F dX9_carryOut_62 rfl ?_
        refine s_iload_n F dX9_carryOut_63 rfl ?_
        refine s_iconst (v := 2) F dX9_carryOut_64 (by decide) ?_
        refine s_iload F dX9_carryOut_65 rfl ?_
        obtain ⟨v22, hv22, h⟩ := bd_i h
        refine s_cV (ci := 9) F dX9_carryOut_67 (c_X9_lay hs hv22) lkX9_91 okX9_lay (by decide) (ly134 hs) (lt134 hs) rfl rfl (Nat.le_of_ble_eq_true rfl) (by decide) ?_
        refine s_aload_n F dX9_carryOut_70 rfl ?_
        refine s_iload_n F dX9_carryOut_71 rfl ?_
        obtain ⟨v23, hv23, h⟩ := bd_i h
        refine s_cV (ci := 9) F dX9_carryOut_72 (c_X9_goAhead hs hv23) lkX9_127 okX9_goAhead (by decide) (ly134 hs) (lt134 hs) rfl rfl (Nat.le_of_ble_eq_true rfl) (by decide) ?_
        refine s_inc (c := 1) F dX9_carryOut_75 rfl (by decide) (by decide) ?_
        refine s_goto (tgt := 42) F dX9_carryOut_78 (by decide) ?_
        exact G.weak (by exact ⟨rfl, ⟨rfl, ⟨rfl, ⟨rfl, ⟨rfl, trivial⟩⟩⟩⟩⟩) (ih _ _ h)
set_option maxRecDepth 100000 in
set_option maxHeartbeats 4000000 in
theorem lX9_carryOut_L15 {X : Cx} {n : Nat} {Ly : LL} {P : PP} {Po : PQ} {r : II} (F : Fx X RX9 cX9_carryOut 6 10 0 0) (hs : ShM n Ly P) (hr : Fr X none Po 0 0) (post : Po none n Ly r P) {x3 : Int32} {ct : II → Option (II)} (hct : ∀  (I : II), ct  I = some r → G X 6 0 0 n Ly 31 [none, none, none, none, none, none] [] I P) : ∀ (k : Nat) (x5 : Int32) (I : II), fX9_carryOut_L15 k ct x3 x5 I = some r → G X 6 0 0 n Ly 15 [some (.inr (some 134)), none, none, some (.inl x3), none, some (.inl x5)] [] I P := by
  intro k
  induction k with
  | zero =>
    intro x5 I h
    cases h
  | succ k ih =>
    intro x5 I h
    rw [fX9_carryOut_L15] at h
    refine s_iload F dX9_carryOut_15 rfl ?_
    refine s_iload_n F dX9_carryOut_17 rfl ?_
    refine s_icmp_ge (tgt := 31) F dX9_carryOut_18 (by decide) (fun c25 => ?_) (fun c25 => ?_)
    · have h := if_t c25 h
      exact G.weak (by exact trivial) (hct _ h)
    · have h := if_f c25 h
      refine s_aload_n F dX9_carryOut_21 rfl ?_
      obtain ⟨v26, hv26, h⟩ := bd_i h
      refine s_cV (ci := 9) F dX9_carryOut_22 (c_X9_oneRound hs hv26) lkX9_133 okX9_oneRound (by decide) (ly134 hs) (lt134 hs) rfl rfl (Nat.le_of_ble_eq_true rfl) (by decide) ?_
      refine s_inc (c := 1) F dX9_carryOut_25 rfl (by decide) (by decide) ?_
      refine s_goto (tgt := 15) F dX9_carryOut_28 (by decide) ?_
      exact G.weak (by exact ⟨rfl, ⟨rfl, ⟨rfl, trivial⟩⟩⟩) (ih _ _ h)
set_option maxRecDepth 100000 in
set_option maxHeartbeats 4000000 in
theorem bX9_carryOut {X : Cx} {n : Nat} {Ly : LL} {I : II} {P : PP} {Po : PQ} {r : II} (F : Fx X RX9 cX9_carryOut 6 10 0 0) (hs : ShM n Ly P) (hr : Fr X none Po 0 0) (post : Po none n Ly r P) {x1 : Int32} {x2 : Int32} {x3 : Int32} (h : fX9_carryOut I x1 x2 x3 = some r) : G X 6 0 0 n Ly 0 [some (.inr (some 134)), some (.inl x1), some (.inl x2), some (.inl x3), none, none] [] I P := by
  unfold fX9_carryOut at h
  refine s_iload_n F dX9_carryOut_0 rfl ?_
  obtain ⟨v1, hv1, h⟩ := bd_i h
  refine s_cS F dX9_carryOut_1 (c_X9_directionOf hs hv1) lkX9_142 okX9_directionOf rfl (Nat.le_of_ble_eq_true rfl) (by decide) ?_
  refine s_istore F dX9_carryOut_4 (by decide) ?_
  refine s_iload_n F dX9_carryOut_6 rfl ?_
  refine s_bipush (v := 114) F dX9_carryOut_7 (by decide) ?_
  refine s_icmp_ne (tgt := 34) F dX9_carryOut_9 (by decide) (fun c2 => ?_) (fun c2 => ?_)
  · have h := if_t c2 h
    refine s_iload F dX9_carryOut_34 rfl ?_
    refine s_if_lt (tgt := 84) F dX9_carryOut_36 (by decide) (fun c3 => ?_) (fun c3 => ?_)
    · have h := if_t c3 h
      refine s_iload_n F dX9_carryOut_84 rfl ?_
      refine s_bipush (v := 103) F dX9_carryOut_85 (by decide) ?_
      refine s_icmp_ne (tgt := 131) F dX9_carryOut_87 (by decide) (fun c4 => ?_) (fun c4 => ?_)
      · have h := if_t c4 h
        refine s_aload_n F dX9_carryOut_131 rfl ?_
        refine s_iload_n F dX9_carryOut_132 rfl ?_
        refine s_iload_n F dX9_carryOut_133 rfl ?_
        refine s_aload_n F dX9_carryOut_134 rfl ?_
        refine s_iload_n F dX9_carryOut_135 rfl ?_
        refine s_iconst (v := 3) F dX9_carryOut_136 (by decide) ?_
        obtain ⟨v5, hv5, h⟩ := bd_i h
        refine s_cV (ci := 9) F dX9_carryOut_137 (c_X9_of hs hv5) lkX9_99 okX9_of (by decide) (ly134 hs) (lt134 hs) rfl rfl (Nat.le_of_ble_eq_true rfl) (by decide) ?_
        refine s_bipush (v := 99) F dX9_carryOut_140 (by decide) ?_
        refine s_aload_n F dX9_carryOut_142 rfl ?_
        refine s_getR F dX9_carryOut_143 flX9_7 (ly134 hs) (lt134 hs) rfl (p134_0 hs) ?_
        refine s_bipush (v := 9) F dX9_carryOut_146 (by decide) ?_
        refine s_aload_n F dX9_carryOut_148 rfl ?_
        refine s_iload_n F dX9_carryOut_149 rfl ?_
        obtain ⟨v6, hv6, h⟩ := bd_i h
        refine s_cV (ci := 9) F dX9_carryOut_150 (c_X9_cellOf hs hv6) lkX9_102 okX9_cellOf (by decide) (ly134 hs) (lt134 hs) rfl rfl (Nat.le_of_ble_eq_true rfl) (by decide) ?_
        refine s_iadd F dX9_carryOut_153 ?_
        obtain ⟨hc7, h⟩ := ck_s h
        refine s_iald F dX9_carryOut_154 (ly135 hs) (lt135 hs) (ix_s hc7) ?_
        refine s_isub F dX9_carryOut_155 ?_
        obtain ⟨v8, hv8, h⟩ := bd_i h
        refine s_cS F dX9_carryOut_156 (c_X9_lesser hs hv8) lkX9_112 okX9_lesser rfl (Nat.le_of_ble_eq_true rfl) (by decide) ?_
        obtain ⟨v9, hv9, h⟩ := bd_i h
        refine s_cS F dX9_carryOut_159 (c_X9_lesser hs hv9) lkX9_112 okX9_lesser rfl (Nat.le_of_ble_eq_true rfl) (by decide) ?_
        obtain ⟨v10, hv10, h⟩ := bd_i h
        refine s_cV (ci := 9) F dX9_carryOut_162 (c_X9_drop hs hv10) lkX9_105 okX9_drop (by decide) (ly134 hs) (lt134 hs) rfl rfl (Nat.le_of_ble_eq_true rfl) (by decide) ?_
        have h := Option.some.inj h
        subst h
        exact s_vret F hr dX9_carryOut_165 (Nat.le_refl _) (Nat.le_refl _) post
      · have h := if_f (not_not_intro c4) h
        refine s_aload_n F dX9_carryOut_90 rfl ?_
        refine s_iload_n F dX9_carryOut_91 rfl ?_
        refine s_iload_n F dX9_carryOut_92 rfl ?_
        refine s_aload_n F dX9_carryOut_93 rfl ?_
        refine s_getR F dX9_carryOut_94 flX9_7 (ly134 hs) (lt134 hs) rfl (p134_0 hs) ?_
        refine s_bipush (v := 9) F dX9_carryOut_97 (by decide) ?_
        refine s_aload_n F dX9_carryOut_99 rfl ?_
        refine s_iload_n F dX9_carryOut_100 rfl ?_
        obtain ⟨v11, hv11, h⟩ := bd_i h
        refine s_cV (ci := 9) F dX9_carryOut_101 (c_X9_cellOf hs hv11) lkX9_102 okX9_cellOf (by decide) (ly134 hs) (lt134 hs) rfl rfl (Nat.le_of_ble_eq_true rfl) (by decide) ?_
        refine s_iadd F dX9_carryOut_104 ?_
        obtain ⟨hc12, h⟩ := ck_s h
        refine s_iald F dX9_carryOut_105 (ly135 hs) (lt135 hs) (ix_s hc12) ?_
        refine s_aload_n F dX9_carryOut_106 rfl ?_
        refine s_iload_n F dX9_carryOut_107 rfl ?_
        refine s_iconst (v := 4) F dX9_carryOut_108 (by decide) ?_
        obtain ⟨v13, hv13, h⟩ := bd_i h
        refine s_cV (ci := 9) F dX9_carryOut_109 (c_X9_of hs hv13) lkX9_99 okX9_of (by decide) (ly134 hs) (lt134 hs) rfl rfl (Nat.le_of_ble_eq_true rfl) (by decide) ?_
        refine s_aload_n F dX9_carryOut_112 rfl ?_
        refine s_iload_n F dX9_carryOut_113 rfl ?_
        refine s_iconst (v := 3) F dX9_carryOut_114 (by decide) ?_
        obtain ⟨v14, hv14, h⟩ := bd_i h
        refine s_cV (ci := 9) F dX9_carryOut_115 (c_X9_of hs hv14) lkX9_99 okX9_of (by decide) (ly134 hs) (lt134 hs) rfl rfl (Nat.le_of_ble_eq_true rfl) (by decide) ?_
        refine s_isub F dX9_carryOut_118 ?_
        obtain ⟨v15, hv15, h⟩ := bd_i h
        refine s_cS F dX9_carryOut_119 (c_X9_lesser hs hv15) lkX9_112 okX9_lesser rfl (Nat.le_of_ble_eq_true rfl) (by decide) ?_
        obtain ⟨v16, hv16, h⟩ := bd_i h
        refine s_cS F dX9_carryOut_122 (c_X9_lesser hs hv16) lkX9_112 okX9_lesser rfl (Nat.le_of_ble_eq_true rfl) (by decide) ?_
        obtain ⟨v17, hv17, h⟩ := bd_i h
        refine s_cV (ci := 9) F dX9_carryOut_125 (c_X9_pick hs hv17) lkX9_109 okX9_pick (by decide) (ly134 hs) (lt134 hs) rfl rfl (Nat.le_of_ble_eq_true rfl) (by decide) ?_
        refine s_goto (tgt := 165) F dX9_carryOut_128 (by decide) ?_
        have h := Option.some.inj h
        subst h
        exact s_vret F hr dX9_carryOut_165 (Nat.le_refl _) (Nat.le_refl _) post
    · have h := if_f c3 h
      refine s_iconst (v := 0) F dX9_carryOut_39 (by decide) ?_
      refine s_istore F dX9_carryOut_40 (by decide) ?_
      refine G.weak (by exact ⟨rfl, ⟨rfl, ⟨rfl, ⟨rfl, ⟨rfl, trivial⟩⟩⟩⟩⟩) (lX9_carryOut_L42 F hs hr post (fun I24 h => ?_) 2000 _ _ h)
      refine s_goto (tgt := 165) F dX9_carryOut_81 (by decide) ?_
      have h := Option.some.inj h
      subst h
      exact s_vret F hr dX9_carryOut_165 (Nat.le_refl _) (Nat.le_refl _) post
  · have h := if_f (not_not_intro c2) h
    refine s_iconst (v := 0) F dX9_carryOut_12 (by decide) ?_
    refine s_istore F dX9_carryOut_13 (by decide) ?_
    refine G.weak (by exact ⟨rfl, ⟨rfl, ⟨rfl, trivial⟩⟩⟩) (lX9_carryOut_L15 F hs hr post (fun I27 h => ?_) 2000 _ _ h)
    refine s_goto (tgt := 165) F dX9_carryOut_31 (by decide) ?_
    have h := Option.some.inj h
    subst h
    exact s_vret F hr dX9_carryOut_165 (Nat.le_refl _) (Nat.le_refl _) post
set_option maxRecDepth 100000 in
set_option maxHeartbeats 4000000 in
theorem c_X9_carryOut {n : Nat} {Ly : LL} {I : II} {P : PP} {r : II} (hs : ShM n Ly P) {x1 : Int32} {x2 : Int32} {x3 : Int32} (h : fX9_carryOut I x1 x2 x3 = some r) (l : Launch) (s0 : Nat) (D : va_G) (DA : Nat → ClassId) : Ct l s0 D DA mX9_carryOut [.inr (some 134), .inl x1, .inl x2, .inl x3] 0 0 n Ly I P (PoD none n Ly r P) := ct_of (by decide +kernel) (Nat.le_of_ble_eq_true rfl) (fun X F hr _ => bX9_carryOut F hs hr ⟨rfl, rfl, rfl, rfl, rfl⟩ h)
-- ChipPilersModel.run
def fX9_run_L22 : Nat → (II → Option (Int32 × II)) → Int32 → Int32 → II → Option (Int32 × II)
  | 0, _, _, _, _ => none
  | k + 1, ct, x2, x3, I => (if (I 134 15) ≤ x3 then ct I else ck (ix x3 40) ((if ¬ (I 147 x3.toNatClampNeg) = 35 then ck (ix x3 40) (ck (ix x3 40) ((fX9_carryOut I x2 (I 147 x3.toNatClampNeg) (I 148 x3.toNatClampNeg)).bind fun v9 => fX9_run_L22 k ct x2 (x3 + 1) v9)) else ck (ix x3 40) (fX9_run_L22 k ct (I 148 x3.toNatClampNeg) (x3 + 1) I))))
def fX9_run (I : II) : Option (Int32 × II) := (fX9_readPlan I).bind fun v1 => (if v1.1 < 0 then (fX9_begin v1.2).bind fun v3 => fX9_run_L22 2000 (fun I11 => (fX9_done I11 ((I11 135 8) - (I11 136 8))).bind fun v12 => some (v12.1, v12.2)) 0 0 v3 else some (((-100) - v1.1), v1.2))
set_option maxRecDepth 100000 in
set_option maxHeartbeats 4000000 in
theorem lX9_run_L22 {X : Cx} {n : Nat} {Ly : LL} {P : PP} {Po : PQ} {r : Int32 × II} (F : Fx X RX9 cX9_run 4 11 0 0) (hs : ShM n Ly P) (hr : Fr X (some .int) Po 0 0) (post : Po (some (.inl r.1)) n Ly r.2 P)  {ct : II → Option (Int32 × II)} (hct : ∀  (I : II), ct  I = some r → G X 4 0 0 n Ly 74 [some (.inr (some 134)), none, none, none] [] I P) : ∀ (k : Nat) (x2 : Int32) (x3 : Int32) (I : II), fX9_run_L22 k ct x2 x3 I = some r → G X 4 0 0 n Ly 22 [some (.inr (some 134)), none, some (.inl x2), some (.inl x3)] [] I P := by
  intro k
  induction k with
  | zero =>
    intro x2 x3 I h
    cases h
  | succ k ih =>
    intro x2 x3 I h
    rw [fX9_run_L22] at h
    refine s_iload_n F dX9_run_22 rfl ?_
    refine s_aload_n F dX9_run_23 rfl ?_
    refine s_getI F dX9_run_24 flX9_146 (ly134 hs) (lt134 hs) rfl ?_
    refine s_icmp_ge (tgt := 74) F dX9_run_27 (by decide) (fun c4 => ?_) (fun c4 => ?_)
    · have h := if_t c4 h
      exact G.weak (by exact ⟨rfl, trivial⟩) (hct _ h)
    · have h := if_f c4 h
      refine s_aload_n F dX9_run_30 rfl ?_
      refine s_getR F dX9_run_31 flX9_48 (ly134 hs) (lt134 hs) rfl (p134_16 hs) ?_
      refine s_iload_n F dX9_run_34 rfl ?_
      obtain ⟨hc5, h⟩ := ck_s h
      refine s_cald F dX9_run_35 (ly147 hs) (lt147 hs) (ix_s hc5) ?_
      refine s_bipush (v := 35) F dX9_run_36 (by decide) ?_
      refine s_icmp_ne (tgt := 51) F dX9_run_38 (by decide) (fun c6 => ?_) (fun c6 => ?_)
      · have h := if_t c6 h
        refine s_aload_n F dX9_run_51 rfl ?_
        refine s_iload_n F dX9_run_52 rfl ?_
        refine s_aload_n F dX9_run_53 rfl ?_
        refine s_getR F dX9_run_54 flX9_48 (ly134 hs) (lt134 hs) rfl (p134_16 hs) ?_
        refine s_iload_n F dX9_run_57 rfl ?_
        obtain ⟨hc7, h⟩ := ck_s h
        refine s_cald F dX9_run_58 (ly147 hs) (lt147 hs) (ix_s hc7) ?_
        refine s_aload_n F dX9_run_59 rfl ?_
        refine s_getR F dX9_run_60 flX9_51 (ly134 hs) (lt134 hs) rfl (p134_17 hs) ?_
        refine s_iload_n F dX9_run_63 rfl ?_
        obtain ⟨hc8, h⟩ := ck_s h
        refine s_iald F dX9_run_64 (ly148 hs) (lt148 hs) (ix_s hc8) ?_
        obtain ⟨v9, hv9, h⟩ := bd_i h
        refine s_cV (ci := 9) F dX9_run_65 (c_X9_carryOut hs hv9) lkX9_159 okX9_carryOut (by decide) (ly134 hs) (lt134 hs) rfl rfl (Nat.le_of_ble_eq_true rfl) (by decide) ?_
        refine s_inc (c := 1) F dX9_run_68 rfl (by decide) (by decide) ?_
        refine s_goto (tgt := 22) F dX9_run_71 (by decide) ?_
        exact G.weak (by exact ⟨rfl, ⟨rfl, ⟨rfl, trivial⟩⟩⟩) (ih _ _ _ h)
      · have h := if_f (not_not_intro c6) h
        refine s_aload_n F dX9_run_41 rfl ?_
        refine s_getR F dX9_run_42 flX9_51 (ly134 hs) (lt134 hs) rfl (p134_17 hs) ?_
        refine s_iload_n F dX9_run_45 rfl ?_
        obtain ⟨hc10, h⟩ := ck_s h
        refine s_iald F dX9_run_46 (ly148 hs) (lt148 hs) (ix_s hc10) ?_
        refine s_istore_n F dX9_run_47 (by decide) ?_
        refine s_goto (tgt := 68) F dX9_run_48 (by decide) ?_
        refine s_inc (c := 1) F dX9_run_68 rfl (by decide) (by decide) ?_
        refine s_goto (tgt := 22) F dX9_run_71 (by decide) ?_
        exact G.weak (by exact ⟨rfl, ⟨rfl, ⟨rfl, trivial⟩⟩⟩) (ih _ _ _ h)
set_option maxRecDepth 100000 in
set_option maxHeartbeats 4000000 in
theorem bX9_run {X : Cx} {n : Nat} {Ly : LL} {I : II} {P : PP} {Po : PQ} {r : Int32 × II} (F : Fx X RX9 cX9_run 4 11 0 0) (hs : ShM n Ly P) (hr : Fr X (some .int) Po 0 0) (post : Po (some (.inl r.1)) n Ly r.2 P)  (h : fX9_run I = some r) : G X 4 0 0 n Ly 0 [some (.inr (some 134)), none, none, none] [] I P := by
  unfold fX9_run at h
  refine s_aload_n F dX9_run_0 rfl ?_
  obtain ⟨v1, hv1, h⟩ := bd_i h
  refine s_cV (ci := 9) F dX9_run_1 (c_X9_readPlan hs hv1) lkX9_156 okX9_readPlan (by decide) (ly134 hs) (lt134 hs) rfl rfl (Nat.le_of_ble_eq_true rfl) (by decide) ?_
  refine s_istore_n F dX9_run_4 (by decide) ?_
  refine s_iload_n F dX9_run_5 rfl ?_
  refine s_if_lt (tgt := 14) F dX9_run_6 (by decide) (fun c2 => ?_) (fun c2 => ?_)
  · have h := if_t c2 h
    refine s_aload_n F dX9_run_14 rfl ?_
    obtain ⟨v3, hv3, h⟩ := bd_i h
    refine s_cV (ci := 9) F dX9_run_15 (c_X9_begin hs hv3) lkX9_66 okX9_begin (by decide) (ly134 hs) (lt134 hs) rfl rfl (Nat.le_of_ble_eq_true rfl) (by decide) ?_
    refine s_iconst (v := 0) F dX9_run_18 (by decide) ?_
    refine s_istore_n F dX9_run_19 (by decide) ?_
    refine s_iconst (v := 0) F dX9_run_20 (by decide) ?_
    refine s_istore_n F dX9_run_21 (by decide) ?_
    refine G.weak (by exact ⟨rfl, ⟨rfl, ⟨rfl, trivial⟩⟩⟩) (lX9_run_L22 F hs hr post (fun I11 h => ?_) 2000 _ _ _ h)
    refine s_aload_n F dX9_run_74 rfl ?_
    refine s_aload_n F dX9_run_75 rfl ?_
    refine s_getR F dX9_run_76 flX9_7 (ly134 hs) (lt134 hs) rfl (p134_0 hs) ?_
    refine s_bipush (v := 8) F dX9_run_79 (by decide) ?_
    refine s_ialdK (j := 8) F dX9_run_81 (ly135 hs) (lt135 hs) (vp_lit 8 rfl) (by decide) ?_
    refine s_aload_n F dX9_run_82 rfl ?_
    refine s_getR F dX9_run_83 flX9_13 (ly134 hs) (lt134 hs) rfl (p134_1 hs) ?_
    refine s_bipush (v := 8) F dX9_run_86 (by decide) ?_
    refine s_ialdK (j := 8) F dX9_run_88 (ly136 hs) (lt136 hs) (vp_lit 8 rfl) (by decide) ?_
    refine s_isub F dX9_run_89 ?_
    obtain ⟨v12, hv12, h⟩ := bd_i h
    refine s_cV (ci := 9) F dX9_run_90 (c_X9_done hs hv12) lkX9_69 okX9_done (by decide) (ly134 hs) (lt134 hs) rfl rfl (Nat.le_of_ble_eq_true rfl) (by decide) ?_
    have h := Option.some.inj h
    subst h
    exact s_iret F hr dX9_run_93 rfl (Nat.le_refl _) (Nat.le_refl _) post
  · have h := if_f c2 h
    refine s_bipush (v := (-100)) F dX9_run_9 (by decide) ?_
    refine s_iload_n F dX9_run_11 rfl ?_
    refine s_isub F dX9_run_12 ?_
    have h := Option.some.inj h
    subst h
    exact s_iret F hr dX9_run_13 rfl (Nat.le_refl _) (Nat.le_refl _) post
set_option maxRecDepth 100000 in
set_option maxHeartbeats 4000000 in
theorem c_X9_run {n : Nat} {Ly : LL} {I : II} {P : PP} {r : Int32 × II} (hs : ShM n Ly P)  (h : fX9_run I = some r) (l : Launch) (s0 : Nat) (D : va_G) (DA : Nat → ClassId) : Ct l s0 D DA mX9_run [.inr (some 134)] 0 0 n Ly I P (PoD (some (.inl r.1)) n Ly r.2 P) := ct_of (by decide +kernel) (Nat.le_of_ble_eq_true rfl) (fun X F hr _ => bX9_run F hs hr ⟨rfl, rfl, rfl, rfl, rfl⟩ h)
-- ChipPilersModel.chips
def fX9_chips (I : II) (x1 : Int32) (x2 : Int32) : Option (Int32) := (fX9_isCell I x1 x2).bind fun v1 => (if v1 = 0 then some (-1) else ck (ix ((9 + (16 * x1)) + x2) 367) (some (I 135 ((9 + (16 * x1)) + x2).toNatClampNeg)))
set_option maxRecDepth 100000 in
set_option maxHeartbeats 4000000 in
theorem bX9_chips {X : Cx} {n : Nat} {Ly : LL} {I : II} {P : PP} {Po : PQ} {r : Int32} (F : Fx X RX9 cX9_chips 3 3 0 0) (hs : ShM n Ly P) (hr : Fr X (some .int) Po 0 0) (post : Po (some (.inl r)) n Ly I P) {x1 : Int32} {x2 : Int32} (h : fX9_chips I x1 x2 = some r) : G X 3 0 0 n Ly 0 [some (.inr (some 134)), some (.inl x1), some (.inl x2)] [] I P := by
  unfold fX9_chips at h
  refine s_aload_n F dX9_chips_0 rfl ?_
  refine s_iload_n F dX9_chips_1 rfl ?_
  refine s_iload_n F dX9_chips_2 rfl ?_
  obtain ⟨v1, hv1, h⟩ := bd_i h
  refine s_cV (ci := 9) F dX9_chips_3 (c_X9_isCell hs hv1) lkX9_73 okX9_isCell (by decide) (ly134 hs) (lt134 hs) rfl rfl (Nat.le_of_ble_eq_true rfl) (by decide) ?_
  refine s_if_eq (tgt := 26) F dX9_chips_6 (by decide) (fun c2 => ?_) (fun c2 => ?_)
  · have h := if_t c2 h
    refine s_iconst (v := (-1)) F dX9_chips_26 (by decide) ?_
    have h := Option.some.inj h
    subst h
    exact s_iret F hr dX9_chips_27 rfl (Nat.le_refl _) (Nat.le_refl _) post
  · have h := if_f c2 h
    refine s_aload_n F dX9_chips_9 rfl ?_
    refine s_getR F dX9_chips_10 flX9_7 (ly134 hs) (lt134 hs) rfl (p134_0 hs) ?_
    refine s_bipush (v := 9) F dX9_chips_13 (by decide) ?_
    refine s_bipush (v := 16) F dX9_chips_15 (by decide) ?_
    refine s_iload_n F dX9_chips_17 rfl ?_
    refine s_imul F dX9_chips_18 ?_
    refine s_iadd F dX9_chips_19 ?_
    refine s_iload_n F dX9_chips_20 rfl ?_
    refine s_iadd F dX9_chips_21 ?_
    obtain ⟨hc3, h⟩ := ck_s h
    refine s_iald F dX9_chips_22 (ly135 hs) (lt135 hs) (ix_s hc3) ?_
    refine s_goto (tgt := 27) F dX9_chips_23 (by decide) ?_
    have h := Option.some.inj h
    subst h
    exact s_iret F hr dX9_chips_27 rfl (Nat.le_refl _) (Nat.le_refl _) post
set_option maxRecDepth 100000 in
set_option maxHeartbeats 4000000 in
theorem c_X9_chips {n : Nat} {Ly : LL} {I : II} {P : PP} {r : Int32} (hs : ShM n Ly P) {x1 : Int32} {x2 : Int32} (h : fX9_chips I x1 x2 = some r) (l : Launch) (s0 : Nat) (D : va_G) (DA : Nat → ClassId) : Ct l s0 D DA mX9_chips [.inr (some 134), .inl x1, .inl x2] 0 0 n Ly I P (PoD (some (.inl r)) n Ly I P) := ct_of (by decide +kernel) (Nat.le_of_ble_eq_true rfl) (fun X F hr _ => bX9_chips F hs hr ⟨rfl, rfl, rfl, rfl, rfl⟩ h)
-- ChipPilersModel.walker
def fX9_walker (I : II) (x1 : Int32) (x2 : Int32) : Option (Int32) := (fX9_noWalker I x1).bind fun v1 => (if v1 = 0 then (fX9_in x2 0 8).bind fun v3 => (if v3 = 0 then some (-2) else (fX9_of I x1 x2).bind fun v5 => some v5) else some (-1))
set_option maxRecDepth 100000 in
set_option maxHeartbeats 4000000 in
theorem bX9_walker {X : Cx} {n : Nat} {Ly : LL} {I : II} {P : PP} {Po : PQ} {r : Int32} (F : Fx X RX9 cX9_walker 3 3 0 0) (hs : ShM n Ly P) (hr : Fr X (some .int) Po 0 0) (post : Po (some (.inl r)) n Ly I P) {x1 : Int32} {x2 : Int32} (h : fX9_walker I x1 x2 = some r) : G X 3 0 0 n Ly 0 [some (.inr (some 134)), some (.inl x1), some (.inl x2)] [] I P := by
  unfold fX9_walker at h
  refine s_aload_n F dX9_walker_0 rfl ?_
  refine s_iload_n F dX9_walker_1 rfl ?_
  obtain ⟨v1, hv1, h⟩ := bd_i h
  refine s_cV (ci := 9) F dX9_walker_2 (c_X9_noWalker hs hv1) lkX9_95 okX9_noWalker (by decide) (ly134 hs) (lt134 hs) rfl rfl (Nat.le_of_ble_eq_true rfl) (by decide) ?_
  refine s_if_eq (tgt := 10) F dX9_walker_5 (by decide) (fun c2 => ?_) (fun c2 => ?_)
  · have h := if_t c2 h
    refine s_iload_n F dX9_walker_10 rfl ?_
    refine s_iconst (v := 0) F dX9_walker_11 (by decide) ?_
    refine s_bipush (v := 8) F dX9_walker_12 (by decide) ?_
    obtain ⟨v3, hv3, h⟩ := bd_i h
    refine s_cS F dX9_walker_14 (c_X9_in hs hv3) lkX9_58 okX9_in rfl (Nat.le_of_ble_eq_true rfl) (by decide) ?_
    refine s_if_eq (tgt := 29) F dX9_walker_17 (by decide) (fun c4 => ?_) (fun c4 => ?_)
    · have h := if_t c4 h
      refine s_bipush (v := (-2)) F dX9_walker_29 (by decide) ?_
      have h := Option.some.inj h
      subst h
      exact s_iret F hr dX9_walker_31 rfl (Nat.le_refl _) (Nat.le_refl _) post
    · have h := if_f c4 h
      refine s_aload_n F dX9_walker_20 rfl ?_
      refine s_iload_n F dX9_walker_21 rfl ?_
      refine s_iload_n F dX9_walker_22 rfl ?_
      obtain ⟨v5, hv5, h⟩ := bd_i h
      refine s_cV (ci := 9) F dX9_walker_23 (c_X9_of hs hv5) lkX9_99 okX9_of (by decide) (ly134 hs) (lt134 hs) rfl rfl (Nat.le_of_ble_eq_true rfl) (by decide) ?_
      refine s_goto (tgt := 31) F dX9_walker_26 (by decide) ?_
      have h := Option.some.inj h
      subst h
      exact s_iret F hr dX9_walker_31 rfl (Nat.le_refl _) (Nat.le_refl _) post
  · have h := if_f c2 h
    refine s_iconst (v := (-1)) F dX9_walker_8 (by decide) ?_
    have h := Option.some.inj h
    subst h
    exact s_iret F hr dX9_walker_9 rfl (Nat.le_refl _) (Nat.le_refl _) post
set_option maxRecDepth 100000 in
set_option maxHeartbeats 4000000 in
theorem c_X9_walker {n : Nat} {Ly : LL} {I : II} {P : PP} {r : Int32} (hs : ShM n Ly P) {x1 : Int32} {x2 : Int32} (h : fX9_walker I x1 x2 = some r) (l : Launch) (s0 : Nat) (D : va_G) (DA : Nat → ClassId) : Ct l s0 D DA mX9_walker [.inr (some 134), .inl x1, .inl x2] 0 0 n Ly I P (PoD (some (.inl r)) n Ly I P) := ct_of (by decide +kernel) (Nat.le_of_ble_eq_true rfl) (fun X F hr _ => bX9_walker F hs hr ⟨rfl, rfl, rfl, rfl, rfl⟩ h)
-- ChipPilersModel.heap
def fX9_heap_L22 : Nat → (Unit → Option (Int32 × II)) → Int32 → Int32 → II → Int32 → Option (Int32 × II)
  | 0, _, _, _, _, _ => none
  | k + 1, ct, x1, x2, I, x3 => (if (I 134 7) ≤ x3 then ct () else (fX9_placeOf I x3).bind fun v6 => (if ¬ v6 = x1 then fX9_heap_L22 k ct x1 x2 I (x3 + 1) else (if ¬ x2 = 0 then (if ¬ x2 = 1 then (if ¬ x2 = 2 then (if ¬ x2 = 3 then ck (ix x3 128) (some ((I 144 x3.toNatClampNeg), I)) else ck (ix x3 128) (some ((rm (I 143 x3.toNatClampNeg) 16), I))) else ck (ix x3 128) (some (((I 143 x3.toNatClampNeg) / 16), I))) else ck (ix x3 128) (some ((I 142 x3.toNatClampNeg), I))) else ck (ix x3 128) (some ((I 141 x3.toNatClampNeg), I)))))
def fX9_heap (I : II) (x1 : Int32) (x2 : Int32) : Option (Int32 × II) := (if x1 < 0 then some ((-2), I) else (fX9_in x2 0 4).bind fun v2 => (if ¬ v2 = 0 then (fX9_findHeaps I).bind fun v4 => fX9_heap_L22 2000 (fun _ => some ((-5), v4)) x1 x2 v4 0 else some ((-2), I)))
set_option maxRecDepth 100000 in
set_option maxHeartbeats 4000000 in
theorem lX9_heap_L22 {X : Cx} {n : Nat} {Ly : LL} {I : II} {P : PP} {Po : PQ} {r : Int32 × II} (F : Fx X RX9 cX9_heap 4 6 0 0) (hs : ShM n Ly P) (hr : Fr X (some .int) Po 0 0) (post : Po (some (.inl r.1)) n Ly r.2 P) {x1 : Int32} {x2 : Int32} {ct : Unit → Option (Int32 × II)} (hct : ∀ (u : Unit), ct u = some r → G X 4 0 0 n Ly 113 [none, none, none, none] [] I P) : ∀ (k : Nat) (x3 : Int32), fX9_heap_L22 k ct x1 x2 I x3 = some r → G X 4 0 0 n Ly 22 [some (.inr (some 134)), some (.inl x1), some (.inl x2), some (.inl x3)] [] I P := by
  intro k
  induction k with
  | zero =>
    intro x3 h
    cases h
  | succ k ih =>
    intro x3 h
    rw [fX9_heap_L22] at h
    refine s_iload_n F dX9_heap_22 rfl ?_
    refine s_aload_n F dX9_heap_23 rfl ?_
    refine s_getI F dX9_heap_24 flX9_77 (ly134 hs) (lt134 hs) rfl ?_
    refine s_icmp_ge (tgt := 113) F dX9_heap_27 (by decide) (fun c5 => ?_) (fun c5 => ?_)
    · have h := if_t c5 h
      exact G.weak (by exact trivial) (hct () h)
    · have h := if_f c5 h
      refine s_aload_n F dX9_heap_30 rfl ?_
      refine s_iload_n F dX9_heap_31 rfl ?_
      obtain ⟨v6, hv6, h⟩ := bd_i h
      refine s_cV (ci := 9) F dX9_heap_32 (c_X9_placeOf hs hv6) lkX9_118 okX9_placeOf (by decide) (ly134 hs) (lt134 hs) rfl rfl (Nat.le_of_ble_eq_true rfl) (by decide) ?_
      refine s_iload_n F dX9_heap_35 rfl ?_
      refine s_icmp_ne (tgt := 107) F dX9_heap_36 (by decide) (fun c7 => ?_) (fun c7 => ?_)
      · have h := if_t c7 h
        refine s_inc (c := 1) F dX9_heap_107 rfl (by decide) (by decide) ?_
        refine s_goto (tgt := 22) F dX9_heap_110 (by decide) ?_
        exact G.weak (by exact ⟨rfl, ⟨rfl, ⟨rfl, ⟨rfl, trivial⟩⟩⟩⟩) (ih _ h)
      · have h := if_f (not_not_intro c7) h
        refine s_iload_n F dX9_heap_39 rfl ?_
        refine s_if_ne (tgt := 52) F dX9_heap_40 (by decide) (fun c8 => ?_) (fun c8 => ?_)
        · have h := if_t c8 h
          refine s_iload_n F dX9_heap_52 rfl ?_
          refine s_iconst (v := 1) F dX9_heap_53 (by decide) ?_
          refine s_icmp_ne (tgt := 66) F dX9_heap_54 (by decide) (fun c9 => ?_) (fun c9 => ?_)
          · have h := if_t c9 h
            refine s_iload_n F dX9_heap_66 rfl ?_
            refine s_iconst (v := 2) F dX9_heap_67 (by decide) ?_
            refine s_icmp_ne (tgt := 83) F dX9_heap_68 (by decide) (fun c10 => ?_) (fun c10 => ?_)
            · have h := if_t c10 h
              refine s_iload_n F dX9_heap_83 rfl ?_
              refine s_iconst (v := 3) F dX9_heap_84 (by decide) ?_
              refine s_icmp_ne (tgt := 100) F dX9_heap_85 (by decide) (fun c11 => ?_) (fun c11 => ?_)
              · have h := if_t c11 h
                refine s_aload_n F dX9_heap_100 rfl ?_
                refine s_getR F dX9_heap_101 flX9_38 (ly134 hs) (lt134 hs) rfl (p134_11 hs) ?_
                refine s_iload_n F dX9_heap_104 rfl ?_
                obtain ⟨hc12, h⟩ := ck_s h
                refine s_iald F dX9_heap_105 (ly144 hs) (lt144 hs) (ix_s hc12) ?_
                have h := Option.some.inj h
                subst h
                exact s_iret F hr dX9_heap_106 rfl (Nat.le_refl _) (Nat.le_refl _) post
              · have h := if_f (not_not_intro c11) h
                refine s_aload_n F dX9_heap_88 rfl ?_
                refine s_getR F dX9_heap_89 flX9_35 (ly134 hs) (lt134 hs) rfl (p134_10 hs) ?_
                refine s_iload_n F dX9_heap_92 rfl ?_
                obtain ⟨hc13, h⟩ := ck_s h
                refine s_iald F dX9_heap_93 (ly143 hs) (lt143 hs) (ix_s hc13) ?_
                refine s_bipush (v := 16) F dX9_heap_94 (by decide) ?_
                refine s_rem F dX9_heap_96 (by decide) ?_
                refine s_goto (tgt := 106) F dX9_heap_97 (by decide) ?_
                have h := Option.some.inj h
                subst h
                exact s_iret F hr dX9_heap_106 rfl (Nat.le_refl _) (Nat.le_refl _) post
            · have h := if_f (not_not_intro c10) h
              refine s_aload_n F dX9_heap_71 rfl ?_
              refine s_getR F dX9_heap_72 flX9_35 (ly134 hs) (lt134 hs) rfl (p134_10 hs) ?_
              refine s_iload_n F dX9_heap_75 rfl ?_
              obtain ⟨hc14, h⟩ := ck_s h
              refine s_iald F dX9_heap_76 (ly143 hs) (lt143 hs) (ix_s hc14) ?_
              refine s_bipush (v := 16) F dX9_heap_77 (by decide) ?_
              refine s_idiv F dX9_heap_79 (by decide) ?_
              refine s_goto (tgt := 106) F dX9_heap_80 (by decide) ?_
              have h := Option.some.inj h
              subst h
              exact s_iret F hr dX9_heap_106 rfl (Nat.le_refl _) (Nat.le_refl _) post
          · have h := if_f (not_not_intro c9) h
            refine s_aload_n F dX9_heap_57 rfl ?_
            refine s_getR F dX9_heap_58 flX9_32 (ly134 hs) (lt134 hs) rfl (p134_9 hs) ?_
            refine s_iload_n F dX9_heap_61 rfl ?_
            obtain ⟨hc15, h⟩ := ck_s h
            refine s_iald F dX9_heap_62 (ly142 hs) (lt142 hs) (ix_s hc15) ?_
            refine s_goto (tgt := 106) F dX9_heap_63 (by decide) ?_
            have h := Option.some.inj h
            subst h
            exact s_iret F hr dX9_heap_106 rfl (Nat.le_refl _) (Nat.le_refl _) post
        · have h := if_f (not_not_intro c8) h
          refine s_aload_n F dX9_heap_43 rfl ?_
          refine s_getR F dX9_heap_44 flX9_29 (ly134 hs) (lt134 hs) rfl (p134_8 hs) ?_
          refine s_iload_n F dX9_heap_47 rfl ?_
          obtain ⟨hc16, h⟩ := ck_s h
          refine s_iald F dX9_heap_48 (ly141 hs) (lt141 hs) (ix_s hc16) ?_
          refine s_goto (tgt := 106) F dX9_heap_49 (by decide) ?_
          have h := Option.some.inj h
          subst h
          exact s_iret F hr dX9_heap_106 rfl (Nat.le_refl _) (Nat.le_refl _) post
set_option maxRecDepth 100000 in
set_option maxHeartbeats 4000000 in
theorem bX9_heap {X : Cx} {n : Nat} {Ly : LL} {I : II} {P : PP} {Po : PQ} {r : Int32 × II} (F : Fx X RX9 cX9_heap 4 6 0 0) (hs : ShM n Ly P) (hr : Fr X (some .int) Po 0 0) (post : Po (some (.inl r.1)) n Ly r.2 P) {x1 : Int32} {x2 : Int32} (h : fX9_heap I x1 x2 = some r) : G X 4 0 0 n Ly 0 [some (.inr (some 134)), some (.inl x1), some (.inl x2), none] [] I P := by
  unfold fX9_heap at h
  refine s_iload_n F dX9_heap_0 rfl ?_
  refine s_if_lt (tgt := 13) F dX9_heap_1 (by decide) (fun c1 => ?_) (fun c1 => ?_)
  · have h := if_t c1 h
    refine s_bipush (v := (-2)) F dX9_heap_13 (by decide) ?_
    have h := Option.some.inj h
    subst h
    exact s_iret F hr dX9_heap_15 rfl (Nat.le_refl _) (Nat.le_refl _) post
  · have h := if_f c1 h
    refine s_iload_n F dX9_heap_4 rfl ?_
    refine s_iconst (v := 0) F dX9_heap_5 (by decide) ?_
    refine s_iconst (v := 4) F dX9_heap_6 (by decide) ?_
    obtain ⟨v2, hv2, h⟩ := bd_i h
    refine s_cS F dX9_heap_7 (c_X9_in hs hv2) lkX9_58 okX9_in rfl (Nat.le_of_ble_eq_true rfl) (by decide) ?_
    refine s_if_ne (tgt := 16) F dX9_heap_10 (by decide) (fun c3 => ?_) (fun c3 => ?_)
    · have h := if_t c3 h
      refine s_aload_n F dX9_heap_16 rfl ?_
      obtain ⟨v4, hv4, h⟩ := bd_i h
      refine s_cV (ci := 9) F dX9_heap_17 (c_X9_findHeaps hs hv4) lkX9_115 okX9_findHeaps (by decide) (ly134 hs) (lt134 hs) rfl rfl (Nat.le_of_ble_eq_true rfl) (by decide) ?_
      refine s_iconst (v := 0) F dX9_heap_20 (by decide) ?_
      refine s_istore_n F dX9_heap_21 (by decide) ?_
      refine G.weak (by exact ⟨rfl, ⟨rfl, ⟨rfl, ⟨rfl, trivial⟩⟩⟩⟩) (lX9_heap_L22 F hs hr post (fun _ h => ?_) 2000 _ h)
      refine s_bipush (v := (-5)) F dX9_heap_113 (by decide) ?_
      have h := Option.some.inj h
      subst h
      exact s_iret F hr dX9_heap_115 rfl (Nat.le_refl _) (Nat.le_refl _) post
    · have h := if_f (not_not_intro c3) h
      refine s_bipush (v := (-2)) F dX9_heap_13 (by decide) ?_
      have h := Option.some.inj h
      subst h
      exact s_iret F hr dX9_heap_15 rfl (Nat.le_refl _) (Nat.le_refl _) post
set_option maxRecDepth 100000 in
set_option maxHeartbeats 4000000 in
theorem c_X9_heap {n : Nat} {Ly : LL} {I : II} {P : PP} {r : Int32 × II} (hs : ShM n Ly P) {x1 : Int32} {x2 : Int32} (h : fX9_heap I x1 x2 = some r) (l : Launch) (s0 : Nat) (D : va_G) (DA : Nat → ClassId) : Ct l s0 D DA mX9_heap [.inr (some 134), .inl x1, .inl x2] 0 0 n Ly I P (PoD (some (.inl r.1)) n Ly r.2 P) := ct_of (by decide +kernel) (Nat.le_of_ble_eq_true rfl) (fun X F hr _ => bX9_heap F hs hr ⟨rfl, rfl, rfl, rfl, rfl⟩ h)
-- ChipPilersModel.heapOf
def fX9_heapOf (I : II) (x1 : Int32) (x2 : Int32) : Option (Int32 × II) := (fX9_isCell I x1 x2).bind fun v1 => (if ¬ v1 = 0 then (fX9_findHeaps I).bind fun v3 => ck (ix ((16 * x1) + x2) 256) ((if 0 ≤ (v3 140 ((16 * x1) + x2).toNatClampNeg) then (fX9_placeOf v3 (v3 140 ((16 * x1) + x2).toNatClampNeg)).bind fun v6 => some (v6, v3) else some ((-5), v3))) else some ((-1), I))
set_option maxRecDepth 100000 in
set_option maxHeartbeats 4000000 in
theorem bX9_heapOf {X : Cx} {n : Nat} {Ly : LL} {I : II} {P : PP} {Po : PQ} {r : Int32 × II} (F : Fx X RX9 cX9_heapOf 4 6 0 0) (hs : ShM n Ly P) (hr : Fr X (some .int) Po 0 0) (post : Po (some (.inl r.1)) n Ly r.2 P) {x1 : Int32} {x2 : Int32} (h : fX9_heapOf I x1 x2 = some r) : G X 4 0 0 n Ly 0 [some (.inr (some 134)), some (.inl x1), some (.inl x2), none] [] I P := by
  unfold fX9_heapOf at h
  refine s_aload_n F dX9_heapOf_0 rfl ?_
  refine s_iload_n F dX9_heapOf_1 rfl ?_
  refine s_iload_n F dX9_heapOf_2 rfl ?_
  obtain ⟨v1, hv1, h⟩ := bd_i h
  refine s_cV (ci := 9) F dX9_heapOf_3 (c_X9_isCell hs hv1) lkX9_73 okX9_isCell (by decide) (ly134 hs) (lt134 hs) rfl rfl (Nat.le_of_ble_eq_true rfl) (by decide) ?_
  refine s_if_ne (tgt := 11) F dX9_heapOf_6 (by decide) (fun c2 => ?_) (fun c2 => ?_)
  · have h := if_t c2 h
    refine s_aload_n F dX9_heapOf_11 rfl ?_
    obtain ⟨v3, hv3, h⟩ := bd_i h
    refine s_cV (ci := 9) F dX9_heapOf_12 (c_X9_findHeaps hs hv3) lkX9_115 okX9_findHeaps (by decide) (ly134 hs) (lt134 hs) rfl rfl (Nat.le_of_ble_eq_true rfl) (by decide) ?_
    refine s_aload_n F dX9_heapOf_15 rfl ?_
    refine s_getR F dX9_heapOf_16 flX9_26 (ly134 hs) (lt134 hs) rfl (p134_6 hs) ?_
    refine s_bipush (v := 16) F dX9_heapOf_19 (by decide) ?_
    refine s_iload_n F dX9_heapOf_21 rfl ?_
    refine s_imul F dX9_heapOf_22 ?_
    refine s_iload_n F dX9_heapOf_23 rfl ?_
    refine s_iadd F dX9_heapOf_24 ?_
    obtain ⟨hc4, h⟩ := ck_s h
    refine s_iald F dX9_heapOf_25 (ly140 hs) (lt140 hs) (ix_s hc4) ?_
    refine s_istore_n F dX9_heapOf_26 (by decide) ?_
    refine s_iload_n F dX9_heapOf_27 rfl ?_
    refine s_if_ge (tgt := 36) F dX9_heapOf_28 (by decide) (fun c5 => ?_) (fun c5 => ?_)
    · have h := if_t c5 h
      refine s_aload_n F dX9_heapOf_36 rfl ?_
      refine s_iload_n F dX9_heapOf_37 rfl ?_
      obtain ⟨v6, hv6, h⟩ := bd_i h
      refine s_cV (ci := 9) F dX9_heapOf_38 (c_X9_placeOf hs hv6) lkX9_118 okX9_placeOf (by decide) (ly134 hs) (lt134 hs) rfl rfl (Nat.le_of_ble_eq_true rfl) (by decide) ?_
      have h := Option.some.inj h
      subst h
      exact s_iret F hr dX9_heapOf_41 rfl (Nat.le_refl _) (Nat.le_refl _) post
    · have h := if_f c5 h
      refine s_bipush (v := (-5)) F dX9_heapOf_31 (by decide) ?_
      refine s_goto (tgt := 41) F dX9_heapOf_33 (by decide) ?_
      have h := Option.some.inj h
      subst h
      exact s_iret F hr dX9_heapOf_41 rfl (Nat.le_refl _) (Nat.le_refl _) post
  · have h := if_f (not_not_intro c2) h
    refine s_iconst (v := (-1)) F dX9_heapOf_9 (by decide) ?_
    have h := Option.some.inj h
    subst h
    exact s_iret F hr dX9_heapOf_10 rfl (Nat.le_refl _) (Nat.le_refl _) post
set_option maxRecDepth 100000 in
set_option maxHeartbeats 4000000 in
theorem c_X9_heapOf {n : Nat} {Ly : LL} {I : II} {P : PP} {r : Int32 × II} (hs : ShM n Ly P) {x1 : Int32} {x2 : Int32} (h : fX9_heapOf I x1 x2 = some r) (l : Launch) (s0 : Nat) (D : va_G) (DA : Nat → ClassId) : Ct l s0 D DA mX9_heapOf [.inr (some 134), .inl x1, .inl x2] 0 0 n Ly I P (PoD (some (.inl r.1)) n Ly r.2 P) := ct_of (by decide +kernel) (Nat.le_of_ble_eq_true rfl) (fun X F hr _ => bX9_heapOf F hs hr ⟨rfl, rfl, rfl, rfl, rfl⟩ h)
-- ChipPilersModel.turn
def fX9_turn (I : II) (x1 : Int32) : Option (Int32) := (if 0 ≤ x1 then (if (I 135 3) ≤ x1 then some (-5) else ck (ix (337 + x1) 367) (some (I 135 (337 + x1).toNatClampNeg))) else some (-2))
set_option maxRecDepth 100000 in
set_option maxHeartbeats 4000000 in
theorem bX9_turn {X : Cx} {n : Nat} {Ly : LL} {I : II} {P : PP} {Po : PQ} {r : Int32} (F : Fx X RX9 cX9_turn 2 1 0 0) (hs : ShM n Ly P) (hr : Fr X (some .int) Po 0 0) (post : Po (some (.inl r)) n Ly I P) {x1 : Int32} (h : fX9_turn I x1 = some r) : G X 2 0 0 n Ly 0 [some (.inr (some 134)), some (.inl x1)] [] I P := by
  unfold fX9_turn at h
  refine s_iload_n F dX9_turn_0 rfl ?_
  refine s_if_ge (tgt := 7) F dX9_turn_1 (by decide) (fun c1 => ?_) (fun c1 => ?_)
  · have h := if_t c1 h
    refine s_iload_n F dX9_turn_7 rfl ?_
    refine s_aload_n F dX9_turn_8 rfl ?_
    refine s_getR F dX9_turn_9 flX9_7 (ly134 hs) (lt134 hs) rfl (p134_0 hs) ?_
    refine s_iconst (v := 3) F dX9_turn_12 (by decide) ?_
    refine s_ialdK (j := 3) F dX9_turn_13 (ly135 hs) (lt135 hs) (vp_lit 3 rfl) (by decide) ?_
    refine s_icmp_ge (tgt := 30) F dX9_turn_14 (by decide) (fun c2 => ?_) (fun c2 => ?_)
    · have h := if_t c2 h
      refine s_bipush (v := (-5)) F dX9_turn_30 (by decide) ?_
      have h := Option.some.inj h
      subst h
      exact s_iret F hr dX9_turn_32 rfl (Nat.le_refl _) (Nat.le_refl _) post
    · have h := if_f c2 h
      refine s_aload_n F dX9_turn_17 rfl ?_
      refine s_getR F dX9_turn_18 flX9_7 (ly134 hs) (lt134 hs) rfl (p134_0 hs) ?_
      refine s_sipush (v := 337) F dX9_turn_21 (by decide) ?_
      refine s_iload_n F dX9_turn_24 rfl ?_
      refine s_iadd F dX9_turn_25 ?_
      obtain ⟨hc3, h⟩ := ck_s h
      refine s_iald F dX9_turn_26 (ly135 hs) (lt135 hs) (ix_s hc3) ?_
      refine s_goto (tgt := 32) F dX9_turn_27 (by decide) ?_
      have h := Option.some.inj h
      subst h
      exact s_iret F hr dX9_turn_32 rfl (Nat.le_refl _) (Nat.le_refl _) post
  · have h := if_f c1 h
    refine s_bipush (v := (-2)) F dX9_turn_4 (by decide) ?_
    have h := Option.some.inj h
    subst h
    exact s_iret F hr dX9_turn_6 rfl (Nat.le_refl _) (Nat.le_refl _) post
set_option maxRecDepth 100000 in
set_option maxHeartbeats 4000000 in
theorem c_X9_turn {n : Nat} {Ly : LL} {I : II} {P : PP} {r : Int32} (hs : ShM n Ly P) {x1 : Int32} (h : fX9_turn I x1 = some r) (l : Launch) (s0 : Nat) (D : va_G) (DA : Nat → ClassId) : Ct l s0 D DA mX9_turn [.inr (some 134), .inl x1] 0 0 n Ly I P (PoD (some (.inl r)) n Ly I P) := ct_of (by decide +kernel) (Nat.le_of_ble_eq_true rfl) (fun X F hr _ => bX9_turn F hs hr ⟨rfl, rfl, rfl, rfl, rfl⟩ h)
-- ChipPilersModel.pocketed
def fX9_pocketed_L4 : Nat → (Int32 → Option (Int32)) → II → Int32 → Int32 → Option (Int32)
  | 0, _, _, _, _ => none
  | k + 1, ct, I, x1, x2 => (if (I 135 2) ≤ x2 then ct x1 else (fX9_of I x2 3).bind fun v2 => fX9_pocketed_L4 k ct I (x1 + v2) (x2 + 1))
def fX9_pocketed (I : II) : Option (Int32) := fX9_pocketed_L4 2000 (fun z3 => some z3) I 0 0
set_option maxRecDepth 100000 in
set_option maxHeartbeats 4000000 in
theorem lX9_pocketed_L4 {X : Cx} {n : Nat} {Ly : LL} {I : II} {P : PP} {Po : PQ} {r : Int32} (F : Fx X RX9 cX9_pocketed 3 2 0 0) (hs : ShM n Ly P) (hr : Fr X (some .int) Po 0 0) (post : Po (some (.inl r)) n Ly I P)  {ct : Int32 → Option (Int32)} (hct : ∀ (x1 : Int32), ct x1 = some r → G X 3 0 0 n Ly 29 [none, some (.inl x1), none] [] I P) : ∀ (k : Nat) (x1 : Int32) (x2 : Int32), fX9_pocketed_L4 k ct I x1 x2 = some r → G X 3 0 0 n Ly 4 [some (.inr (some 134)), some (.inl x1), some (.inl x2)] [] I P := by
  intro k
  induction k with
  | zero =>
    intro x1 x2 h
    cases h
  | succ k ih =>
    intro x1 x2 h
    rw [fX9_pocketed_L4] at h
    refine s_iload_n F dX9_pocketed_4 rfl ?_
    refine s_aload_n F dX9_pocketed_5 rfl ?_
    refine s_getR F dX9_pocketed_6 flX9_7 (ly134 hs) (lt134 hs) rfl (p134_0 hs) ?_
    refine s_iconst (v := 2) F dX9_pocketed_9 (by decide) ?_
    refine s_ialdK (j := 2) F dX9_pocketed_10 (ly135 hs) (lt135 hs) (vp_lit 2 rfl) (by decide) ?_
    refine s_icmp_ge (tgt := 29) F dX9_pocketed_11 (by decide) (fun c1 => ?_) (fun c1 => ?_)
    · have h := if_t c1 h
      exact G.weak (by exact ⟨rfl, trivial⟩) (hct _ h)
    · have h := if_f c1 h
      refine s_iload_n F dX9_pocketed_14 rfl ?_
      refine s_aload_n F dX9_pocketed_15 rfl ?_
      refine s_iload_n F dX9_pocketed_16 rfl ?_
      refine s_iconst (v := 3) F dX9_pocketed_17 (by decide) ?_
      obtain ⟨v2, hv2, h⟩ := bd_i h
      refine s_cV (ci := 9) F dX9_pocketed_18 (c_X9_of hs hv2) lkX9_99 okX9_of (by decide) (ly134 hs) (lt134 hs) rfl rfl (Nat.le_of_ble_eq_true rfl) (by decide) ?_
      refine s_iadd F dX9_pocketed_21 ?_
      refine s_istore_n F dX9_pocketed_22 (by decide) ?_
      refine s_inc (c := 1) F dX9_pocketed_23 rfl (by decide) (by decide) ?_
      refine s_goto (tgt := 4) F dX9_pocketed_26 (by decide) ?_
      exact G.weak (by exact ⟨rfl, ⟨rfl, ⟨rfl, trivial⟩⟩⟩) (ih _ _ h)
set_option maxRecDepth 100000 in
set_option maxHeartbeats 4000000 in
theorem bX9_pocketed {X : Cx} {n : Nat} {Ly : LL} {I : II} {P : PP} {Po : PQ} {r : Int32} (F : Fx X RX9 cX9_pocketed 3 2 0 0) (hs : ShM n Ly P) (hr : Fr X (some .int) Po 0 0) (post : Po (some (.inl r)) n Ly I P)  (h : fX9_pocketed I = some r) : G X 3 0 0 n Ly 0 [some (.inr (some 134)), none, none] [] I P := by
  unfold fX9_pocketed at h
  refine s_iconst (v := 0) F dX9_pocketed_0 (by decide) ?_
  refine s_istore_n F dX9_pocketed_1 (by decide) ?_
  refine s_iconst (v := 0) F dX9_pocketed_2 (by decide) ?_
  refine s_istore_n F dX9_pocketed_3 (by decide) ?_
  refine G.weak (by exact ⟨rfl, ⟨rfl, ⟨rfl, trivial⟩⟩⟩) (lX9_pocketed_L4 F hs hr post (fun z3 h => ?_) 2000 _ _ h)
  refine s_iload_n F dX9_pocketed_29 rfl ?_
  have h := Option.some.inj h
  subst h
  exact s_iret F hr dX9_pocketed_30 rfl (Nat.le_refl _) (Nat.le_refl _) post
set_option maxRecDepth 100000 in
set_option maxHeartbeats 4000000 in
theorem c_X9_pocketed {n : Nat} {Ly : LL} {I : II} {P : PP} {r : Int32} (hs : ShM n Ly P)  (h : fX9_pocketed I = some r) (l : Launch) (s0 : Nat) (D : va_G) (DA : Nat → ClassId) : Ct l s0 D DA mX9_pocketed [.inr (some 134)] 0 0 n Ly I P (PoD (some (.inl r)) n Ly I P) := ct_of (by decide +kernel) (Nat.le_of_ble_eq_true rfl) (fun X F hr _ => bX9_pocketed F hs hr ⟨rfl, rfl, rfl, rfl, rfl⟩ h)
-- ChipPilersModel.count
def fX9_count (I : II) (x1 : Int32) : Option (Int32 × II) := (if x1 = 0 then some ((I 135 0), I) else if x1 = 1 then some ((I 135 1), I) else if x1 = 2 then some ((I 135 2), I) else if x1 = 3 then (fX9_allChips I).bind fun v5 => some (v5, I) else if x1 = 4 then (fX9_pocketed I).bind fun v7 => some (v7, I) else if x1 = 5 then (fX9_findHeaps I).bind fun v9 => some ((v9 134 7), v9) else if x1 = 6 then some ((I 135 6), I) else if x1 = 7 then some ((I 135 7), I) else if x1 = 8 then some ((I 135 8), I) else if x1 = 9 then some ((I 135 4), I) else if x1 = 10 then some ((I 135 3), I) else if x1 = 11 then some ((I 134 3), I) else if x1 = 12 then some ((I 134 13), I) else some ((-2), I))
set_option maxRecDepth 100000 in
set_option maxHeartbeats 4000000 in
theorem bX9_count {X : Cx} {n : Nat} {Ly : LL} {I : II} {P : PP} {Po : PQ} {r : Int32 × II} (F : Fx X RX9 cX9_count 2 6 0 0) (hs : ShM n Ly P) (hr : Fr X (some .int) Po 0 0) (post : Po (some (.inl r.1)) n Ly r.2 P) {x1 : Int32} (h : fX9_count I x1 = some r) : G X 2 0 0 n Ly 0 [some (.inr (some 134)), some (.inl x1)] [] I P := by
  unfold fX9_count at h
  refine s_iload_n F dX9_count_0 rfl ?_
  by_cases e1 : x1 = 0
  · have h := if_t e1 h
    refine s_swC (off := 67) (tgt := 68) F dX9_count_1 e1 (by decide +kernel) ?_
    refine s_aload_n F dX9_count_68 rfl ?_
    refine s_getR F dX9_count_69 flX9_7 (ly134 hs) (lt134 hs) rfl (p134_0 hs) ?_
    refine s_iconst (v := 0) F dX9_count_72 (by decide) ?_
    refine s_ialdK (j := 0) F dX9_count_73 (ly135 hs) (lt135 hs) (vp_lit 0 rfl) (by decide) ?_
    have h := Option.some.inj h
    subst h
    exact s_iret F hr dX9_count_74 rfl (Nat.le_refl _) (Nat.le_refl _) post
  have h := if_f e1 h
  by_cases e2 : x1 = 1
  · have h := if_t e2 h
    refine s_swC (off := 74) (tgt := 75) F dX9_count_1 e2 (by decide +kernel) ?_
    refine s_aload_n F dX9_count_75 rfl ?_
    refine s_getR F dX9_count_76 flX9_7 (ly134 hs) (lt134 hs) rfl (p134_0 hs) ?_
    refine s_iconst (v := 1) F dX9_count_79 (by decide) ?_
    refine s_ialdK (j := 1) F dX9_count_80 (ly135 hs) (lt135 hs) (vp_lit 1 rfl) (by decide) ?_
    have h := Option.some.inj h
    subst h
    exact s_iret F hr dX9_count_81 rfl (Nat.le_refl _) (Nat.le_refl _) post
  have h := if_f e2 h
  by_cases e3 : x1 = 2
  · have h := if_t e3 h
    refine s_swC (off := 81) (tgt := 82) F dX9_count_1 e3 (by decide +kernel) ?_
    refine s_aload_n F dX9_count_82 rfl ?_
    refine s_getR F dX9_count_83 flX9_7 (ly134 hs) (lt134 hs) rfl (p134_0 hs) ?_
    refine s_iconst (v := 2) F dX9_count_86 (by decide) ?_
    refine s_ialdK (j := 2) F dX9_count_87 (ly135 hs) (lt135 hs) (vp_lit 2 rfl) (by decide) ?_
    have h := Option.some.inj h
    subst h
    exact s_iret F hr dX9_count_88 rfl (Nat.le_refl _) (Nat.le_refl _) post
  have h := if_f e3 h
  by_cases e4 : x1 = 3
  · have h := if_t e4 h
    refine s_swC (off := 88) (tgt := 89) F dX9_count_1 e4 (by decide +kernel) ?_
    refine s_aload_n F dX9_count_89 rfl ?_
    obtain ⟨v5, hv5, h⟩ := bd_i h
    refine s_cV (ci := 9) F dX9_count_90 (c_X9_allChips hs hv5) lkX9_62 okX9_allChips (by decide) (ly134 hs) (lt134 hs) rfl rfl (Nat.le_of_ble_eq_true rfl) (by decide) ?_
    have h := Option.some.inj h
    subst h
    exact s_iret F hr dX9_count_93 rfl (Nat.le_refl _) (Nat.le_refl _) post
  have h := if_f e4 h
  by_cases e6 : x1 = 4
  · have h := if_t e6 h
    refine s_swC (off := 93) (tgt := 94) F dX9_count_1 e6 (by decide +kernel) ?_
    refine s_aload_n F dX9_count_94 rfl ?_
    obtain ⟨v7, hv7, h⟩ := bd_i h
    refine s_cV (ci := 9) F dX9_count_95 (c_X9_pocketed hs hv7) lkX9_163 okX9_pocketed (by decide) (ly134 hs) (lt134 hs) rfl rfl (Nat.le_of_ble_eq_true rfl) (by decide) ?_
    have h := Option.some.inj h
    subst h
    exact s_iret F hr dX9_count_98 rfl (Nat.le_refl _) (Nat.le_refl _) post
  have h := if_f e6 h
  by_cases e8 : x1 = 5
  · have h := if_t e8 h
    refine s_swC (off := 98) (tgt := 99) F dX9_count_1 e8 (by decide +kernel) ?_
    refine s_aload_n F dX9_count_99 rfl ?_
    obtain ⟨v9, hv9, h⟩ := bd_i h
    refine s_cV (ci := 9) F dX9_count_100 (c_X9_findHeaps hs hv9) lkX9_115 okX9_findHeaps (by decide) (ly134 hs) (lt134 hs) rfl rfl (Nat.le_of_ble_eq_true rfl) (by decide) ?_
    refine s_aload_n F dX9_count_103 rfl ?_
    refine s_getI F dX9_count_104 flX9_77 (ly134 hs) (lt134 hs) rfl ?_
    have h := Option.some.inj h
    subst h
    exact s_iret F hr dX9_count_107 rfl (Nat.le_refl _) (Nat.le_refl _) post
  have h := if_f e8 h
  by_cases e10 : x1 = 6
  · have h := if_t e10 h
    refine s_swC (off := 107) (tgt := 108) F dX9_count_1 e10 (by decide +kernel) ?_
    refine s_aload_n F dX9_count_108 rfl ?_
    refine s_getR F dX9_count_109 flX9_7 (ly134 hs) (lt134 hs) rfl (p134_0 hs) ?_
    refine s_bipush (v := 6) F dX9_count_112 (by decide) ?_
    refine s_ialdK (j := 6) F dX9_count_114 (ly135 hs) (lt135 hs) (vp_lit 6 rfl) (by decide) ?_
    have h := Option.some.inj h
    subst h
    exact s_iret F hr dX9_count_115 rfl (Nat.le_refl _) (Nat.le_refl _) post
  have h := if_f e10 h
  by_cases e11 : x1 = 7
  · have h := if_t e11 h
    refine s_swC (off := 115) (tgt := 116) F dX9_count_1 e11 (by decide +kernel) ?_
    refine s_aload_n F dX9_count_116 rfl ?_
    refine s_getR F dX9_count_117 flX9_7 (ly134 hs) (lt134 hs) rfl (p134_0 hs) ?_
    refine s_bipush (v := 7) F dX9_count_120 (by decide) ?_
    refine s_ialdK (j := 7) F dX9_count_122 (ly135 hs) (lt135 hs) (vp_lit 7 rfl) (by decide) ?_
    have h := Option.some.inj h
    subst h
    exact s_iret F hr dX9_count_123 rfl (Nat.le_refl _) (Nat.le_refl _) post
  have h := if_f e11 h
  by_cases e12 : x1 = 8
  · have h := if_t e12 h
    refine s_swC (off := 123) (tgt := 124) F dX9_count_1 e12 (by decide +kernel) ?_
    refine s_aload_n F dX9_count_124 rfl ?_
    refine s_getR F dX9_count_125 flX9_7 (ly134 hs) (lt134 hs) rfl (p134_0 hs) ?_
    refine s_bipush (v := 8) F dX9_count_128 (by decide) ?_
    refine s_ialdK (j := 8) F dX9_count_130 (ly135 hs) (lt135 hs) (vp_lit 8 rfl) (by decide) ?_
    have h := Option.some.inj h
    subst h
    exact s_iret F hr dX9_count_131 rfl (Nat.le_refl _) (Nat.le_refl _) post
  have h := if_f e12 h
  by_cases e13 : x1 = 9
  · have h := if_t e13 h
    refine s_swC (off := 131) (tgt := 132) F dX9_count_1 e13 (by decide +kernel) ?_
    refine s_aload_n F dX9_count_132 rfl ?_
    refine s_getR F dX9_count_133 flX9_7 (ly134 hs) (lt134 hs) rfl (p134_0 hs) ?_
    refine s_iconst (v := 4) F dX9_count_136 (by decide) ?_
    refine s_ialdK (j := 4) F dX9_count_137 (ly135 hs) (lt135 hs) (vp_lit 4 rfl) (by decide) ?_
    have h := Option.some.inj h
    subst h
    exact s_iret F hr dX9_count_138 rfl (Nat.le_refl _) (Nat.le_refl _) post
  have h := if_f e13 h
  by_cases e14 : x1 = 10
  · have h := if_t e14 h
    refine s_swC (off := 138) (tgt := 139) F dX9_count_1 e14 (by decide +kernel) ?_
    refine s_aload_n F dX9_count_139 rfl ?_
    refine s_getR F dX9_count_140 flX9_7 (ly134 hs) (lt134 hs) rfl (p134_0 hs) ?_
    refine s_iconst (v := 3) F dX9_count_143 (by decide) ?_
    refine s_ialdK (j := 3) F dX9_count_144 (ly135 hs) (lt135 hs) (vp_lit 3 rfl) (by decide) ?_
    have h := Option.some.inj h
    subst h
    exact s_iret F hr dX9_count_145 rfl (Nat.le_refl _) (Nat.le_refl _) post
  have h := if_f e14 h
  by_cases e15 : x1 = 11
  · have h := if_t e15 h
    refine s_swC (off := 145) (tgt := 146) F dX9_count_1 e15 (by decide +kernel) ?_
    refine s_aload_n F dX9_count_146 rfl ?_
    refine s_getI F dX9_count_147 flX9_54 (ly134 hs) (lt134 hs) rfl ?_
    have h := Option.some.inj h
    subst h
    exact s_iret F hr dX9_count_150 rfl (Nat.le_refl _) (Nat.le_refl _) post
  have h := if_f e15 h
  by_cases e16 : x1 = 12
  · have h := if_t e16 h
    refine s_swC (off := 150) (tgt := 151) F dX9_count_1 e16 (by decide +kernel) ?_
    refine s_aload_n F dX9_count_151 rfl ?_
    refine s_getI F dX9_count_152 flX9_139 (ly134 hs) (lt134 hs) rfl ?_
    have h := Option.some.inj h
    subst h
    exact s_iret F hr dX9_count_155 rfl (Nat.le_refl _) (Nat.le_refl _) post
  have h := if_f e16 h
  refine s_swOut (tgt := 156) F dX9_count_1 (by have q0 := lv_neT (a := 0) e1 (by decide); have q1 := lv_neT (a := 1) e2 (by decide); have q2 := lv_neT (a := 2) e3 (by decide); have q3 := lv_neT (a := 3) e4 (by decide); have q4 := lv_neT (a := 4) e6 (by decide); have q5 := lv_neT (a := 5) e8 (by decide); have q6 := lv_neT (a := 6) e10 (by decide); have q7 := lv_neT (a := 7) e11 (by decide); have q8 := lv_neT (a := 8) e12 (by decide); have q9 := lv_neT (a := 9) e13 (by decide); have q10 := lv_neT (a := 10) e14 (by decide); have q11 := lv_neT (a := 11) e15 (by decide); have q12 := lv_neT (a := 12) e16 (by decide); omega) (by decide) ?_
  refine s_bipush (v := (-2)) F dX9_count_156 (by decide) ?_
  have h := Option.some.inj h
  subst h
  exact s_iret F hr dX9_count_158 rfl (Nat.le_refl _) (Nat.le_refl _) post
set_option maxRecDepth 100000 in
set_option maxHeartbeats 4000000 in
theorem c_X9_count {n : Nat} {Ly : LL} {I : II} {P : PP} {r : Int32 × II} (hs : ShM n Ly P) {x1 : Int32} (h : fX9_count I x1 = some r) (l : Launch) (s0 : Nat) (D : va_G) (DA : Nat → ClassId) : Ct l s0 D DA mX9_count [.inr (some 134), .inl x1] 0 0 n Ly I P (PoD (some (.inl r.1)) n Ly r.2 P) := ct_of (by decide +kernel) (Nat.le_of_ble_eq_true rfl) (fun X F hr _ => bX9_count F hs hr ⟨rfl, rfl, rfl, rfl, rfl⟩ h)
