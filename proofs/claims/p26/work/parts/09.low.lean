-- ChipPilers.isBetween
def fX8_isBetween (x0 : Int32) (x1 : Int32) (x2 : Int32) : Option (Int32) := (if x0 < x1 then some 0 else (if x2 < x0 then some 0 else some 1))
set_option maxRecDepth 100000 in
set_option maxHeartbeats 4000000 in
theorem bX8_isBetween {X : Cx} {n : Nat} {Ly : LL} {I : II} {P : PP} {Po : PQ} {r : Int32} (F : Fx X RX8 cX8_isBetween 3 1 0 0) (hs : ShC n Ly P) (hr : Fr X (some .boolean) Po 0 0) (post : Po (some (.inl r)) n Ly I P) {x0 : Int32} {x1 : Int32} {x2 : Int32} (h : fX8_isBetween x0 x1 x2 = some r) : G X 3 0 0 n Ly 0 [some (.inl x0), some (.inl x1), some (.inl x2)] [] I P := by
  unfold fX8_isBetween at h
  refine s_iload_n F dX8_isBetween_0 rfl ?_
  refine s_iload_n F dX8_isBetween_1 rfl ?_
  refine s_icmp_lt (tgt := 14) F dX8_isBetween_2 (by decide) (fun c1 => ?_) (fun c1 => ?_)
  · have h := if_t c1 h
    refine s_iconst (v := 0) F dX8_isBetween_14 (by decide) ?_
    have h := Option.some.inj h
    subst h
    exact s_iret F hr dX8_isBetween_15 rfl (Nat.le_refl _) (Nat.le_refl _) post
  · have h := if_f c1 h
    refine s_iload_n F dX8_isBetween_5 rfl ?_
    refine s_iload_n F dX8_isBetween_6 rfl ?_
    refine s_icmp_gt (tgt := 14) F dX8_isBetween_7 (by decide) (fun c2 => ?_) (fun c2 => ?_)
    · have h := if_t c2 h
      refine s_iconst (v := 0) F dX8_isBetween_14 (by decide) ?_
      have h := Option.some.inj h
      subst h
      exact s_iret F hr dX8_isBetween_15 rfl (Nat.le_refl _) (Nat.le_refl _) post
    · have h := if_f c2 h
      refine s_iconst (v := 1) F dX8_isBetween_10 (by decide) ?_
      refine s_goto (tgt := 15) F dX8_isBetween_11 (by decide) ?_
      have h := Option.some.inj h
      subst h
      exact s_iret F hr dX8_isBetween_15 rfl (Nat.le_refl _) (Nat.le_refl _) post
set_option maxRecDepth 100000 in
set_option maxHeartbeats 4000000 in
theorem c_X8_isBetween {n : Nat} {Ly : LL} {I : II} {P : PP} {r : Int32} (hs : ShC n Ly P) {x0 : Int32} {x1 : Int32} {x2 : Int32} (h : fX8_isBetween x0 x1 x2 = some r) (l : Launch) (s0 : Nat) (D : va_G) (DA : Nat → ClassId) : Ct l s0 D DA mX8_isBetween [.inl x0, .inl x1, .inl x2] 0 0 n Ly I P (PoD (some (.inl r)) n Ly I P) := ct_of (by decide +kernel) (Nat.le_of_ble_eq_true rfl) (fun X F hr _ => bX8_isBetween F hs hr ⟨rfl, rfl, rfl, rfl, rfl⟩ h)
-- ChipPilers$History.dropOldest
def fX1_dropOldest (I : II) (P : PP) : Option (II × PP) := (some (upP P 22 0 (some (hq P 1)))).bind fun P1 => (some (upP P1 22 1 (some (hq P1 2)))).bind fun P4 => (some (upP P4 22 2 (some (hq P4 3)))).bind fun P6 => (some (upP P6 22 3 (some (hq P6 4)))).bind fun P8 => (some (upP P8 22 4 (some (hq P 0)))).bind fun P10 => (some (up2 I 21 1 4)).bind fun I12 => some (I12, P10)
set_option maxRecDepth 100000 in
set_option maxHeartbeats 4000000 in
theorem bX1_dropOldest {X : Cx} {n : Nat} {Ly : LL} {I : II} {P : PP} {Po : PQ} {r : II × PP} (F : Fx X RX1 cX1_dropOldest 3 1 0 0) (hs : ShC n Ly P) (hr : Fr X none Po 0 0) (post : Po none n Ly r.1 r.2)  (h : fX1_dropOldest I P = some r) : G X 3 0 0 n Ly 0 [some (.inr (some 21)), none, none] [] I P := by
  unfold fX1_dropOldest at h
  refine s_aload_n F dX1_dropOldest_0 rfl ?_
  refine s_getR F dX1_dropOldest_1 flX1_11 (ly21 hs) (lt21 hs) rfl (p21_0 hs) ?_
  refine s_iconst (v := 0) F dX1_dropOldest_4 (by decide) ?_
  refine s_aald F dX1_dropOldest_5 (ly22 hs) (Or.inr (Or.inl rfl)) (lt22 hs) (vp_lit 0 rfl) (pH hs (i := 0) (by decide)) ?_
  refine s_astore_n F dX1_dropOldest_6 (by decide) ?_
  refine s_iconst (v := 1) F dX1_dropOldest_7 (by decide) ?_
  refine s_istore_n F dX1_dropOldest_8 (by decide) ?_
  refine s_iload_n F dX1_dropOldest_9 rfl ?_
  refine s_iconst (v := 5) F dX1_dropOldest_10 (by decide) ?_
  refine s_icmp_ge (tgt := 34) F dX1_dropOldest_11 (by decide) (fun q => absurd q (by decide)) (fun _ => ?_)
  refine s_aload_n F dX1_dropOldest_14 rfl ?_
  refine s_getR F dX1_dropOldest_15 flX1_11 (ly21 hs) (lt21 hs) rfl (p21_0 hs) ?_
  refine s_iload_n F dX1_dropOldest_18 rfl ?_
  refine s_iconst (v := 1) F dX1_dropOldest_19 (by decide) ?_
  refine s_isub F dX1_dropOldest_20 ?_
  refine s_aload_n F dX1_dropOldest_21 rfl ?_
  refine s_getR F dX1_dropOldest_22 flX1_11 (ly21 hs) (lt21 hs) rfl (p21_0 hs) ?_
  refine s_iload_n F dX1_dropOldest_25 rfl ?_
  refine s_aald F dX1_dropOldest_26 (ly22 hs) (Or.inr (Or.inl rfl)) (lt22 hs) (vp_lit 1 rfl) (pH hs (i := 1) (by decide)) ?_
  have h := bd_s h
  have hb2 := shC_up hs (i := 0) (hbH hs (i := 1) (by decide))
  refine s_aastK (j := 0) F dX1_dropOldest_27 (ly22 hs) (Or.inr (Or.inl ⟨rfl, rfl⟩)) (lt22 hs) (lyS hs (HB.sb (hbH hs (i := 1) (by decide)))) (ltSb hs (HB.sb (hbH hs (i := 1) (by decide)))) (vp_lit 0 rfl) (by decide) ?_
  have kh3 := (hbH hs (i := 0) (by decide))
  have hs := hb2
  refine s_inc (c := 1) F dX1_dropOldest_28 rfl (by decide) (by decide) ?_
  refine s_goto (tgt := 9) F dX1_dropOldest_31 (by decide) ?_
  refine s_iload_n F dX1_dropOldest_9 rfl ?_
  refine s_iconst (v := 5) F dX1_dropOldest_10 (by decide) ?_
  refine s_icmp_ge (tgt := 34) F dX1_dropOldest_11 (by decide) (fun q => absurd q (by decide)) (fun _ => ?_)
  refine s_aload_n F dX1_dropOldest_14 rfl ?_
  refine s_getR F dX1_dropOldest_15 flX1_11 (ly21 hs) (lt21 hs) rfl (p21_0 hs) ?_
  refine s_iload_n F dX1_dropOldest_18 rfl ?_
  refine s_iconst (v := 1) F dX1_dropOldest_19 (by decide) ?_
  refine s_isub F dX1_dropOldest_20 ?_
  refine s_aload_n F dX1_dropOldest_21 rfl ?_
  refine s_getR F dX1_dropOldest_22 flX1_11 (ly21 hs) (lt21 hs) rfl (p21_0 hs) ?_
  refine s_iload_n F dX1_dropOldest_25 rfl ?_
  refine s_aald F dX1_dropOldest_26 (ly22 hs) (Or.inr (Or.inl rfl)) (lt22 hs) (vp_lit 2 rfl) (pH hs (i := 2) (by decide)) ?_
  have h := bd_s h
  have hb5 := shC_up hs (i := 1) (hbH hs (i := 2) (by decide))
  refine s_aastK (j := 1) F dX1_dropOldest_27 (ly22 hs) (Or.inr (Or.inl ⟨rfl, rfl⟩)) (lt22 hs) (lyS hs (HB.sb (hbH hs (i := 2) (by decide)))) (ltSb hs (HB.sb (hbH hs (i := 2) (by decide)))) (vp_lit 1 rfl) (by decide) ?_
  have hs := hb5
  refine s_inc (c := 1) F dX1_dropOldest_28 rfl (by decide) (by decide) ?_
  refine s_goto (tgt := 9) F dX1_dropOldest_31 (by decide) ?_
  refine s_iload_n F dX1_dropOldest_9 rfl ?_
  refine s_iconst (v := 5) F dX1_dropOldest_10 (by decide) ?_
  refine s_icmp_ge (tgt := 34) F dX1_dropOldest_11 (by decide) (fun q => absurd q (by decide)) (fun _ => ?_)
  refine s_aload_n F dX1_dropOldest_14 rfl ?_
  refine s_getR F dX1_dropOldest_15 flX1_11 (ly21 hs) (lt21 hs) rfl (p21_0 hs) ?_
  refine s_iload_n F dX1_dropOldest_18 rfl ?_
  refine s_iconst (v := 1) F dX1_dropOldest_19 (by decide) ?_
  refine s_isub F dX1_dropOldest_20 ?_
  refine s_aload_n F dX1_dropOldest_21 rfl ?_
  refine s_getR F dX1_dropOldest_22 flX1_11 (ly21 hs) (lt21 hs) rfl (p21_0 hs) ?_
  refine s_iload_n F dX1_dropOldest_25 rfl ?_
  refine s_aald F dX1_dropOldest_26 (ly22 hs) (Or.inr (Or.inl rfl)) (lt22 hs) (vp_lit 3 rfl) (pH hs (i := 3) (by decide)) ?_
  have h := bd_s h
  have hb7 := shC_up hs (i := 2) (hbH hs (i := 3) (by decide))
  refine s_aastK (j := 2) F dX1_dropOldest_27 (ly22 hs) (Or.inr (Or.inl ⟨rfl, rfl⟩)) (lt22 hs) (lyS hs (HB.sb (hbH hs (i := 3) (by decide)))) (ltSb hs (HB.sb (hbH hs (i := 3) (by decide)))) (vp_lit 2 rfl) (by decide) ?_
  have hs := hb7
  refine s_inc (c := 1) F dX1_dropOldest_28 rfl (by decide) (by decide) ?_
  refine s_goto (tgt := 9) F dX1_dropOldest_31 (by decide) ?_
  refine s_iload_n F dX1_dropOldest_9 rfl ?_
  refine s_iconst (v := 5) F dX1_dropOldest_10 (by decide) ?_
  refine s_icmp_ge (tgt := 34) F dX1_dropOldest_11 (by decide) (fun q => absurd q (by decide)) (fun _ => ?_)
  refine s_aload_n F dX1_dropOldest_14 rfl ?_
  refine s_getR F dX1_dropOldest_15 flX1_11 (ly21 hs) (lt21 hs) rfl (p21_0 hs) ?_
  refine s_iload_n F dX1_dropOldest_18 rfl ?_
  refine s_iconst (v := 1) F dX1_dropOldest_19 (by decide) ?_
  refine s_isub F dX1_dropOldest_20 ?_
  refine s_aload_n F dX1_dropOldest_21 rfl ?_
  refine s_getR F dX1_dropOldest_22 flX1_11 (ly21 hs) (lt21 hs) rfl (p21_0 hs) ?_
  refine s_iload_n F dX1_dropOldest_25 rfl ?_
  refine s_aald F dX1_dropOldest_26 (ly22 hs) (Or.inr (Or.inl rfl)) (lt22 hs) (vp_lit 4 rfl) (pH hs (i := 4) (by decide)) ?_
  have h := bd_s h
  have hb9 := shC_up hs (i := 3) (hbH hs (i := 4) (by decide))
  refine s_aastK (j := 3) F dX1_dropOldest_27 (ly22 hs) (Or.inr (Or.inl ⟨rfl, rfl⟩)) (lt22 hs) (lyS hs (HB.sb (hbH hs (i := 4) (by decide)))) (ltSb hs (HB.sb (hbH hs (i := 4) (by decide)))) (vp_lit 3 rfl) (by decide) ?_
  have hs := hb9
  refine s_inc (c := 1) F dX1_dropOldest_28 rfl (by decide) (by decide) ?_
  refine s_goto (tgt := 9) F dX1_dropOldest_31 (by decide) ?_
  refine s_iload_n F dX1_dropOldest_9 rfl ?_
  refine s_iconst (v := 5) F dX1_dropOldest_10 (by decide) ?_
  refine s_icmp_ge (tgt := 34) F dX1_dropOldest_11 (by decide) (fun _ => ?_) (fun q => absurd (by decide) q)
  refine s_aload_n F dX1_dropOldest_34 rfl ?_
  refine s_getR F dX1_dropOldest_35 flX1_11 (ly21 hs) (lt21 hs) rfl (p21_0 hs) ?_
  refine s_iconst (v := 4) F dX1_dropOldest_38 (by decide) ?_
  refine s_aload_n F dX1_dropOldest_39 rfl ?_
  have h := bd_s h
  have hb11 := shC_up hs (i := 4) kh3
  refine s_aastK (j := 4) F dX1_dropOldest_40 (ly22 hs) (Or.inr (Or.inl ⟨rfl, rfl⟩)) (lt22 hs) (lyS hs (HB.sb kh3)) (ltSb hs (HB.sb kh3)) (vp_lit 4 rfl) (by decide) ?_
  have hs := hb11
  refine s_aload_n F dX1_dropOldest_41 rfl ?_
  refine s_iconst (v := 4) F dX1_dropOldest_42 (by decide) ?_
  have h := bd_s h
  refine s_putI F dX1_dropOldest_43 flX1_17 (ly21 hs) (lt21 hs) rfl rfl ⟨rfl, rfl⟩ ?_
  have h := Option.some.inj h
  subst h
  exact s_vret F hr dX1_dropOldest_46 (Nat.le_refl _) (Nat.le_refl _) post
set_option maxRecDepth 100000 in
set_option maxHeartbeats 4000000 in
theorem c_X1_dropOldest {n : Nat} {Ly : LL} {I : II} {P : PP} {r : II × PP} (hs : ShC n Ly P)  (h : fX1_dropOldest I P = some r) (l : Launch) (s0 : Nat) (D : va_G) (DA : Nat → ClassId) : Ct l s0 D DA mX1_dropOldest [.inr (some 21)] 0 0 n Ly I P (PoD none n Ly r.1 r.2) := ct_of (by decide +kernel) (Nat.le_of_ble_eq_true rfl) (fun X F hr _ => bX1_dropOldest F hs hr ⟨rfl, rfl, rfl, rfl, rfl⟩ h)
theorem shX1_dropOldest {n : Nat} {Ly : LL} {P : PP} (hs : ShC n Ly P) {I : II} {r : II × PP} (h : fX1_dropOldest I P = some r) : ShC n Ly r.2 := by
  unfold fX1_dropOldest at h
  have h0 := hbH hs (i := 0) (by decide)
  have h1 := shC_up hs (i := 0) (hbH hs (i := 1) (by decide))
  have h2 := shC_up h1 (i := 1) (hbH h1 (i := 2) (by decide))
  have h3 := shC_up h2 (i := 2) (hbH h2 (i := 3) (by decide))
  have h4 := shC_up h3 (i := 3) (hbH h3 (i := 4) (by decide))
  have h5 := shC_up h4 (i := 4) h0
  cases h
  exact h5
-- ChipPilers$History.stateAt
def fX1_stateAt (P : PP) (x1 : Int32) : Option (Option Nat) := (if x1 < 0 then some none else (if x1 < 5 then ck (ix x1 5) (some (some (hq P x1.toNatClampNeg))) else some none))
set_option maxRecDepth 100000 in
set_option maxHeartbeats 4000000 in
theorem bX1_stateAt {X : Cx} {n : Nat} {Ly : LL} {I : II} {P : PP} {Po : PQ} {r : Option Nat} (F : Fx X RX1 cX1_stateAt 2 1 0 0) (hs : ShC n Ly P) (hr : Fr X (some (.object "ChipPilers$State")) Po 0 0) (post : Po (some (.inr r)) n Ly I P) {x1 : Int32} (h : fX1_stateAt P x1 = some r) : G X 2 0 0 n Ly 0 [some (.inr (some 21)), some (.inl x1)] [] I P := by
  unfold fX1_stateAt at h
  refine s_iload_n F dX1_stateAt_0 rfl ?_
  refine s_if_lt (tgt := 13) F dX1_stateAt_1 (by decide) (fun c1 => ?_) (fun c1 => ?_)
  · have h := if_t c1 h
    refine s_null F dX1_stateAt_13 ?_
    have h := Option.some.inj h
    subst h
    exact s_aret F hr dX1_stateAt_14 (Nat.le_refl _) (Nat.le_refl _) post
  · have h := if_f c1 h
    refine s_iload_n F dX1_stateAt_4 rfl ?_
    refine s_aload_n F dX1_stateAt_5 rfl ?_
    refine s_getR F dX1_stateAt_6 flX1_11 (ly21 hs) (lt21 hs) rfl (p21_0 hs) ?_
    refine s_alen (v := 5) F dX1_stateAt_9 (ly22 hs) (by decide) (lt22 hs) (by decide) ?_
    refine s_icmp_lt (tgt := 15) F dX1_stateAt_10 (by decide) (fun c2 => ?_) (fun c2 => ?_)
    · have h := if_t c2 h
      refine s_aload_n F dX1_stateAt_15 rfl ?_
      refine s_getR F dX1_stateAt_16 flX1_11 (ly21 hs) (lt21 hs) rfl (p21_0 hs) ?_
      refine s_iload_n F dX1_stateAt_19 rfl ?_
      obtain ⟨hc3, h⟩ := ck_s h
      refine s_aald F dX1_stateAt_20 (ly22 hs) (Or.inr (Or.inl rfl)) (lt22 hs) (ix_s hc3) (pH hs (vp_lt (ix_s hc3))) ?_
      have h := Option.some.inj h
      subst h
      exact s_aret F hr dX1_stateAt_21 (Nat.le_refl _) (Nat.le_refl _) post
    · have h := if_f c2 h
      refine s_null F dX1_stateAt_13 ?_
      have h := Option.some.inj h
      subst h
      exact s_aret F hr dX1_stateAt_14 (Nat.le_refl _) (Nat.le_refl _) post
set_option maxRecDepth 100000 in
set_option maxHeartbeats 4000000 in
theorem c_X1_stateAt {n : Nat} {Ly : LL} {I : II} {P : PP} {r : Option Nat} (hs : ShC n Ly P) {x1 : Int32} (h : fX1_stateAt P x1 = some r) (l : Launch) (s0 : Nat) (D : va_G) (DA : Nat → ClassId) : Ct l s0 D DA mX1_stateAt [.inr (some 21), .inl x1] 0 0 n Ly I P (PoD (some (.inr r)) n Ly I P) := ct_of (by decide +kernel) (Nat.le_of_ble_eq_true rfl) (fun X F hr _ => bX1_stateAt F hs hr ⟨rfl, rfl, rfl, rfl, rfl⟩ h)
theorem kdX1_stateAt {n : Nat} {Ly : LL} {P : PP} (hs : ShC n Ly P) {x1 : Int32} {r : Option Nat} (h : fX1_stateAt P x1 = some r) : ∀ a, r = some a → HB a := by
  intro a ha
  subst ha
  unfold fX1_stateAt at h
  repeat' (split at h)
  all_goals first | (cases h; done) | (obtain ⟨hc, h⟩ := ck_s h; cases h; exact hbH hs (vp_lt (ix_s hc)))
-- ChipPilers$State.walkerAt
def fX4_walkerAt (I : II) (b0 : Nat) (x1 : Int32) : Option (Option Nat) := (if x1 < 0 then some none else (if (I b0 4) ≤ x1 then some none else (if x1 < 8 then ck (ix x1 8) (some (some ((b0 + 5) + x1.toNatClampNeg))) else some none)))
set_option maxRecDepth 100000 in
set_option maxHeartbeats 4000000 in
theorem bX4_walkerAt {X : Cx} {n : Nat} {Ly : LL} {I : II} {P : PP} {Po : PQ} {r : Option Nat} (F : Fx X RX4 cX4_walkerAt 2 1 0 0) (hs : ShC n Ly P) (hr : Fr X (some (.object "ChipPilers$Walker")) Po 0 0) (post : Po (some (.inr r)) n Ly I P) {b0 : Nat} (hb0 : SB b0) {x1 : Int32} (h : fX4_walkerAt I b0 x1 = some r) : G X 2 0 0 n Ly 0 [some (.inr (some b0)), some (.inl x1)] [] I P := by
  unfold fX4_walkerAt at h
  refine s_iload_n F dX4_walkerAt_0 rfl ?_
  refine s_if_lt (tgt := 21) F dX4_walkerAt_1 (by decide) (fun c1 => ?_) (fun c1 => ?_)
  · have h := if_t c1 h
    refine s_null F dX4_walkerAt_21 ?_
    have h := Option.some.inj h
    subst h
    exact s_aret F hr dX4_walkerAt_22 (Nat.le_refl _) (Nat.le_refl _) post
  · have h := if_f c1 h
    refine s_iload_n F dX4_walkerAt_4 rfl ?_
    refine s_aload_n F dX4_walkerAt_5 rfl ?_
    refine s_getI F dX4_walkerAt_6 flX4_28 (lyS hs hb0) (ltSb hs hb0) rfl ?_
    refine s_icmp_ge (tgt := 21) F dX4_walkerAt_9 (by decide) (fun c2 => ?_) (fun c2 => ?_)
    · have h := if_t c2 h
      refine s_null F dX4_walkerAt_21 ?_
      have h := Option.some.inj h
      subst h
      exact s_aret F hr dX4_walkerAt_22 (Nat.le_refl _) (Nat.le_refl _) post
    · have h := if_f c2 h
      refine s_iload_n F dX4_walkerAt_12 rfl ?_
      refine s_aload_n F dX4_walkerAt_13 rfl ?_
      refine s_getR F dX4_walkerAt_14 flX4_24 (lyS hs hb0) (ltSb hs hb0) rfl (pS3 hs hb0) ?_
      refine s_alen (v := 8) F dX4_walkerAt_17 (lyS2 hs hb0) (by decide) (ltS2 hs hb0) (by decide) ?_
      refine s_icmp_lt (tgt := 23) F dX4_walkerAt_18 (by decide) (fun c3 => ?_) (fun c3 => ?_)
      · have h := if_t c3 h
        refine s_aload_n F dX4_walkerAt_23 rfl ?_
        refine s_getR F dX4_walkerAt_24 flX4_24 (lyS hs hb0) (ltSb hs hb0) rfl (pS3 hs hb0) ?_
        refine s_iload_n F dX4_walkerAt_27 rfl ?_
        obtain ⟨hc4, h⟩ := ck_s h
        refine s_aald F dX4_walkerAt_28 (lyS2 hs hb0) (Or.inl rfl) (ltS2 hs hb0) (ix_s hc4) (pSW hs hb0 (vp_lt (ix_s hc4))) ?_
        have h := Option.some.inj h
        subst h
        exact s_aret F hr dX4_walkerAt_29 (Nat.le_refl _) (Nat.le_refl _) post
      · have h := if_f c3 h
        refine s_null F dX4_walkerAt_21 ?_
        have h := Option.some.inj h
        subst h
        exact s_aret F hr dX4_walkerAt_22 (Nat.le_refl _) (Nat.le_refl _) post
set_option maxRecDepth 100000 in
set_option maxHeartbeats 4000000 in
theorem c_X4_walkerAt {n : Nat} {Ly : LL} {I : II} {P : PP} {r : Option Nat} (hs : ShC n Ly P) {b0 : Nat} (hb0 : SB b0) {x1 : Int32} (h : fX4_walkerAt I b0 x1 = some r) (l : Launch) (s0 : Nat) (D : va_G) (DA : Nat → ClassId) : Ct l s0 D DA mX4_walkerAt [.inr (some b0), .inl x1] 0 0 n Ly I P (PoD (some (.inr r)) n Ly I P) := ct_of (by decide +kernel) (Nat.le_of_ble_eq_true rfl) (fun X F hr _ => bX4_walkerAt F hs hr ⟨rfl, rfl, rfl, rfl, rfl⟩ hb0 h)
theorem kdX4_walkerAt {n : Nat} {Ly : LL} {P : PP} (_hs : ShC n Ly P) {I : II} {b0 : Nat} {x1 : Int32} {r : Option Nat} (hb0 : SB b0) (h : fX4_walkerAt I b0 x1 = some r) : ∀ a, r = some a → WB a := by
  intro a ha
  subst ha
  unfold fX4_walkerAt at h
  repeat' (split at h)
  all_goals first | (cases h; done) | (obtain ⟨hc, h⟩ := ck_s h; cases h; exact ⟨_, _, hb0, vp_lt (ix_s hc), rfl⟩)
-- ChipPilers$Walker.copyFrom
def fX6_copyFrom (I : II) (b0 : Nat) (b1 : Nat) : Option (II) := (some (up2 I b0 0 (I b1 0))).bind fun I1 => (some (up2 I1 b0 1 (I1 b1 1))).bind fun I2 => (some (up2 I2 b0 2 (I2 b1 2))).bind fun I3 => (some (up2 I3 b0 3 (I3 b1 3))).bind fun I4 => (some (up2 I4 b0 4 (I4 b1 4))).bind fun I5 => (some (up2 I5 b0 5 (I5 b1 5))).bind fun I6 => (some (up2 I6 b0 6 (I6 b1 6))).bind fun I7 => (some (up2 I7 b0 7 (I7 b1 7))).bind fun I8 => (some (up2 I8 b0 8 (I8 b1 8))).bind fun I9 => some I9
set_option maxRecDepth 100000 in
set_option maxHeartbeats 4000000 in
theorem bX6_copyFrom {X : Cx} {n : Nat} {Ly : LL} {I : II} {P : PP} {Po : PQ} {r : II} (F : Fx X RX6 cX6_copyFrom 2 1 0 0) (hs : ShC n Ly P) (hr : Fr X none Po 0 0) (post : Po none n Ly r P) {b0 : Nat} (hb0 : WB b0) {b1 : Nat} (hb1 : WB b1) (h : fX6_copyFrom I b0 b1 = some r) : G X 2 0 0 n Ly 0 [some (.inr (some b0)), some (.inr (some b1))] [] I P := by
  unfold fX6_copyFrom at h
  refine s_aload_n F dX6_copyFrom_0 rfl ?_
  refine s_aload_n F dX6_copyFrom_1 rfl ?_
  refine s_getI F dX6_copyFrom_2 flX6_9 (lyW hs hb1) (ltW hs hb1) rfl ?_
  have h := bd_s h
  refine s_putI F dX6_copyFrom_5 flX6_9 (lyW hs hb0) (ltW hs hb0) rfl rfl ⟨rfl, rfl⟩ ?_
  refine s_aload_n F dX6_copyFrom_8 rfl ?_
  refine s_aload_n F dX6_copyFrom_9 rfl ?_
  refine s_getI F dX6_copyFrom_10 flX6_15 (lyW hs hb1) (ltW hs hb1) rfl ?_
  have h := bd_s h
  refine s_putI F dX6_copyFrom_13 flX6_15 (lyW hs hb0) (ltW hs hb0) rfl rfl ⟨rfl, rfl⟩ ?_
  refine s_aload_n F dX6_copyFrom_16 rfl ?_
  refine s_aload_n F dX6_copyFrom_17 rfl ?_
  refine s_getI F dX6_copyFrom_18 flX6_18 (lyW hs hb1) (ltW hs hb1) rfl ?_
  have h := bd_s h
  refine s_putI F dX6_copyFrom_21 flX6_18 (lyW hs hb0) (ltW hs hb0) rfl rfl ⟨rfl, rfl⟩ ?_
  refine s_aload_n F dX6_copyFrom_24 rfl ?_
  refine s_aload_n F dX6_copyFrom_25 rfl ?_
  refine s_getI F dX6_copyFrom_26 flX6_21 (lyW hs hb1) (ltW hs hb1) rfl ?_
  have h := bd_s h
  refine s_putI F dX6_copyFrom_29 flX6_21 (lyW hs hb0) (ltW hs hb0) rfl rfl ⟨rfl, rfl⟩ ?_
  refine s_aload_n F dX6_copyFrom_32 rfl ?_
  refine s_aload_n F dX6_copyFrom_33 rfl ?_
  refine s_getI F dX6_copyFrom_34 flX6_24 (lyW hs hb1) (ltW hs hb1) rfl ?_
  have h := bd_s h
  refine s_putI F dX6_copyFrom_37 flX6_24 (lyW hs hb0) (ltW hs hb0) rfl rfl ⟨rfl, rfl⟩ ?_
  refine s_aload_n F dX6_copyFrom_40 rfl ?_
  refine s_aload_n F dX6_copyFrom_41 rfl ?_
  refine s_getI F dX6_copyFrom_42 flX6_27 (lyW hs hb1) (ltW hs hb1) rfl ?_
  have h := bd_s h
  refine s_putI F dX6_copyFrom_45 flX6_27 (lyW hs hb0) (ltW hs hb0) rfl rfl ⟨rfl, rfl⟩ ?_
  refine s_aload_n F dX6_copyFrom_48 rfl ?_
  refine s_aload_n F dX6_copyFrom_49 rfl ?_
  refine s_getI F dX6_copyFrom_50 flX6_30 (lyW hs hb1) (ltW hs hb1) rfl ?_
  have h := bd_s h
  refine s_putI F dX6_copyFrom_53 flX6_30 (lyW hs hb0) (ltW hs hb0) rfl rfl ⟨rfl, rfl⟩ ?_
  refine s_aload_n F dX6_copyFrom_56 rfl ?_
  refine s_aload_n F dX6_copyFrom_57 rfl ?_
  refine s_getI F dX6_copyFrom_58 flX6_33 (lyW hs hb1) (ltW hs hb1) rfl ?_
  have h := bd_s h
  refine s_putI F dX6_copyFrom_61 flX6_33 (lyW hs hb0) (ltW hs hb0) rfl rfl ⟨rfl, rfl⟩ ?_
  refine s_aload_n F dX6_copyFrom_64 rfl ?_
  refine s_aload_n F dX6_copyFrom_65 rfl ?_
  refine s_getI F dX6_copyFrom_66 flX6_36 (lyW hs hb1) (ltW hs hb1) rfl ?_
  have h := bd_s h
  refine s_putI F dX6_copyFrom_69 flX6_36 (lyW hs hb0) (ltW hs hb0) rfl rfl ⟨rfl, rfl⟩ ?_
  have h := Option.some.inj h
  subst h
  exact s_vret F hr dX6_copyFrom_72 (Nat.le_refl _) (Nat.le_refl _) post
set_option maxRecDepth 100000 in
set_option maxHeartbeats 4000000 in
theorem c_X6_copyFrom {n : Nat} {Ly : LL} {I : II} {P : PP} {r : II} (hs : ShC n Ly P) {b0 : Nat} (hb0 : WB b0) {b1 : Nat} (hb1 : WB b1) (h : fX6_copyFrom I b0 b1 = some r) (l : Launch) (s0 : Nat) (D : va_G) (DA : Nat → ClassId) : Ct l s0 D DA mX6_copyFrom [.inr (some b0), .inr (some b1)] 0 0 n Ly I P (PoD none n Ly r P) := ct_of (by decide +kernel) (Nat.le_of_ble_eq_true rfl) (fun X F hr _ => bX6_copyFrom F hs hr ⟨rfl, rfl, rfl, rfl, rfl⟩ hb0 hb1 h)
-- ChipPilers$Turns.copyFrom
def fX5_copyFrom (I : II) (b0 : Nat) (b1 : Nat) : Option (II) := (some (cp2 I (b1 + 1) (b0 + 1) 30)).bind fun I1 => (some (up2 I1 b0 1 (I1 b1 1))).bind fun I2 => (some (up2 I2 b0 2 (I2 b1 2))).bind fun I3 => ck (bB (I3 b1 3)) ((some (up2 I3 b0 3 (I3 b1 3))).bind fun I5 => some I5)
set_option maxRecDepth 100000 in
set_option maxHeartbeats 4000000 in
theorem bX5_copyFrom {X : Cx} {n : Nat} {Ly : LL} {I : II} {P : PP} {Po : PQ} {r : II} (F : Fx X RX5 cX5_copyFrom 2 1 0 0) (hs : ShC n Ly P) (hr : Fr X none Po 0 0) (post : Po none n Ly r P) {b0 : Nat} (hb0 : TB b0) {b1 : Nat} (hb1 : TB b1) (h : fX5_copyFrom I b0 b1 = some r) : G X 2 0 0 n Ly 0 [some (.inr (some b0)), some (.inr (some b1))] [] I P := by
  unfold fX5_copyFrom at h
  refine s_aload_n F dX5_copyFrom_0 rfl ?_
  refine s_getR F dX5_copyFrom_1 flX5_9 (lyT hs hb1) (ltT hs hb1) rfl (pT0 hs hb1) ?_
  refine s_iconst (v := 0) F dX5_copyFrom_4 (by decide) ?_
  refine s_aload_n F dX5_copyFrom_5 rfl ?_
  refine s_getR F dX5_copyFrom_6 flX5_9 (lyT hs hb0) (ltT hs hb0) rfl (pT0 hs hb0) ?_
  refine s_iconst (v := 0) F dX5_copyFrom_9 (by decide) ?_
  refine s_bipush (v := 30) F dX5_copyFrom_10 (by decide) ?_
  have h := bd_s h
  refine s_copy F dX5_copyFrom_12 lkX5_26 (by decide) (lyT1 hs hb1) (lyT1 hs hb0) (ltT1 hs hb1) (ltT1 hs hb0) (Nat.le_of_ble_eq_true rfl) (by decide) (by decide) ?_
  refine s_aload_n F dX5_copyFrom_15 rfl ?_
  refine s_aload_n F dX5_copyFrom_16 rfl ?_
  refine s_getI F dX5_copyFrom_17 flX5_15 (lyT hs hb1) (ltT hs hb1) rfl ?_
  have h := bd_s h
  refine s_putI F dX5_copyFrom_20 flX5_15 (lyT hs hb0) (ltT hs hb0) rfl rfl ⟨rfl, rfl⟩ ?_
  refine s_aload_n F dX5_copyFrom_23 rfl ?_
  refine s_aload_n F dX5_copyFrom_24 rfl ?_
  refine s_getI F dX5_copyFrom_25 flX5_19 (lyT hs hb1) (ltT hs hb1) rfl ?_
  have h := bd_s h
  refine s_putI F dX5_copyFrom_28 flX5_19 (lyT hs hb0) (ltT hs hb0) rfl rfl ⟨rfl, rfl⟩ ?_
  refine s_aload_n F dX5_copyFrom_31 rfl ?_
  refine s_aload_n F dX5_copyFrom_32 rfl ?_
  refine s_getI F dX5_copyFrom_33 flX5_22 (lyT hs hb1) (ltT hs hb1) rfl ?_
  obtain ⟨hc4, h⟩ := ck_s h
  have h := bd_s h
  refine s_putI F dX5_copyFrom_36 flX5_22 (lyT hs hb0) (ltT hs hb0) rfl rfl (nb_of (bB_s hc4)) ?_
  have h := Option.some.inj h
  subst h
  exact s_vret F hr dX5_copyFrom_39 (Nat.le_refl _) (Nat.le_refl _) post
set_option maxRecDepth 100000 in
set_option maxHeartbeats 4000000 in
theorem c_X5_copyFrom {n : Nat} {Ly : LL} {I : II} {P : PP} {r : II} (hs : ShC n Ly P) {b0 : Nat} (hb0 : TB b0) {b1 : Nat} (hb1 : TB b1) (h : fX5_copyFrom I b0 b1 = some r) (l : Launch) (s0 : Nat) (D : va_G) (DA : Nat → ClassId) : Ct l s0 D DA mX5_copyFrom [.inr (some b0), .inr (some b1)] 0 0 n Ly I P (PoD none n Ly r P) := ct_of (by decide +kernel) (Nat.le_of_ble_eq_true rfl) (fun X F hr _ => bX5_copyFrom F hs hr ⟨rfl, rfl, rfl, rfl, rfl⟩ hb0 hb1 h)
-- ChipPilers$State.copyFrom
def fX4_copyFrom_L42 : Nat → (II → Option (II)) → Nat → Nat → Int32 → II → Option (II)
  | 0, _, _, _, _, _ => none
  | k + 1, ct, b0, b1, x2, I => (if (I b0 4) ≤ x2 then ct I else (fX4_walkerAt I b0 x2).bind fun v6 => (fX4_walkerAt I b1 x2).bind fun v7 => (match v6 with | none => fX4_copyFrom_L42 k ct b0 b1 (x2 + 1) I | some a8 => (match v7 with | none => fX4_copyFrom_L42 k ct b0 b1 (x2 + 1) I | some a9 => (fX6_copyFrom I a8 a9).bind fun v10 => fX4_copyFrom_L42 k ct b0 b1 (x2 + 1) v10)))
def fX4_copyFrom (I : II) (b0 : Nat) (b1 : Nat) : Option (II) := (some (up2 I b0 0 (I b1 0))).bind fun I1 => (some (up2 I1 b0 1 (I1 b1 1))).bind fun I2 => (some (cp2 I2 (b1 + 1) (b0 + 1) 256)).bind fun I3 => (some (up2 I3 b0 4 (I3 b1 4))).bind fun I4 => fX4_copyFrom_L42 2000 (fun I11 => (fX5_copyFrom I11 (b0 + 3) (b1 + 3)).bind fun v12 => (some (up2 v12 b0 6 (v12 b1 6))).bind fun I13 => (some (up2 I13 b0 7 (I13 b1 7))).bind fun I14 => some I14) b0 b1 0 I4
set_option maxRecDepth 100000 in
set_option maxHeartbeats 4000000 in
theorem lX4_copyFrom_L42 {X : Cx} {n : Nat} {Ly : LL} {P : PP} {Po : PQ} {r : II} (F : Fx X RX4 cX4_copyFrom 5 2 0 0) (hs : ShC n Ly P) (hr : Fr X none Po 0 0) (post : Po none n Ly r P) {b0 : Nat} (hb0 : SB b0) {b1 : Nat} (hb1 : SB b1) {ct : II → Option (II)} (hct : ∀  (I : II), ct  I = some r → G X 5 0 0 n Ly 84 [some (.inr (some b0)), some (.inr (some b1)), none, none, none] [] I P) : ∀ (k : Nat) (x2 : Int32) (I : II), fX4_copyFrom_L42 k ct b0 b1 x2 I = some r → G X 5 0 0 n Ly 42 [some (.inr (some b0)), some (.inr (some b1)), some (.inl x2), none, none] [] I P := by
  intro k
  induction k with
  | zero =>
    intro x2 I h
    cases h
  | succ k ih =>
    intro x2 I h
    rw [fX4_copyFrom_L42] at h
    refine s_iload_n F dX4_copyFrom_42 rfl ?_
    refine s_aload_n F dX4_copyFrom_43 rfl ?_
    refine s_getI F dX4_copyFrom_44 flX4_28 (lyS hs hb0) (ltSb hs hb0) rfl ?_
    refine s_icmp_ge (tgt := 84) F dX4_copyFrom_47 (by decide) (fun c5 => ?_) (fun c5 => ?_)
    · have h := if_t c5 h
      exact G.weak (by exact ⟨rfl, ⟨rfl, trivial⟩⟩) (hct _ h)
    · have h := if_f c5 h
      refine s_aload_n F dX4_copyFrom_50 rfl ?_
      refine s_iload_n F dX4_copyFrom_51 rfl ?_
      obtain ⟨v6, hv6, h⟩ := bd_i h
      refine s_cV (ci := 4) F dX4_copyFrom_52 (c_X4_walkerAt hs hb0 hv6) lkX4_51 okX4_walkerAt (by decide) (lyS hs hb0) (ltSb hs hb0) rfl rfl (Nat.le_of_ble_eq_true rfl) (by decide) ?_
      refine s_astore_n F dX4_copyFrom_55 (by decide) ?_
      refine s_aload_n F dX4_copyFrom_56 rfl ?_
      refine s_iload_n F dX4_copyFrom_57 rfl ?_
      obtain ⟨v7, hv7, h⟩ := bd_i h
      refine s_cV (ci := 4) F dX4_copyFrom_58 (c_X4_walkerAt hs hb1 hv7) lkX4_51 okX4_walkerAt (by decide) (lyS hs hb1) (ltSb hs hb1) rfl rfl (Nat.le_of_ble_eq_true rfl) (by decide) ?_
      refine s_astore F dX4_copyFrom_61 (by decide) ?_
      refine s_aload_n F dX4_copyFrom_63 rfl ?_
      cases v6 with
      | none =>
        dsimp only at h
        refine s_ifnullN (tgt := 78) F dX4_copyFrom_64 (by decide) ?_
        refine s_inc (c := 1) F dX4_copyFrom_78 rfl (by decide) (by decide) ?_
        refine s_goto (tgt := 42) F dX4_copyFrom_81 (by decide) ?_
        exact G.weak (by exact ⟨rfl, ⟨rfl, ⟨rfl, trivial⟩⟩⟩) (ih _ _ h)
      | some a8 =>
        dsimp only at h
        refine s_ifnull F dX4_copyFrom_64 ?_
        refine s_aload F dX4_copyFrom_67 rfl ?_
        cases v7 with
        | none =>
          dsimp only at h
          refine s_ifnullN (tgt := 78) F dX4_copyFrom_69 (by decide) ?_
          refine s_inc (c := 1) F dX4_copyFrom_78 rfl (by decide) (by decide) ?_
          refine s_goto (tgt := 42) F dX4_copyFrom_81 (by decide) ?_
          exact G.weak (by exact ⟨rfl, ⟨rfl, ⟨rfl, trivial⟩⟩⟩) (ih _ _ h)
        | some a9 =>
          dsimp only at h
          refine s_ifnull F dX4_copyFrom_69 ?_
          refine s_aload_n F dX4_copyFrom_72 rfl ?_
          refine s_aload F dX4_copyFrom_73 rfl ?_
          obtain ⟨v10, hv10, h⟩ := bd_i h
          refine s_cV (ci := 6) F dX4_copyFrom_75 (c_X6_copyFrom hs ((kdX4_walkerAt hs hb0 hv6) _ rfl) ((kdX4_walkerAt hs hb1 hv7) _ rfl) hv10) lkX4_55 okX6_copyFrom (by decide) (lyW hs ((kdX4_walkerAt hs hb0 hv6) _ rfl)) (ltW hs ((kdX4_walkerAt hs hb0 hv6) _ rfl)) rfl rfl (Nat.le_of_ble_eq_true rfl) (by decide) ?_
          refine s_inc (c := 1) F dX4_copyFrom_78 rfl (by decide) (by decide) ?_
          refine s_goto (tgt := 42) F dX4_copyFrom_81 (by decide) ?_
          exact G.weak (by exact ⟨rfl, ⟨rfl, ⟨rfl, trivial⟩⟩⟩) (ih _ _ h)
set_option maxRecDepth 100000 in
set_option maxHeartbeats 4000000 in
theorem bX4_copyFrom {X : Cx} {n : Nat} {Ly : LL} {I : II} {P : PP} {Po : PQ} {r : II} (F : Fx X RX4 cX4_copyFrom 5 2 0 0) (hs : ShC n Ly P) (hr : Fr X none Po 0 0) (post : Po none n Ly r P) {b0 : Nat} (hb0 : SB b0) {b1 : Nat} (hb1 : SB b1) (h : fX4_copyFrom I b0 b1 = some r) : G X 5 0 0 n Ly 0 [some (.inr (some b0)), some (.inr (some b1)), none, none, none] [] I P := by
  unfold fX4_copyFrom at h
  refine s_aload_n F dX4_copyFrom_0 rfl ?_
  refine s_aload_n F dX4_copyFrom_1 rfl ?_
  refine s_getI F dX4_copyFrom_2 flX4_9 (lyS hs hb1) (ltSb hs hb1) rfl ?_
  have h := bd_s h
  refine s_putI F dX4_copyFrom_5 flX4_9 (lyS hs hb0) (ltSb hs hb0) rfl rfl ⟨rfl, rfl⟩ ?_
  refine s_aload_n F dX4_copyFrom_8 rfl ?_
  refine s_aload_n F dX4_copyFrom_9 rfl ?_
  refine s_getI F dX4_copyFrom_10 flX4_15 (lyS hs hb1) (ltSb hs hb1) rfl ?_
  have h := bd_s h
  refine s_putI F dX4_copyFrom_13 flX4_15 (lyS hs hb0) (ltSb hs hb0) rfl rfl ⟨rfl, rfl⟩ ?_
  refine s_aload_n F dX4_copyFrom_16 rfl ?_
  refine s_getR F dX4_copyFrom_17 flX4_18 (lyS hs hb1) (ltSb hs hb1) rfl (pS2 hs hb1) ?_
  refine s_iconst (v := 0) F dX4_copyFrom_20 (by decide) ?_
  refine s_aload_n F dX4_copyFrom_21 rfl ?_
  refine s_getR F dX4_copyFrom_22 flX4_18 (lyS hs hb0) (ltSb hs hb0) rfl (pS2 hs hb0) ?_
  refine s_iconst (v := 0) F dX4_copyFrom_25 (by decide) ?_
  refine s_sipush (v := 256) F dX4_copyFrom_26 (by decide) ?_
  have h := bd_s h
  refine s_copy F dX4_copyFrom_29 lkX4_45 (by decide) (lyS1 hs hb1) (lyS1 hs hb0) (ltS1 hs hb1) (ltS1 hs hb0) (Nat.le_of_ble_eq_true rfl) (by decide) (by decide) ?_
  refine s_aload_n F dX4_copyFrom_32 rfl ?_
  refine s_aload_n F dX4_copyFrom_33 rfl ?_
  refine s_getI F dX4_copyFrom_34 flX4_28 (lyS hs hb1) (ltSb hs hb1) rfl ?_
  have h := bd_s h
  refine s_putI F dX4_copyFrom_37 flX4_28 (lyS hs hb0) (ltSb hs hb0) rfl rfl ⟨rfl, rfl⟩ ?_
  refine s_iconst (v := 0) F dX4_copyFrom_40 (by decide) ?_
  refine s_istore_n F dX4_copyFrom_41 (by decide) ?_
  refine G.weak (by exact ⟨rfl, ⟨rfl, ⟨rfl, trivial⟩⟩⟩) (lX4_copyFrom_L42 F hs hr post hb0 hb1 (fun I11 h => ?_) 2000 _ _ h)
  refine s_aload_n F dX4_copyFrom_84 rfl ?_
  refine s_getR F dX4_copyFrom_85 flX4_34 (lyS hs hb0) (ltSb hs hb0) rfl (pS5 hs hb0) ?_
  refine s_aload_n F dX4_copyFrom_88 rfl ?_
  refine s_getR F dX4_copyFrom_89 flX4_34 (lyS hs hb1) (ltSb hs hb1) rfl (pS5 hs hb1) ?_
  obtain ⟨v12, hv12, h⟩ := bd_i h
  refine s_cV (ci := 5) F dX4_copyFrom_92 (c_X5_copyFrom hs ⟨_, hb0, rfl⟩ ⟨_, hb1, rfl⟩ hv12) lkX4_59 okX5_copyFrom (by decide) (lyT hs ⟨_, hb0, rfl⟩) (ltT hs ⟨_, hb0, rfl⟩) rfl rfl (Nat.le_of_ble_eq_true rfl) (by decide) ?_
  refine s_aload_n F dX4_copyFrom_95 rfl ?_
  refine s_aload_n F dX4_copyFrom_96 rfl ?_
  refine s_getI F dX4_copyFrom_97 flX4_38 (lyS hs hb1) (ltSb hs hb1) rfl ?_
  have h := bd_s h
  refine s_putI F dX4_copyFrom_100 flX4_38 (lyS hs hb0) (ltSb hs hb0) rfl rfl ⟨rfl, rfl⟩ ?_
  refine s_aload_n F dX4_copyFrom_103 rfl ?_
  refine s_aload_n F dX4_copyFrom_104 rfl ?_
  refine s_getI F dX4_copyFrom_105 flX4_41 (lyS hs hb1) (ltSb hs hb1) rfl ?_
  have h := bd_s h
  refine s_putI F dX4_copyFrom_108 flX4_41 (lyS hs hb0) (ltSb hs hb0) rfl rfl ⟨rfl, rfl⟩ ?_
  have h := Option.some.inj h
  subst h
  exact s_vret F hr dX4_copyFrom_111 (Nat.le_refl _) (Nat.le_refl _) post
set_option maxRecDepth 100000 in
set_option maxHeartbeats 4000000 in
theorem c_X4_copyFrom {n : Nat} {Ly : LL} {I : II} {P : PP} {r : II} (hs : ShC n Ly P) {b0 : Nat} (hb0 : SB b0) {b1 : Nat} (hb1 : SB b1) (h : fX4_copyFrom I b0 b1 = some r) (l : Launch) (s0 : Nat) (D : va_G) (DA : Nat → ClassId) : Ct l s0 D DA mX4_copyFrom [.inr (some b0), .inr (some b1)] 0 0 n Ly I P (PoD none n Ly r P) := ct_of (by decide +kernel) (Nat.le_of_ble_eq_true rfl) (fun X F hr _ => bX4_copyFrom F hs hr ⟨rfl, rfl, rfl, rfl, rfl⟩ hb0 hb1 h)
-- ChipPilers$History.record
def fX1_record_J12 (I : II) (P : PP) (b1 : Nat) : Option (II × PP) := (fX1_stateAt P (I 21 1)).bind fun v2 => (match v2 with | none => some (I, P) | some a3 => (fX4_copyFrom I a3 b1).bind fun v4 => (some (up2 v4 21 1 ((v4 21 1) + 1))).bind fun I5 => some (I5, P))
def fX1_record (I : II) (P : PP) (b1 : Nat) : Option (II × PP) := (if (I 21 1) < 5 then fX1_record_J12 I P b1 else (fX1_dropOldest I P).bind fun v6 => fX1_record_J12 v6.1 v6.2 b1)
set_option maxRecDepth 100000 in
set_option maxHeartbeats 4000000 in
theorem lX1_record_J12 {X : Cx} {n : Nat} {Ly : LL} {I : II} {P : PP} {Po : PQ} {r : II × PP} (F : Fx X RX1 cX1_record 3 3 0 0) (hs : ShC n Ly P) (hr : Fr X none Po 0 0) (post : Po none n Ly r.1 r.2) {b1 : Nat} (hb1 : SB b1) (h : fX1_record_J12 I P b1 = some r) : G X 3 0 0 n Ly 12 [some (.inr (some 21)), some (.inr (some b1)), none] [] I P := by
  unfold fX1_record_J12 at h
  refine s_aload_n F dX1_record_12 rfl ?_
  refine s_aload_n F dX1_record_13 rfl ?_
  refine s_getI F dX1_record_14 flX1_17 (ly21 hs) (lt21 hs) rfl ?_
  obtain ⟨v2, hv2, h⟩ := bd_i h
  refine s_cV (ci := 1) F dX1_record_17 (c_X1_stateAt hs hv2) lkX1_25 okX1_stateAt (by decide) (ly21 hs) (lt21 hs) rfl rfl (Nat.le_of_ble_eq_true rfl) (by decide) ?_
  refine s_astore_n F dX1_record_20 (by decide) ?_
  refine s_aload_n F dX1_record_21 rfl ?_
  cases v2 with
  | none =>
    dsimp only at h
    refine s_ifnullN (tgt := 40) F dX1_record_22 (by decide) ?_
    have h := Option.some.inj h
    subst h
    exact s_vret F hr dX1_record_40 (Nat.le_refl _) (Nat.le_refl _) post
  | some a3 =>
    dsimp only at h
    refine s_ifnull F dX1_record_22 ?_
    refine s_aload_n F dX1_record_25 rfl ?_
    refine s_aload_n F dX1_record_26 rfl ?_
    obtain ⟨v4, hv4, h⟩ := bd_i h
    refine s_cV (ci := 4) F dX1_record_27 (c_X4_copyFrom hs (HB.sb ((kdX1_stateAt hs hv2) _ rfl)) hb1 hv4) lkX1_29 okX4_copyFrom (by decide) (lyS hs (HB.sb ((kdX1_stateAt hs hv2) _ rfl))) (ltSb hs (HB.sb ((kdX1_stateAt hs hv2) _ rfl))) rfl rfl (Nat.le_of_ble_eq_true rfl) (by decide) ?_
    refine s_aload_n F dX1_record_30 rfl ?_
    refine s_dup F dX1_record_31 ?_
    refine s_getI F dX1_record_32 flX1_17 (ly21 hs) (lt21 hs) rfl ?_
    refine s_iconst (v := 1) F dX1_record_35 (by decide) ?_
    refine s_iadd F dX1_record_36 ?_
    have h := bd_s h
    refine s_putI F dX1_record_37 flX1_17 (ly21 hs) (lt21 hs) rfl rfl ⟨rfl, rfl⟩ ?_
    have h := Option.some.inj h
    subst h
    exact s_vret F hr dX1_record_40 (Nat.le_refl _) (Nat.le_refl _) post
set_option maxRecDepth 100000 in
set_option maxHeartbeats 4000000 in
theorem bX1_record {X : Cx} {n : Nat} {Ly : LL} {I : II} {P : PP} {Po : PQ} {r : II × PP} (F : Fx X RX1 cX1_record 3 3 0 0) (hs : ShC n Ly P) (hr : Fr X none Po 0 0) (post : Po none n Ly r.1 r.2) {b1 : Nat} (hb1 : SB b1) (h : fX1_record I P b1 = some r) : G X 3 0 0 n Ly 0 [some (.inr (some 21)), some (.inr (some b1)), none] [] I P := by
  unfold fX1_record at h
  refine s_aload_n F dX1_record_0 rfl ?_
  refine s_getI F dX1_record_1 flX1_17 (ly21 hs) (lt21 hs) rfl ?_
  refine s_iconst (v := 5) F dX1_record_4 (by decide) ?_
  refine s_icmp_lt (tgt := 12) F dX1_record_5 (by decide) (fun c1 => ?_) (fun c1 => ?_)
  · have h := if_t c1 h
    exact G.weak (by exact ⟨rfl, ⟨rfl, trivial⟩⟩) (lX1_record_J12 F hs hr post hb1 h)
  · have h := if_f c1 h
    refine s_aload_n F dX1_record_8 rfl ?_
    obtain ⟨v6, hv6, h⟩ := bd_i h
    refine s_cV (ci := 1) F dX1_record_9 (c_X1_dropOldest hs hv6) lkX1_22 okX1_dropOldest (by decide) (ly21 hs) (lt21 hs) rfl rfl (Nat.le_of_ble_eq_true rfl) (by decide) ?_
    have hs := shX1_dropOldest hs hv6
    exact G.weak (by exact ⟨rfl, ⟨rfl, trivial⟩⟩) (lX1_record_J12 F hs hr post hb1 h)
set_option maxRecDepth 100000 in
set_option maxHeartbeats 4000000 in
theorem c_X1_record {n : Nat} {Ly : LL} {I : II} {P : PP} {r : II × PP} (hs : ShC n Ly P) {b1 : Nat} (hb1 : SB b1) (h : fX1_record I P b1 = some r) (l : Launch) (s0 : Nat) (D : va_G) (DA : Nat → ClassId) : Ct l s0 D DA mX1_record [.inr (some 21), .inr (some b1)] 0 0 n Ly I P (PoD none n Ly r.1 r.2) := ct_of (by decide +kernel) (Nat.le_of_ble_eq_true rfl) (fun X F hr _ => bX1_record F hs hr ⟨rfl, rfl, rfl, rfl, rfl⟩ hb1 h)
theorem shX1_record_J12 {n : Nat} {Ly : LL} {P : PP} (hs : ShC n Ly P) {I : II} {b1 : Nat} {r : II × PP} (h : fX1_record_J12 I P b1 = some r) : ShC n Ly r.2 := by
  unfold fX1_record_J12 at h
  obtain ⟨v, hv, h⟩ := bd_i h
  cases v with
  | none =>
    cases h
    exact hs
  | some a =>
    dsimp only at h
    obtain ⟨v, hv, h⟩ := bd_i h
    cases h
    exact hs
theorem shX1_record {n : Nat} {Ly : LL} {P : PP} (hs : ShC n Ly P) {I : II} {b1 : Nat} {r : II × PP} (_hb1 : SB b1) (h : fX1_record I P b1 = some r) : ShC n Ly r.2 := by
  unfold fX1_record at h
  by_cases c : I 21 1 < 5
  · exact shX1_record_J12 hs (if_t c h)
  · have h := if_f c h
    obtain ⟨v, hv, h⟩ := bd_i h
    exact shX1_record_J12 (shX1_dropOldest hs hv) h
-- ChipPilers$Heaps.forget
def fX0_forget (I : II) : Option (II) := (some (up2 I 15 6 1)).bind fun I1 => some I1
set_option maxRecDepth 100000 in
set_option maxHeartbeats 4000000 in
theorem bX0_forget {X : Cx} {n : Nat} {Ly : LL} {I : II} {P : PP} {Po : PQ} {r : II} (F : Fx X RX0 cX0_forget 1 1 0 0) (hs : ShC n Ly P) (hr : Fr X none Po 0 0) (post : Po none n Ly r P)  (h : fX0_forget I = some r) : G X 1 0 0 n Ly 0 [some (.inr (some 15))] [] I P := by
  unfold fX0_forget at h
  refine s_aload_n F dX0_forget_0 rfl ?_
  refine s_iconst (v := 1) F dX0_forget_1 (by decide) ?_
  have h := bd_s h
  refine s_putI F dX0_forget_2 flX0_31 (ly15 hs) (lt15 hs) rfl rfl (by exact ⟨rfl, rfl⟩) ?_
  have h := Option.some.inj h
  subst h
  exact s_vret F hr dX0_forget_5 (Nat.le_refl _) (Nat.le_refl _) post
set_option maxRecDepth 100000 in
set_option maxHeartbeats 4000000 in
theorem c_X0_forget {n : Nat} {Ly : LL} {I : II} {P : PP} {r : II} (hs : ShC n Ly P)  (h : fX0_forget I = some r) (l : Launch) (s0 : Nat) (D : va_G) (DA : Nat → ClassId) : Ct l s0 D DA mX0_forget [.inr (some 15)] 0 0 n Ly I P (PoD none n Ly r P) := ct_of (by decide +kernel) (Nat.le_of_ble_eq_true rfl) (fun X F hr _ => bX0_forget F hs hr ⟨rfl, rfl, rfl, rfl, rfl⟩ h)
-- ChipPilers$World.clearBoard
def fX7_clearBoard (I : II) (x1 : Int32) (x2 : Int32) : Option (II) := (some (up2 I 2 0 x1)).bind fun I1 => (some (up2 I1 2 1 x2)).bind fun I2 => (some (fl2 I2 3 256 0)).bind fun I3 => (some (up2 I3 2 4 0)).bind fun I4 => (some (up2 I4 2 6 0)).bind fun I5 => (some (up2 I5 2 7 0)).bind fun I6 => (fX0_forget I6).bind fun v7 => some v7
set_option maxRecDepth 100000 in
set_option maxHeartbeats 4000000 in
theorem bX7_clearBoard {X : Cx} {n : Nat} {Ly : LL} {I : II} {P : PP} {Po : PQ} {r : II} (F : Fx X RX7 cX7_clearBoard 3 2 0 0) (hs : ShC n Ly P) (hr : Fr X none Po 0 0) (post : Po none n Ly r P) {x1 : Int32} {x2 : Int32} (h : fX7_clearBoard I x1 x2 = some r) : G X 3 0 0 n Ly 0 [some (.inr (some 1)), some (.inl x1), some (.inl x2)] [] I P := by
  unfold fX7_clearBoard at h
  refine s_aload_n F dX7_clearBoard_0 rfl ?_
  refine s_getR F dX7_clearBoard_1 flX7_12 (ly1 hs) (lt1 hs) rfl (p1_0 hs) ?_
  refine s_iload_n F dX7_clearBoard_4 rfl ?_
  have h := bd_s h
  refine s_putI F dX7_clearBoard_5 flX7_32 (lyS hs sb2) (ltSb hs sb2) rfl rfl ⟨rfl, rfl⟩ ?_
  refine s_aload_n F dX7_clearBoard_8 rfl ?_
  refine s_getR F dX7_clearBoard_9 flX7_12 (ly1 hs) (lt1 hs) rfl (p1_0 hs) ?_
  refine s_iload_n F dX7_clearBoard_12 rfl ?_
  have h := bd_s h
  refine s_putI F dX7_clearBoard_13 flX7_36 (lyS hs sb2) (ltSb hs sb2) rfl rfl ⟨rfl, rfl⟩ ?_
  refine s_aload_n F dX7_clearBoard_16 rfl ?_
  refine s_getR F dX7_clearBoard_17 flX7_12 (ly1 hs) (lt1 hs) rfl (p1_0 hs) ?_
  refine s_getR F dX7_clearBoard_20 flX7_39 (lyS hs sb2) (ltSb hs sb2) rfl (pS2 hs sb2) ?_
  refine s_iconst (v := 0) F dX7_clearBoard_23 (by decide) ?_
  have h := bd_s h
  refine s_cS F dX7_clearBoard_24 (c_fill (lyS1 hs sb2) (ltS1 hs sb2)) lkX7_43 okFill rfl (Nat.le_of_ble_eq_true rfl) (by decide) ?_
  refine s_aload_n F dX7_clearBoard_27 rfl ?_
  refine s_getR F dX7_clearBoard_28 flX7_12 (ly1 hs) (lt1 hs) rfl (p1_0 hs) ?_
  refine s_iconst (v := 0) F dX7_clearBoard_31 (by decide) ?_
  have h := bd_s h
  refine s_putI F dX7_clearBoard_32 flX7_49 (lyS hs sb2) (ltSb hs sb2) rfl rfl ⟨rfl, rfl⟩ ?_
  refine s_aload_n F dX7_clearBoard_35 rfl ?_
  refine s_getR F dX7_clearBoard_36 flX7_12 (ly1 hs) (lt1 hs) rfl (p1_0 hs) ?_
  refine s_iconst (v := 0) F dX7_clearBoard_39 (by decide) ?_
  have h := bd_s h
  refine s_putI F dX7_clearBoard_40 flX7_52 (lyS hs sb2) (ltSb hs sb2) rfl rfl ⟨rfl, rfl⟩ ?_
  refine s_aload_n F dX7_clearBoard_43 rfl ?_
  refine s_getR F dX7_clearBoard_44 flX7_12 (ly1 hs) (lt1 hs) rfl (p1_0 hs) ?_
  refine s_iconst (v := 0) F dX7_clearBoard_47 (by decide) ?_
  have h := bd_s h
  refine s_putI F dX7_clearBoard_48 flX7_55 (lyS hs sb2) (ltSb hs sb2) rfl rfl ⟨rfl, rfl⟩ ?_
  refine s_aload_n F dX7_clearBoard_51 rfl ?_
  refine s_getR F dX7_clearBoard_52 flX7_21 (ly1 hs) (lt1 hs) rfl (p1_1 hs) ?_
  obtain ⟨v7, hv7, h⟩ := bd_i h
  refine s_cV (ci := 0) F dX7_clearBoard_55 (c_X0_forget hs hv7) lkX7_29 okX0_forget (by decide) (ly15 hs) (lt15 hs) rfl rfl (Nat.le_of_ble_eq_true rfl) (by decide) ?_
  have h := Option.some.inj h
  subst h
  exact s_vret F hr dX7_clearBoard_58 (Nat.le_refl _) (Nat.le_refl _) post
set_option maxRecDepth 100000 in
set_option maxHeartbeats 4000000 in
theorem c_X7_clearBoard {n : Nat} {Ly : LL} {I : II} {P : PP} {r : II} (hs : ShC n Ly P) {x1 : Int32} {x2 : Int32} (h : fX7_clearBoard I x1 x2 = some r) (l : Launch) (s0 : Nat) (D : va_G) (DA : Nat → ClassId) : Ct l s0 D DA mX7_clearBoard [.inr (some 1), .inl x1, .inl x2] 0 0 n Ly I P (PoD none n Ly r P) := ct_of (by decide +kernel) (Nat.le_of_ble_eq_true rfl) (fun X F hr _ => bX7_clearBoard F hs hr ⟨rfl, rfl, rfl, rfl, rfl⟩ h)
-- ChipPilers$State.hasCell
def fX4_hasCell (I : II) (b0 : Nat) (x1 : Int32) (x2 : Int32) : Option (Int32) := (if x1 < 0 then some 0 else (if (I b0 0) ≤ x1 then some 0 else (if x2 < 0 then some 0 else (if (I b0 1) ≤ x2 then some 0 else some 1))))
set_option maxRecDepth 100000 in
set_option maxHeartbeats 4000000 in
theorem bX4_hasCell {X : Cx} {n : Nat} {Ly : LL} {I : II} {P : PP} {Po : PQ} {r : Int32} (F : Fx X RX4 cX4_hasCell 3 1 0 0) (hs : ShC n Ly P) (hr : Fr X (some .boolean) Po 0 0) (post : Po (some (.inl r)) n Ly I P) {b0 : Nat} (hb0 : SB b0) {x1 : Int32} {x2 : Int32} (h : fX4_hasCell I b0 x1 x2 = some r) : G X 3 0 0 n Ly 0 [some (.inr (some b0)), some (.inl x1), some (.inl x2)] [] I P := by
  unfold fX4_hasCell at h
  refine s_iload_n F dX4_hasCell_0 rfl ?_
  refine s_if_lt (tgt := 28) F dX4_hasCell_1 (by decide) (fun c1 => ?_) (fun c1 => ?_)
  · have h := if_t c1 h
    refine s_iconst (v := 0) F dX4_hasCell_28 (by decide) ?_
    have h := Option.some.inj h
    subst h
    exact s_iret F hr dX4_hasCell_29 rfl (Nat.le_refl _) (Nat.le_refl _) post
  · have h := if_f c1 h
    refine s_iload_n F dX4_hasCell_4 rfl ?_
    refine s_aload_n F dX4_hasCell_5 rfl ?_
    refine s_getI F dX4_hasCell_6 flX4_9 (lyS hs hb0) (ltSb hs hb0) rfl ?_
    refine s_icmp_ge (tgt := 28) F dX4_hasCell_9 (by decide) (fun c2 => ?_) (fun c2 => ?_)
    · have h := if_t c2 h
      refine s_iconst (v := 0) F dX4_hasCell_28 (by decide) ?_
      have h := Option.some.inj h
      subst h
      exact s_iret F hr dX4_hasCell_29 rfl (Nat.le_refl _) (Nat.le_refl _) post
    · have h := if_f c2 h
      refine s_iload_n F dX4_hasCell_12 rfl ?_
      refine s_if_lt (tgt := 28) F dX4_hasCell_13 (by decide) (fun c3 => ?_) (fun c3 => ?_)
      · have h := if_t c3 h
        refine s_iconst (v := 0) F dX4_hasCell_28 (by decide) ?_
        have h := Option.some.inj h
        subst h
        exact s_iret F hr dX4_hasCell_29 rfl (Nat.le_refl _) (Nat.le_refl _) post
      · have h := if_f c3 h
        refine s_iload_n F dX4_hasCell_16 rfl ?_
        refine s_aload_n F dX4_hasCell_17 rfl ?_
        refine s_getI F dX4_hasCell_18 flX4_15 (lyS hs hb0) (ltSb hs hb0) rfl ?_
        refine s_icmp_ge (tgt := 28) F dX4_hasCell_21 (by decide) (fun c4 => ?_) (fun c4 => ?_)
        · have h := if_t c4 h
          refine s_iconst (v := 0) F dX4_hasCell_28 (by decide) ?_
          have h := Option.some.inj h
          subst h
          exact s_iret F hr dX4_hasCell_29 rfl (Nat.le_refl _) (Nat.le_refl _) post
        · have h := if_f c4 h
          refine s_iconst (v := 1) F dX4_hasCell_24 (by decide) ?_
          refine s_goto (tgt := 29) F dX4_hasCell_25 (by decide) ?_
          have h := Option.some.inj h
          subst h
          exact s_iret F hr dX4_hasCell_29 rfl (Nat.le_refl _) (Nat.le_refl _) post
set_option maxRecDepth 100000 in
set_option maxHeartbeats 4000000 in
theorem c_X4_hasCell {n : Nat} {Ly : LL} {I : II} {P : PP} {r : Int32} (hs : ShC n Ly P) {b0 : Nat} (hb0 : SB b0) {x1 : Int32} {x2 : Int32} (h : fX4_hasCell I b0 x1 x2 = some r) (l : Launch) (s0 : Nat) (D : va_G) (DA : Nat → ClassId) : Ct l s0 D DA mX4_hasCell [.inr (some b0), .inl x1, .inl x2] 0 0 n Ly I P (PoD (some (.inl r)) n Ly I P) := ct_of (by decide +kernel) (Nat.le_of_ble_eq_true rfl) (fun X F hr _ => bX4_hasCell F hs hr ⟨rfl, rfl, rfl, rfl, rfl⟩ hb0 h)
-- ChipPilers$State.cellAt
def fX4_cellAt (I : II) (b0 : Nat) (x1 : Int32) (x2 : Int32) : Option (Int32) := (fX4_hasCell I b0 x1 x2).bind fun v1 => (if v1 = 0 then some (-1) else some ((x1 * 16) + x2))
set_option maxRecDepth 100000 in
set_option maxHeartbeats 4000000 in
theorem bX4_cellAt {X : Cx} {n : Nat} {Ly : LL} {I : II} {P : PP} {Po : PQ} {r : Int32} (F : Fx X RX4 cX4_cellAt 3 2 0 0) (hs : ShC n Ly P) (hr : Fr X (some .int) Po 0 0) (post : Po (some (.inl r)) n Ly I P) {b0 : Nat} (hb0 : SB b0) {x1 : Int32} {x2 : Int32} (h : fX4_cellAt I b0 x1 x2 = some r) : G X 3 0 0 n Ly 0 [some (.inr (some b0)), some (.inl x1), some (.inl x2)] [] I P := by
  unfold fX4_cellAt at h
  refine s_aload_n F dX4_cellAt_0 rfl ?_
  refine s_iload_n F dX4_cellAt_1 rfl ?_
  refine s_iload_n F dX4_cellAt_2 rfl ?_
  obtain ⟨v1, hv1, h⟩ := bd_i h
  refine s_cV (ci := 4) F dX4_cellAt_3 (c_X4_hasCell hs hb0 hv1) lkX4_62 okX4_hasCell (by decide) (lyS hs hb0) (ltSb hs hb0) rfl rfl (Nat.le_of_ble_eq_true rfl) (by decide) ?_
  refine s_if_eq (tgt := 18) F dX4_cellAt_6 (by decide) (fun c2 => ?_) (fun c2 => ?_)
  · have h := if_t c2 h
    refine s_iconst (v := (-1)) F dX4_cellAt_18 (by decide) ?_
    have h := Option.some.inj h
    subst h
    exact s_iret F hr dX4_cellAt_19 rfl (Nat.le_refl _) (Nat.le_refl _) post
  · have h := if_f c2 h
    refine s_iload_n F dX4_cellAt_9 rfl ?_
    refine s_bipush (v := 16) F dX4_cellAt_10 (by decide) ?_
    refine s_imul F dX4_cellAt_12 ?_
    refine s_iload_n F dX4_cellAt_13 rfl ?_
    refine s_iadd F dX4_cellAt_14 ?_
    refine s_goto (tgt := 19) F dX4_cellAt_15 (by decide) ?_
    have h := Option.some.inj h
    subst h
    exact s_iret F hr dX4_cellAt_19 rfl (Nat.le_refl _) (Nat.le_refl _) post
set_option maxRecDepth 100000 in
set_option maxHeartbeats 4000000 in
theorem c_X4_cellAt {n : Nat} {Ly : LL} {I : II} {P : PP} {r : Int32} (hs : ShC n Ly P) {b0 : Nat} (hb0 : SB b0) {x1 : Int32} {x2 : Int32} (h : fX4_cellAt I b0 x1 x2 = some r) (l : Launch) (s0 : Nat) (D : va_G) (DA : Nat → ClassId) : Ct l s0 D DA mX4_cellAt [.inr (some b0), .inl x1, .inl x2] 0 0 n Ly I P (PoD (some (.inl r)) n Ly I P) := ct_of (by decide +kernel) (Nat.le_of_ble_eq_true rfl) (fun X F hr _ => bX4_cellAt F hs hr ⟨rfl, rfl, rfl, rfl, rfl⟩ hb0 h)
-- ChipPilers$State.chipsOf
def fX4_chipsOf (I : II) (b0 : Nat) (x1 : Int32) : Option (Int32) := (if x1 < 0 then some 0 else (if 256 ≤ x1 then some 0 else ck (ix x1 256) (some (I (b0 + 1) x1.toNatClampNeg))))
set_option maxRecDepth 100000 in
set_option maxHeartbeats 4000000 in
theorem bX4_chipsOf {X : Cx} {n : Nat} {Ly : LL} {I : II} {P : PP} {Po : PQ} {r : Int32} (F : Fx X RX4 cX4_chipsOf 2 1 0 0) (hs : ShC n Ly P) (hr : Fr X (some .int) Po 0 0) (post : Po (some (.inl r)) n Ly I P) {b0 : Nat} (hb0 : SB b0) {x1 : Int32} (h : fX4_chipsOf I b0 x1 = some r) : G X 2 0 0 n Ly 0 [some (.inr (some b0)), some (.inl x1)] [] I P := by
  unfold fX4_chipsOf at h
  refine s_iload_n F dX4_chipsOf_0 rfl ?_
  refine s_if_lt (tgt := 22) F dX4_chipsOf_1 (by decide) (fun c1 => ?_) (fun c1 => ?_)
  · have h := if_t c1 h
    refine s_iconst (v := 0) F dX4_chipsOf_22 (by decide) ?_
    have h := Option.some.inj h
    subst h
    exact s_iret F hr dX4_chipsOf_23 rfl (Nat.le_refl _) (Nat.le_refl _) post
  · have h := if_f c1 h
    refine s_iload_n F dX4_chipsOf_4 rfl ?_
    refine s_aload_n F dX4_chipsOf_5 rfl ?_
    refine s_getR F dX4_chipsOf_6 flX4_18 (lyS hs hb0) (ltSb hs hb0) rfl (pS2 hs hb0) ?_
    refine s_alen (v := 256) F dX4_chipsOf_9 (lyS1 hs hb0) (by decide) (ltS1 hs hb0) (by decide) ?_
    refine s_icmp_ge (tgt := 22) F dX4_chipsOf_10 (by decide) (fun c2 => ?_) (fun c2 => ?_)
    · have h := if_t c2 h
      refine s_iconst (v := 0) F dX4_chipsOf_22 (by decide) ?_
      have h := Option.some.inj h
      subst h
      exact s_iret F hr dX4_chipsOf_23 rfl (Nat.le_refl _) (Nat.le_refl _) post
    · have h := if_f c2 h
      refine s_aload_n F dX4_chipsOf_13 rfl ?_
      refine s_getR F dX4_chipsOf_14 flX4_18 (lyS hs hb0) (ltSb hs hb0) rfl (pS2 hs hb0) ?_
      refine s_iload_n F dX4_chipsOf_17 rfl ?_
      obtain ⟨hc3, h⟩ := ck_s h
      refine s_iald F dX4_chipsOf_18 (lyS1 hs hb0) (ltS1 hs hb0) (ix_s hc3) ?_
      refine s_goto (tgt := 23) F dX4_chipsOf_19 (by decide) ?_
      have h := Option.some.inj h
      subst h
      exact s_iret F hr dX4_chipsOf_23 rfl (Nat.le_refl _) (Nat.le_refl _) post
set_option maxRecDepth 100000 in
set_option maxHeartbeats 4000000 in
theorem c_X4_chipsOf {n : Nat} {Ly : LL} {I : II} {P : PP} {r : Int32} (hs : ShC n Ly P) {b0 : Nat} (hb0 : SB b0) {x1 : Int32} (h : fX4_chipsOf I b0 x1 = some r) (l : Launch) (s0 : Nat) (D : va_G) (DA : Nat → ClassId) : Ct l s0 D DA mX4_chipsOf [.inr (some b0), .inl x1] 0 0 n Ly I P (PoD (some (.inl r)) n Ly I P) := ct_of (by decide +kernel) (Nat.le_of_ble_eq_true rfl) (fun X F hr _ => bX4_chipsOf F hs hr ⟨rfl, rfl, rfl, rfl, rfl⟩ hb0 h)
-- ChipPilers$Heaps.follow
def fX0_follow_J26 (I : II) (x1 : Int32) (x2 : Int32) (x3 : Int32) : Option (II) := (if ¬ (I 15 6) = 0 then some I else (if x1 < 0 then some I else (if x1 < 256 then ck (ix x1 256) ((if (I 19 x1.toNatClampNeg) < 0 then some I else (if 128 ≤ (I 19 x1.toNatClampNeg) then some I else ck (ix (I 19 x1.toNatClampNeg) 128) (ck (ix (I 19 x1.toNatClampNeg) 128) ((some (up2 I 16 (I 19 x1.toNatClampNeg).toNatClampNeg ((I 16 (I 19 x1.toNatClampNeg).toNatClampNeg) + (x3 - x2)))).bind fun I12 => some I12))))) else some I)))
def fX0_follow_J18 (I : II) (x1 : Int32) (x2 : Int32) (x3 : Int32) (s0 : Int32) (s1 : Int32) : Option (II) := (if s0 = s1 then fX0_follow_J26 I x1 x2 x3 else (some (up2 I 15 6 1)).bind fun I13 => fX0_follow_J26 I13 x1 x2 x3)
def fX0_follow_J9 (I : II) (x1 : Int32) (x2 : Int32) (x3 : Int32) (s0 : Int32) : Option (II) := (if ¬ x3 = 0 then fX0_follow_J18 I x1 x2 x3 s0 0 else fX0_follow_J18 I x1 x2 x3 s0 1)
def fX0_follow (I : II) (x1 : Int32) (x2 : Int32) (x3 : Int32) : Option (II) := (if ¬ x2 = 0 then fX0_follow_J9 I x1 x2 x3 0 else fX0_follow_J9 I x1 x2 x3 1)
set_option maxRecDepth 100000 in
set_option maxHeartbeats 4000000 in
theorem lX0_follow_J26 {X : Cx} {n : Nat} {Ly : LL} {I : II} {P : PP} {Po : PQ} {r : II} (F : Fx X RX0 cX0_follow 5 1 0 0) (hs : ShC n Ly P) (hr : Fr X none Po 0 0) (post : Po none n Ly r P) {x1 : Int32} {x2 : Int32} {x3 : Int32} (h : fX0_follow_J26 I x1 x2 x3 = some r) : G X 5 0 0 n Ly 26 [some (.inr (some 15)), some (.inl x1), some (.inl x2), some (.inl x3), none] [] I P := by
  unfold fX0_follow_J26 at h
  refine s_aload_n F dX0_follow_26 rfl ?_
  refine s_getI F dX0_follow_27 flX0_31 (ly15 hs) (lt15 hs) rfl ?_
  refine s_if_ne (tgt := 44) F dX0_follow_30 (by decide) (fun c4 => ?_) (fun c4 => ?_)
  · have h := if_t c4 h
    have h := Option.some.inj h
    subst h
    exact s_vret F hr dX0_follow_44 (Nat.le_refl _) (Nat.le_refl _) post
  · have h := if_f (not_not_intro c4) h
    refine s_iload_n F dX0_follow_33 rfl ?_
    refine s_if_lt (tgt := 44) F dX0_follow_34 (by decide) (fun c5 => ?_) (fun c5 => ?_)
    · have h := if_t c5 h
      have h := Option.some.inj h
      subst h
      exact s_vret F hr dX0_follow_44 (Nat.le_refl _) (Nat.le_refl _) post
    · have h := if_f c5 h
      refine s_iload_n F dX0_follow_37 rfl ?_
      refine s_sipush (v := 256) F dX0_follow_38 (by decide) ?_
      refine s_icmp_lt (tgt := 45) F dX0_follow_41 (by decide) (fun c6 => ?_) (fun c6 => ?_)
      · have h := if_t c6 h
        refine s_aload_n F dX0_follow_45 rfl ?_
        refine s_getR F dX0_follow_46 flX0_21 (ly15 hs) (lt15 hs) rfl (p15_3 hs) ?_
        refine s_iload_n F dX0_follow_49 rfl ?_
        obtain ⟨hc7, h⟩ := ck_s h
        refine s_iald F dX0_follow_50 (ly19 hs) (lt19 hs) (ix_s hc7) ?_
        refine s_istore F dX0_follow_51 (by decide) ?_
        refine s_iload F dX0_follow_53 rfl ?_
        refine s_if_lt (tgt := 79) F dX0_follow_55 (by decide) (fun c8 => ?_) (fun c8 => ?_)
        · have h := if_t c8 h
          have h := Option.some.inj h
          subst h
          exact s_vret F hr dX0_follow_79 (Nat.le_refl _) (Nat.le_refl _) post
        · have h := if_f c8 h
          refine s_iload F dX0_follow_58 rfl ?_
          refine s_sipush (v := 128) F dX0_follow_60 (by decide) ?_
          refine s_icmp_ge (tgt := 79) F dX0_follow_63 (by decide) (fun c9 => ?_) (fun c9 => ?_)
          · have h := if_t c9 h
            have h := Option.some.inj h
            subst h
            exact s_vret F hr dX0_follow_79 (Nat.le_refl _) (Nat.le_refl _) post
          · have h := if_f c9 h
            refine s_aload_n F dX0_follow_66 rfl ?_
            refine s_getR F dX0_follow_67 flX0_9 (ly15 hs) (lt15 hs) rfl (p15_0 hs) ?_
            refine s_iload F dX0_follow_70 rfl ?_
            refine s_dup2 F dX0_follow_72 ?_
            obtain ⟨hc10, h⟩ := ck_s h
            refine s_iald F dX0_follow_73 (ly16 hs) (lt16 hs) (ix_s hc10) ?_
            refine s_iload_n F dX0_follow_74 rfl ?_
            refine s_iload_n F dX0_follow_75 rfl ?_
            refine s_isub F dX0_follow_76 ?_
            refine s_iadd F dX0_follow_77 ?_
            obtain ⟨hc11, h⟩ := ck_s h
            have h := bd_s h
            refine s_iast F dX0_follow_78 (ly16 hs) (lt16 hs) (ix_s hc11) ?_
            have h := Option.some.inj h
            subst h
            exact s_vret F hr dX0_follow_79 (Nat.le_refl _) (Nat.le_refl _) post
      · have h := if_f c6 h
        have h := Option.some.inj h
        subst h
        exact s_vret F hr dX0_follow_44 (Nat.le_refl _) (Nat.le_refl _) post
set_option maxRecDepth 100000 in
set_option maxHeartbeats 4000000 in
theorem lX0_follow_J18 {X : Cx} {n : Nat} {Ly : LL} {I : II} {P : PP} {Po : PQ} {r : II} (F : Fx X RX0 cX0_follow 5 1 0 0) (hs : ShC n Ly P) (hr : Fr X none Po 0 0) (post : Po none n Ly r P) {x1 : Int32} {x2 : Int32} {x3 : Int32} {s0 : Int32} {s1 : Int32} (h : fX0_follow_J18 I x1 x2 x3 s0 s1 = some r) : G X 5 0 0 n Ly 18 [some (.inr (some 15)), some (.inl x1), some (.inl x2), some (.inl x3), none] [.inl s1, .inl s0] I P := by
  unfold fX0_follow_J18 at h
  refine s_icmp_eq (tgt := 26) F dX0_follow_18 (by decide) (fun c3 => ?_) (fun c3 => ?_)
  · have h := if_t c3 h
    exact G.weak (by exact ⟨rfl, ⟨rfl, ⟨rfl, ⟨rfl, trivial⟩⟩⟩⟩) (lX0_follow_J26 F hs hr post h)
  · have h := if_f c3 h
    refine s_aload_n F dX0_follow_21 rfl ?_
    refine s_iconst (v := 1) F dX0_follow_22 (by decide) ?_
    have h := bd_s h
    refine s_putI F dX0_follow_23 flX0_31 (ly15 hs) (lt15 hs) rfl rfl (by exact ⟨rfl, rfl⟩) ?_
    exact G.weak (by exact ⟨rfl, ⟨rfl, ⟨rfl, ⟨rfl, trivial⟩⟩⟩⟩) (lX0_follow_J26 F hs hr post h)
set_option maxRecDepth 100000 in
set_option maxHeartbeats 4000000 in
theorem lX0_follow_J9 {X : Cx} {n : Nat} {Ly : LL} {I : II} {P : PP} {Po : PQ} {r : II} (F : Fx X RX0 cX0_follow 5 1 0 0) (hs : ShC n Ly P) (hr : Fr X none Po 0 0) (post : Po none n Ly r P) {x1 : Int32} {x2 : Int32} {x3 : Int32} {s0 : Int32} (h : fX0_follow_J9 I x1 x2 x3 s0 = some r) : G X 5 0 0 n Ly 9 [some (.inr (some 15)), some (.inl x1), some (.inl x2), some (.inl x3), none] [.inl s0] I P := by
  unfold fX0_follow_J9 at h
  refine s_iload_n F dX0_follow_9 rfl ?_
  refine s_if_ne (tgt := 17) F dX0_follow_10 (by decide) (fun c2 => ?_) (fun c2 => ?_)
  · have h := if_t c2 h
    refine s_iconst (v := 0) F dX0_follow_17 (by decide) ?_
    exact G.weak (by exact ⟨rfl, ⟨rfl, ⟨rfl, ⟨rfl, trivial⟩⟩⟩⟩) (lX0_follow_J18 F hs hr post h)
  · have h := if_f (not_not_intro c2) h
    refine s_iconst (v := 1) F dX0_follow_13 (by decide) ?_
    refine s_goto (tgt := 18) F dX0_follow_14 (by decide) ?_
    exact G.weak (by exact ⟨rfl, ⟨rfl, ⟨rfl, ⟨rfl, trivial⟩⟩⟩⟩) (lX0_follow_J18 F hs hr post h)
set_option maxRecDepth 100000 in
set_option maxHeartbeats 4000000 in
theorem bX0_follow {X : Cx} {n : Nat} {Ly : LL} {I : II} {P : PP} {Po : PQ} {r : II} (F : Fx X RX0 cX0_follow 5 1 0 0) (hs : ShC n Ly P) (hr : Fr X none Po 0 0) (post : Po none n Ly r P) {x1 : Int32} {x2 : Int32} {x3 : Int32} (h : fX0_follow I x1 x2 x3 = some r) : G X 5 0 0 n Ly 0 [some (.inr (some 15)), some (.inl x1), some (.inl x2), some (.inl x3), none] [] I P := by
  unfold fX0_follow at h
  refine s_iload_n F dX0_follow_0 rfl ?_
  refine s_if_ne (tgt := 8) F dX0_follow_1 (by decide) (fun c1 => ?_) (fun c1 => ?_)
  · have h := if_t c1 h
    refine s_iconst (v := 0) F dX0_follow_8 (by decide) ?_
    exact G.weak (by exact ⟨rfl, ⟨rfl, ⟨rfl, ⟨rfl, trivial⟩⟩⟩⟩) (lX0_follow_J9 F hs hr post h)
  · have h := if_f (not_not_intro c1) h
    refine s_iconst (v := 1) F dX0_follow_4 (by decide) ?_
    refine s_goto (tgt := 9) F dX0_follow_5 (by decide) ?_
    exact G.weak (by exact ⟨rfl, ⟨rfl, ⟨rfl, ⟨rfl, trivial⟩⟩⟩⟩) (lX0_follow_J9 F hs hr post h)
set_option maxRecDepth 100000 in
set_option maxHeartbeats 4000000 in
theorem c_X0_follow {n : Nat} {Ly : LL} {I : II} {P : PP} {r : II} (hs : ShC n Ly P) {x1 : Int32} {x2 : Int32} {x3 : Int32} (h : fX0_follow I x1 x2 x3 = some r) (l : Launch) (s0 : Nat) (D : va_G) (DA : Nat → ClassId) : Ct l s0 D DA mX0_follow [.inr (some 15), .inl x1, .inl x2, .inl x3] 0 0 n Ly I P (PoD none n Ly r P) := ct_of (by decide +kernel) (Nat.le_of_ble_eq_true rfl) (fun X F hr _ => bX0_follow F hs hr ⟨rfl, rfl, rfl, rfl, rfl⟩ h)
-- ChipPilers$World.setChips
def fX7_setChips (I : II) (x1 : Int32) (x2 : Int32) : Option (II) := (if x1 < 0 then some I else (if x1 < 256 then ck (ix x1 256) (ck (ix x1 256) ((some (up2 I 3 x1.toNatClampNeg x2)).bind fun I5 => (fX0_follow I5 x1 (I 3 x1.toNatClampNeg) x2).bind fun v6 => some v6)) else some I))
set_option maxRecDepth 100000 in
set_option maxHeartbeats 4000000 in
theorem bX7_setChips {X : Cx} {n : Nat} {Ly : LL} {I : II} {P : PP} {Po : PQ} {r : II} (F : Fx X RX7 cX7_setChips 4 2 0 0) (hs : ShC n Ly P) (hr : Fr X none Po 0 0) (post : Po none n Ly r P) {x1 : Int32} {x2 : Int32} (h : fX7_setChips I x1 x2 = some r) : G X 4 0 0 n Ly 0 [some (.inr (some 1)), some (.inl x1), some (.inl x2), none] [] I P := by
  unfold fX7_setChips at h
  refine s_iload_n F dX7_setChips_0 rfl ?_
  refine s_if_lt (tgt := 11) F dX7_setChips_1 (by decide) (fun c1 => ?_) (fun c1 => ?_)
  · have h := if_t c1 h
    have h := Option.some.inj h
    subst h
    exact s_vret F hr dX7_setChips_11 (Nat.le_refl _) (Nat.le_refl _) post
  · have h := if_f c1 h
    refine s_iload_n F dX7_setChips_4 rfl ?_
    refine s_sipush (v := 256) F dX7_setChips_5 (by decide) ?_
    refine s_icmp_lt (tgt := 12) F dX7_setChips_8 (by decide) (fun c2 => ?_) (fun c2 => ?_)
    · have h := if_t c2 h
      refine s_aload_n F dX7_setChips_12 rfl ?_
      refine s_getR F dX7_setChips_13 flX7_12 (ly1 hs) (lt1 hs) rfl (p1_0 hs) ?_
      refine s_getR F dX7_setChips_16 flX7_39 (lyS hs sb2) (ltSb hs sb2) rfl (pS2 hs sb2) ?_
      refine s_iload_n F dX7_setChips_19 rfl ?_
      obtain ⟨hc3, h⟩ := ck_s h
      refine s_iald F dX7_setChips_20 (lyS1 hs sb2) (ltS1 hs sb2) (ix_s hc3) ?_
      refine s_istore_n F dX7_setChips_21 (by decide) ?_
      refine s_aload_n F dX7_setChips_22 rfl ?_
      refine s_getR F dX7_setChips_23 flX7_12 (ly1 hs) (lt1 hs) rfl (p1_0 hs) ?_
      refine s_getR F dX7_setChips_26 flX7_39 (lyS hs sb2) (ltSb hs sb2) rfl (pS2 hs sb2) ?_
      refine s_iload_n F dX7_setChips_29 rfl ?_
      refine s_iload_n F dX7_setChips_30 rfl ?_
      obtain ⟨hc4, h⟩ := ck_s h
      have h := bd_s h
      refine s_iast F dX7_setChips_31 (lyS1 hs sb2) (ltS1 hs sb2) (ix_s hc4) ?_
      refine s_aload_n F dX7_setChips_32 rfl ?_
      refine s_getR F dX7_setChips_33 flX7_21 (ly1 hs) (lt1 hs) rfl (p1_1 hs) ?_
      refine s_iload_n F dX7_setChips_36 rfl ?_
      refine s_iload_n F dX7_setChips_37 rfl ?_
      refine s_iload_n F dX7_setChips_38 rfl ?_
      obtain ⟨v6, hv6, h⟩ := bd_i h
      refine s_cV (ci := 0) F dX7_setChips_39 (c_X0_follow hs hv6) lkX7_58 okX0_follow (by decide) (ly15 hs) (lt15 hs) rfl rfl (Nat.le_of_ble_eq_true rfl) (by decide) ?_
      have h := Option.some.inj h
      subst h
      exact s_vret F hr dX7_setChips_42 (Nat.le_refl _) (Nat.le_refl _) post
    · have h := if_f c2 h
      have h := Option.some.inj h
      subst h
      exact s_vret F hr dX7_setChips_11 (Nat.le_refl _) (Nat.le_refl _) post
set_option maxRecDepth 100000 in
set_option maxHeartbeats 4000000 in
theorem c_X7_setChips {n : Nat} {Ly : LL} {I : II} {P : PP} {r : II} (hs : ShC n Ly P) {x1 : Int32} {x2 : Int32} (h : fX7_setChips I x1 x2 = some r) (l : Launch) (s0 : Nat) (D : va_G) (DA : Nat → ClassId) : Ct l s0 D DA mX7_setChips [.inr (some 1), .inl x1, .inl x2] 0 0 n Ly I P (PoD none n Ly r P) := ct_of (by decide +kernel) (Nat.le_of_ble_eq_true rfl) (fun X F hr _ => bX7_setChips F hs hr ⟨rfl, rfl, rfl, rfl, rfl⟩ h)
-- ChipPilers$World.strewOver
def fX7_strewOver_L21 : Nat → (Int32 → II → Option (Int32 × II)) → Int32 → Int32 → Int32 → Int32 → Int32 → Int32 → Int32 → II → Option (Int32 × II)
  | 0, _, _, _, _, _, _, _, _, _ => none
  | k + 1, ct, x1, x2, x3, x4, x6, x5, x7, I => (if (I 2 1) ≤ x7 then ct x5 I else (fX4_cellAt I 2 x6 x7).bind fun v3 => (fX4_chipsOf I 2 v3).bind fun v4 => (if x3 ≤ 0 then fX7_strewOver_L21 k ct x1 x2 x3 x4 x6 x5 (x7 + 1) I else ck (nz x3) ((if ¬ (rm ((x6 * x1) + (x7 * x2)) x3) = 0 then fX7_strewOver_L21 k ct x1 x2 x3 x4 x6 x5 (x7 + 1) I else (if 99 ≤ v4 then fX7_strewOver_L21 k ct x1 x2 x3 x4 x6 x5 (x7 + 1) I else (if x4 = 0 then fX7_strewOver_L21 k ct x1 x2 x3 x4 x6 (x5 + 1) (x7 + 1) I else (fX7_setChips I v3 (v4 + 1)).bind fun v10 => fX7_strewOver_L21 k ct x1 x2 x3 x4 x6 (x5 + 1) (x7 + 1) v10))))))
def fX7_strewOver_L6 : Nat → (Int32 → II → Option (Int32 × II)) → Int32 → Int32 → Int32 → Int32 → Int32 → Int32 → II → Option (Int32 × II)
  | 0, _, _, _, _, _, _, _, _ => none
  | k + 1, ct, x1, x2, x3, x4, x5, x6, I => (if (I 2 0) ≤ x6 then ct x5 I else fX7_strewOver_L21 2000 (fun z11 I12 => fX7_strewOver_L6 k ct x1 x2 x3 x4 z11 (x6 + 1) I12) x1 x2 x3 x4 x6 x5 0 I)
def fX7_strewOver (I : II) (x1 : Int32) (x2 : Int32) (x3 : Int32) (x4 : Int32) : Option (Int32 × II) := fX7_strewOver_L6 2000 (fun z13 I14 => some (z13, I14)) x1 x2 x3 x4 0 0 I
set_option maxRecDepth 100000 in
set_option maxHeartbeats 4000000 in
theorem lX7_strewOver_L21 {X : Cx} {n : Nat} {Ly : LL} {P : PP} {Po : PQ} {r : Int32 × II} (F : Fx X RX7 cX7_strewOver 10 3 0 0) (hs : ShC n Ly P) (hr : Fr X (some .int) Po 0 0) (post : Po (some (.inl r.1)) n Ly r.2 P) {x1 : Int32} {x2 : Int32} {x3 : Int32} {x4 : Int32} {x6 : Int32} {ct : Int32 → II → Option (Int32 × II)} (hct : ∀ (x5 : Int32) (I : II), ct x5 I = some r → G X 10 0 0 n Ly 106 [some (.inr (some 1)), some (.inl x1), some (.inl x2), some (.inl x3), some (.inl x4), some (.inl x5), some (.inl x6), none, none, none] [] I P) : ∀ (k : Nat) (x5 : Int32) (x7 : Int32) (I : II), fX7_strewOver_L21 k ct x1 x2 x3 x4 x6 x5 x7 I = some r → G X 10 0 0 n Ly 21 [some (.inr (some 1)), some (.inl x1), some (.inl x2), some (.inl x3), some (.inl x4), some (.inl x5), some (.inl x6), some (.inl x7), none, none] [] I P := by
  intro k
  induction k with
  | zero =>
    intro x5 x7 I h
    cases h
  | succ k ih =>
    intro x5 x7 I h
    rw [fX7_strewOver_L21] at h
    refine s_iload F dX7_strewOver_21 rfl ?_
    refine s_aload_n F dX7_strewOver_23 rfl ?_
    refine s_getR F dX7_strewOver_24 flX7_12 (ly1 hs) (lt1 hs) rfl (p1_0 hs) ?_
    refine s_getI F dX7_strewOver_27 flX7_36 (lyS hs sb2) (ltSb hs sb2) rfl ?_
    refine s_icmp_ge (tgt := 106) F dX7_strewOver_30 (by decide) (fun c2 => ?_) (fun c2 => ?_)
    · have h := if_t c2 h
      exact G.weak (by exact ⟨rfl, ⟨rfl, ⟨rfl, ⟨rfl, ⟨rfl, ⟨rfl, ⟨rfl, trivial⟩⟩⟩⟩⟩⟩⟩) (hct _ _ h)
    · have h := if_f c2 h
      refine s_aload_n F dX7_strewOver_33 rfl ?_
      refine s_getR F dX7_strewOver_34 flX7_12 (ly1 hs) (lt1 hs) rfl (p1_0 hs) ?_
      refine s_iload F dX7_strewOver_37 rfl ?_
      refine s_iload F dX7_strewOver_39 rfl ?_
      obtain ⟨v3, hv3, h⟩ := bd_i h
      refine s_cV (ci := 4) F dX7_strewOver_41 (c_X4_cellAt hs sb2 hv3) lkX7_72 okX4_cellAt (by decide) (lyS hs sb2) (ltSb hs sb2) rfl rfl (Nat.le_of_ble_eq_true rfl) (by decide) ?_
      refine s_istore F dX7_strewOver_44 (by decide) ?_
      refine s_aload_n F dX7_strewOver_46 rfl ?_
      refine s_getR F dX7_strewOver_47 flX7_12 (ly1 hs) (lt1 hs) rfl (p1_0 hs) ?_
      refine s_iload F dX7_strewOver_50 rfl ?_
      obtain ⟨v4, hv4, h⟩ := bd_i h
      refine s_cV (ci := 4) F dX7_strewOver_52 (c_X4_chipsOf hs sb2 hv4) lkX7_68 okX4_chipsOf (by decide) (lyS hs sb2) (ltSb hs sb2) rfl rfl (Nat.le_of_ble_eq_true rfl) (by decide) ?_
      refine s_istore F dX7_strewOver_55 (by decide) ?_
      refine s_iload_n F dX7_strewOver_57 rfl ?_
      refine s_if_le (tgt := 100) F dX7_strewOver_58 (by decide) (fun c5 => ?_) (fun c5 => ?_)
      · have h := if_t c5 h
        refine s_inc (c := 1) F dX7_strewOver_100 rfl (by decide) (by decide) ?_
        refine s_goto (tgt := 21) F dX7_strewOver_103 (by decide) ?_
        exact G.weak (by exact ⟨rfl, ⟨rfl, ⟨rfl, ⟨rfl, ⟨rfl, ⟨rfl, ⟨rfl, ⟨rfl, trivial⟩⟩⟩⟩⟩⟩⟩⟩) (ih _ _ _ h)
      · have h := if_f c5 h
        refine s_iload F dX7_strewOver_61 rfl ?_
        refine s_iload_n F dX7_strewOver_63 rfl ?_
        refine s_imul F dX7_strewOver_64 ?_
        refine s_iload F dX7_strewOver_65 rfl ?_
        refine s_iload_n F dX7_strewOver_67 rfl ?_
        refine s_imul F dX7_strewOver_68 ?_
        refine s_iadd F dX7_strewOver_69 ?_
        refine s_iload_n F dX7_strewOver_70 rfl ?_
        obtain ⟨hy6, h⟩ := ck_s h
        refine s_rem F dX7_strewOver_71 (nz_s hy6) ?_
        refine s_if_ne (tgt := 100) F dX7_strewOver_72 (by decide) (fun c7 => ?_) (fun c7 => ?_)
        · have h := if_t c7 h
          refine s_inc (c := 1) F dX7_strewOver_100 rfl (by decide) (by decide) ?_
          refine s_goto (tgt := 21) F dX7_strewOver_103 (by decide) ?_
          exact G.weak (by exact ⟨rfl, ⟨rfl, ⟨rfl, ⟨rfl, ⟨rfl, ⟨rfl, ⟨rfl, ⟨rfl, trivial⟩⟩⟩⟩⟩⟩⟩⟩) (ih _ _ _ h)
        · have h := if_f (not_not_intro c7) h
          refine s_iload F dX7_strewOver_75 rfl ?_
          refine s_bipush (v := 99) F dX7_strewOver_77 (by decide) ?_
          refine s_icmp_ge (tgt := 100) F dX7_strewOver_79 (by decide) (fun c8 => ?_) (fun c8 => ?_)
          · have h := if_t c8 h
            refine s_inc (c := 1) F dX7_strewOver_100 rfl (by decide) (by decide) ?_
            refine s_goto (tgt := 21) F dX7_strewOver_103 (by decide) ?_
            exact G.weak (by exact ⟨rfl, ⟨rfl, ⟨rfl, ⟨rfl, ⟨rfl, ⟨rfl, ⟨rfl, ⟨rfl, trivial⟩⟩⟩⟩⟩⟩⟩⟩) (ih _ _ _ h)
          · have h := if_f c8 h
            refine s_inc (c := 1) F dX7_strewOver_82 rfl (by decide) (by decide) ?_
            refine s_iload F dX7_strewOver_85 rfl ?_
            refine s_if_eq (tgt := 100) F dX7_strewOver_87 (by decide) (fun c9 => ?_) (fun c9 => ?_)
            · have h := if_t c9 h
              refine s_inc (c := 1) F dX7_strewOver_100 rfl (by decide) (by decide) ?_
              refine s_goto (tgt := 21) F dX7_strewOver_103 (by decide) ?_
              exact G.weak (by exact ⟨rfl, ⟨rfl, ⟨rfl, ⟨rfl, ⟨rfl, ⟨rfl, ⟨rfl, ⟨rfl, trivial⟩⟩⟩⟩⟩⟩⟩⟩) (ih _ _ _ h)
            · have h := if_f c9 h
              refine s_aload_n F dX7_strewOver_90 rfl ?_
              refine s_iload F dX7_strewOver_91 rfl ?_
              refine s_iload F dX7_strewOver_93 rfl ?_
              refine s_iconst (v := 1) F dX7_strewOver_95 (by decide) ?_
              refine s_iadd F dX7_strewOver_96 ?_
              obtain ⟨v10, hv10, h⟩ := bd_i h
              refine s_cV (ci := 7) F dX7_strewOver_97 (c_X7_setChips hs hv10) lkX7_76 okX7_setChips (by decide) (ly1 hs) (lt1 hs) rfl rfl (Nat.le_of_ble_eq_true rfl) (by decide) ?_
              refine s_inc (c := 1) F dX7_strewOver_100 rfl (by decide) (by decide) ?_
              refine s_goto (tgt := 21) F dX7_strewOver_103 (by decide) ?_
              exact G.weak (by exact ⟨rfl, ⟨rfl, ⟨rfl, ⟨rfl, ⟨rfl, ⟨rfl, ⟨rfl, ⟨rfl, trivial⟩⟩⟩⟩⟩⟩⟩⟩) (ih _ _ _ h)
set_option maxRecDepth 100000 in
set_option maxHeartbeats 4000000 in
theorem lX7_strewOver_L6 {X : Cx} {n : Nat} {Ly : LL} {P : PP} {Po : PQ} {r : Int32 × II} (F : Fx X RX7 cX7_strewOver 10 3 0 0) (hs : ShC n Ly P) (hr : Fr X (some .int) Po 0 0) (post : Po (some (.inl r.1)) n Ly r.2 P) {x1 : Int32} {x2 : Int32} {x3 : Int32} {x4 : Int32} {ct : Int32 → II → Option (Int32 × II)} (hct : ∀ (x5 : Int32) (I : II), ct x5 I = some r → G X 10 0 0 n Ly 112 [none, none, none, none, none, some (.inl x5), none, none, none, none] [] I P) : ∀ (k : Nat) (x5 : Int32) (x6 : Int32) (I : II), fX7_strewOver_L6 k ct x1 x2 x3 x4 x5 x6 I = some r → G X 10 0 0 n Ly 6 [some (.inr (some 1)), some (.inl x1), some (.inl x2), some (.inl x3), some (.inl x4), some (.inl x5), some (.inl x6), none, none, none] [] I P := by
  intro k
  induction k with
  | zero =>
    intro x5 x6 I h
    cases h
  | succ k ih =>
    intro x5 x6 I h
    rw [fX7_strewOver_L6] at h
    refine s_iload F dX7_strewOver_6 rfl ?_
    refine s_aload_n F dX7_strewOver_8 rfl ?_
    refine s_getR F dX7_strewOver_9 flX7_12 (ly1 hs) (lt1 hs) rfl (p1_0 hs) ?_
    refine s_getI F dX7_strewOver_12 flX7_32 (lyS hs sb2) (ltSb hs sb2) rfl ?_
    refine s_icmp_ge (tgt := 112) F dX7_strewOver_15 (by decide) (fun c1 => ?_) (fun c1 => ?_)
    · have h := if_t c1 h
      exact G.weak (by exact ⟨rfl, trivial⟩) (hct _ _ h)
    · have h := if_f c1 h
      refine s_iconst (v := 0) F dX7_strewOver_18 (by decide) ?_
      refine s_istore F dX7_strewOver_19 (by decide) ?_
      refine G.weak (by exact ⟨rfl, ⟨rfl, ⟨rfl, ⟨rfl, ⟨rfl, ⟨rfl, ⟨rfl, ⟨rfl, trivial⟩⟩⟩⟩⟩⟩⟩⟩) (lX7_strewOver_L21 F hs hr post (fun z11 I12 h => ?_) 2000 _ _ _ h)
      refine s_inc (c := 1) F dX7_strewOver_106 rfl (by decide) (by decide) ?_
      refine s_goto (tgt := 6) F dX7_strewOver_109 (by decide) ?_
      exact G.weak (by exact ⟨rfl, ⟨rfl, ⟨rfl, ⟨rfl, ⟨rfl, ⟨rfl, ⟨rfl, trivial⟩⟩⟩⟩⟩⟩⟩) (ih _ _ _ h)
set_option maxRecDepth 100000 in
set_option maxHeartbeats 4000000 in
theorem bX7_strewOver {X : Cx} {n : Nat} {Ly : LL} {I : II} {P : PP} {Po : PQ} {r : Int32 × II} (F : Fx X RX7 cX7_strewOver 10 3 0 0) (hs : ShC n Ly P) (hr : Fr X (some .int) Po 0 0) (post : Po (some (.inl r.1)) n Ly r.2 P) {x1 : Int32} {x2 : Int32} {x3 : Int32} {x4 : Int32} (h : fX7_strewOver I x1 x2 x3 x4 = some r) : G X 10 0 0 n Ly 0 [some (.inr (some 1)), some (.inl x1), some (.inl x2), some (.inl x3), some (.inl x4), none, none, none, none, none] [] I P := by
  unfold fX7_strewOver at h
  refine s_iconst (v := 0) F dX7_strewOver_0 (by decide) ?_
  refine s_istore F dX7_strewOver_1 (by decide) ?_
  refine s_iconst (v := 0) F dX7_strewOver_3 (by decide) ?_
  refine s_istore F dX7_strewOver_4 (by decide) ?_
  refine G.weak (by exact ⟨rfl, ⟨rfl, ⟨rfl, ⟨rfl, ⟨rfl, ⟨rfl, ⟨rfl, trivial⟩⟩⟩⟩⟩⟩⟩) (lX7_strewOver_L6 F hs hr post (fun z13 I14 h => ?_) 2000 _ _ _ h)
  refine s_iload F dX7_strewOver_112 rfl ?_
  have h := Option.some.inj h
  subst h
  exact s_iret F hr dX7_strewOver_114 rfl (Nat.le_refl _) (Nat.le_refl _) post
set_option maxRecDepth 100000 in
set_option maxHeartbeats 4000000 in
theorem c_X7_strewOver {n : Nat} {Ly : LL} {I : II} {P : PP} {r : Int32 × II} (hs : ShC n Ly P) {x1 : Int32} {x2 : Int32} {x3 : Int32} {x4 : Int32} (h : fX7_strewOver I x1 x2 x3 x4 = some r) (l : Launch) (s0 : Nat) (D : va_G) (DA : Nat → ClassId) : Ct l s0 D DA mX7_strewOver [.inr (some 1), .inl x1, .inl x2, .inl x3, .inl x4] 0 0 n Ly I P (PoD (some (.inl r.1)) n Ly r.2 P) := ct_of (by decide +kernel) (Nat.le_of_ble_eq_true rfl) (fun X F hr _ => bX7_strewOver F hs hr ⟨rfl, rfl, rfl, rfl, rfl⟩ h)
-- ChipPilers$Walker.begin
def fX6_begin (I : II) (b0 : Nat) (x1 : Int32) (x2 : Int32) (x3 : Int32) (x4 : Int32) (x5 : Int32) : Option (II) := (some (up2 I b0 0 x1)).bind fun I1 => (some (up2 I1 b0 1 x2)).bind fun I2 => (some (up2 I2 b0 2 x3)).bind fun I3 => (some (up2 I3 b0 3 0)).bind fun I4 => (some (up2 I4 b0 4 x5)).bind fun I5 => (some (up2 I5 b0 5 x4)).bind fun I6 => (some (up2 I6 b0 6 0)).bind fun I7 => (some (up2 I7 b0 7 0)).bind fun I8 => (some (up2 I8 b0 8 0)).bind fun I9 => some I9
set_option maxRecDepth 100000 in
set_option maxHeartbeats 4000000 in
theorem bX6_begin {X : Cx} {n : Nat} {Ly : LL} {I : II} {P : PP} {Po : PQ} {r : II} (F : Fx X RX6 cX6_begin 6 1 0 0) (hs : ShC n Ly P) (hr : Fr X none Po 0 0) (post : Po none n Ly r P) {b0 : Nat} (hb0 : WB b0) {x1 : Int32} {x2 : Int32} {x3 : Int32} {x4 : Int32} {x5 : Int32} (h : fX6_begin I b0 x1 x2 x3 x4 x5 = some r) : G X 6 0 0 n Ly 0 [some (.inr (some b0)), some (.inl x1), some (.inl x2), some (.inl x3), some (.inl x4), some (.inl x5)] [] I P := by
  unfold fX6_begin at h
  refine s_aload_n F dX6_begin_0 rfl ?_
  refine s_iload_n F dX6_begin_1 rfl ?_
  have h := bd_s h
  refine s_putI F dX6_begin_2 flX6_9 (lyW hs hb0) (ltW hs hb0) rfl rfl ⟨rfl, rfl⟩ ?_
  refine s_aload_n F dX6_begin_5 rfl ?_
  refine s_iload_n F dX6_begin_6 rfl ?_
  have h := bd_s h
  refine s_putI F dX6_begin_7 flX6_15 (lyW hs hb0) (ltW hs hb0) rfl rfl ⟨rfl, rfl⟩ ?_
  refine s_aload_n F dX6_begin_10 rfl ?_
  refine s_iload_n F dX6_begin_11 rfl ?_
  have h := bd_s h
  refine s_putI F dX6_begin_12 flX6_18 (lyW hs hb0) (ltW hs hb0) rfl rfl ⟨rfl, rfl⟩ ?_
  refine s_aload_n F dX6_begin_15 rfl ?_
  refine s_iconst (v := 0) F dX6_begin_16 (by decide) ?_
  have h := bd_s h
  refine s_putI F dX6_begin_17 flX6_21 (lyW hs hb0) (ltW hs hb0) rfl rfl ⟨rfl, rfl⟩ ?_
  refine s_aload_n F dX6_begin_20 rfl ?_
  refine s_iload F dX6_begin_21 rfl ?_
  have h := bd_s h
  refine s_putI F dX6_begin_23 flX6_24 (lyW hs hb0) (ltW hs hb0) rfl rfl ⟨rfl, rfl⟩ ?_
  refine s_aload_n F dX6_begin_26 rfl ?_
  refine s_iload F dX6_begin_27 rfl ?_
  have h := bd_s h
  refine s_putI F dX6_begin_29 flX6_27 (lyW hs hb0) (ltW hs hb0) rfl rfl ⟨rfl, rfl⟩ ?_
  refine s_aload_n F dX6_begin_32 rfl ?_
  refine s_iconst (v := 0) F dX6_begin_33 (by decide) ?_
  have h := bd_s h
  refine s_putI F dX6_begin_34 flX6_30 (lyW hs hb0) (ltW hs hb0) rfl rfl ⟨rfl, rfl⟩ ?_
  refine s_aload_n F dX6_begin_37 rfl ?_
  refine s_iconst (v := 0) F dX6_begin_38 (by decide) ?_
  have h := bd_s h
  refine s_putI F dX6_begin_39 flX6_33 (lyW hs hb0) (ltW hs hb0) rfl rfl ⟨rfl, rfl⟩ ?_
  refine s_aload_n F dX6_begin_42 rfl ?_
  refine s_iconst (v := 0) F dX6_begin_43 (by decide) ?_
  have h := bd_s h
  refine s_putI F dX6_begin_44 flX6_36 (lyW hs hb0) (ltW hs hb0) rfl rfl ⟨rfl, rfl⟩ ?_
  have h := Option.some.inj h
  subst h
  exact s_vret F hr dX6_begin_47 (Nat.le_refl _) (Nat.le_refl _) post
set_option maxRecDepth 100000 in
set_option maxHeartbeats 4000000 in
theorem c_X6_begin {n : Nat} {Ly : LL} {I : II} {P : PP} {r : II} (hs : ShC n Ly P) {b0 : Nat} (hb0 : WB b0) {x1 : Int32} {x2 : Int32} {x3 : Int32} {x4 : Int32} {x5 : Int32} (h : fX6_begin I b0 x1 x2 x3 x4 x5 = some r) (l : Launch) (s0 : Nat) (D : va_G) (DA : Nat → ClassId) : Ct l s0 D DA mX6_begin [.inr (some b0), .inl x1, .inl x2, .inl x3, .inl x4, .inl x5] 0 0 n Ly I P (PoD none n Ly r P) := ct_of (by decide +kernel) (Nat.le_of_ble_eq_true rfl) (fun X F hr _ => bX6_begin F hs hr ⟨rfl, rfl, rfl, rfl, rfl⟩ hb0 h)
-- ChipPilers$Walker.cell
def fX6_cell (I : II) (b0 : Nat) : Option (Int32) := some (((I b0 0) * 16) + (I b0 1))
set_option maxRecDepth 100000 in
set_option maxHeartbeats 4000000 in
theorem bX6_cell {X : Cx} {n : Nat} {Ly : LL} {I : II} {P : PP} {Po : PQ} {r : Int32} (F : Fx X RX6 cX6_cell 1 1 0 0) (hs : ShC n Ly P) (hr : Fr X (some .int) Po 0 0) (post : Po (some (.inl r)) n Ly I P) {b0 : Nat} (hb0 : WB b0) (h : fX6_cell I b0 = some r) : G X 1 0 0 n Ly 0 [some (.inr (some b0))] [] I P := by
  unfold fX6_cell at h
  refine s_aload_n F dX6_cell_0 rfl ?_
  refine s_getI F dX6_cell_1 flX6_9 (lyW hs hb0) (ltW hs hb0) rfl ?_
  refine s_bipush (v := 16) F dX6_cell_4 (by decide) ?_
  refine s_imul F dX6_cell_6 ?_
  refine s_aload_n F dX6_cell_7 rfl ?_
  refine s_getI F dX6_cell_8 flX6_15 (lyW hs hb0) (ltW hs hb0) rfl ?_
  refine s_iadd F dX6_cell_11 ?_
  have h := Option.some.inj h
  subst h
  exact s_iret F hr dX6_cell_12 rfl (Nat.le_refl _) (Nat.le_refl _) post
set_option maxRecDepth 100000 in
set_option maxHeartbeats 4000000 in
theorem c_X6_cell {n : Nat} {Ly : LL} {I : II} {P : PP} {r : Int32} (hs : ShC n Ly P) {b0 : Nat} (hb0 : WB b0) (h : fX6_cell I b0 = some r) (l : Launch) (s0 : Nat) (D : va_G) (DA : Nat → ClassId) : Ct l s0 D DA mX6_cell [.inr (some b0)] 0 0 n Ly I P (PoD (some (.inl r)) n Ly I P) := ct_of (by decide +kernel) (Nat.le_of_ble_eq_true rfl) (fun X F hr _ => bX6_cell F hs hr ⟨rfl, rfl, rfl, rfl, rfl⟩ hb0 h)
-- ChipPilers$World.chipsUnder
def fX7_chipsUnder (I : II) (b1 : Nat) : Option (Int32) := (fX6_cell I b1).bind fun v1 => (fX4_chipsOf I 2 v1).bind fun v2 => some v2
set_option maxRecDepth 100000 in
set_option maxHeartbeats 4000000 in
theorem bX7_chipsUnder {X : Cx} {n : Nat} {Ly : LL} {I : II} {P : PP} {Po : PQ} {r : Int32} (F : Fx X RX7 cX7_chipsUnder 2 2 0 0) (hs : ShC n Ly P) (hr : Fr X (some .int) Po 0 0) (post : Po (some (.inl r)) n Ly I P) {b1 : Nat} (hb1 : WB b1) (h : fX7_chipsUnder I b1 = some r) : G X 2 0 0 n Ly 0 [some (.inr (some 1)), some (.inr (some b1))] [] I P := by
  unfold fX7_chipsUnder at h
  refine s_aload_n F dX7_chipsUnder_0 rfl ?_
  refine s_getR F dX7_chipsUnder_1 flX7_12 (ly1 hs) (lt1 hs) rfl (p1_0 hs) ?_
  refine s_aload_n F dX7_chipsUnder_4 rfl ?_
  obtain ⟨v1, hv1, h⟩ := bd_i h
  refine s_cV (ci := 6) F dX7_chipsUnder_5 (c_X6_cell hs hb1 hv1) lkX7_62 okX6_cell (by decide) (lyW hs hb1) (ltW hs hb1) rfl rfl (Nat.le_of_ble_eq_true rfl) (by decide) ?_
  obtain ⟨v2, hv2, h⟩ := bd_i h
  refine s_cV (ci := 4) F dX7_chipsUnder_8 (c_X4_chipsOf hs sb2 hv2) lkX7_68 okX4_chipsOf (by decide) (lyS hs sb2) (ltSb hs sb2) rfl rfl (Nat.le_of_ble_eq_true rfl) (by decide) ?_
  have h := Option.some.inj h
  subst h
  exact s_iret F hr dX7_chipsUnder_11 rfl (Nat.le_refl _) (Nat.le_refl _) post
set_option maxRecDepth 100000 in
set_option maxHeartbeats 4000000 in
theorem c_X7_chipsUnder {n : Nat} {Ly : LL} {I : II} {P : PP} {r : Int32} (hs : ShC n Ly P) {b1 : Nat} (hb1 : WB b1) (h : fX7_chipsUnder I b1 = some r) (l : Launch) (s0 : Nat) (D : va_G) (DA : Nat → ClassId) : Ct l s0 D DA mX7_chipsUnder [.inr (some 1), .inr (some b1)] 0 0 n Ly I P (PoD (some (.inl r)) n Ly I P) := ct_of (by decide +kernel) (Nat.le_of_ble_eq_true rfl) (fun X F hr _ => bX7_chipsUnder F hs hr ⟨rfl, rfl, rfl, rfl, rfl⟩ hb1 h)
-- ChipPilers$World.pickUp
def fX7_pickUp (I : II) (b1 : Nat) (x2 : Int32) : Option (II) := (fX6_cell I b1).bind fun v1 => (fX7_chipsUnder I b1).bind fun v2 => (fX7_setChips I v1 (v2 - x2)).bind fun v3 => (some (up2 v3 b1 3 ((v3 b1 3) + x2))).bind fun I4 => (if x2 ≤ 0 then (some (up2 I4 b1 8 ((I4 b1 8) - x2))).bind fun I6 => some I6 else (some (up2 I4 b1 7 ((I4 b1 7) + x2))).bind fun I7 => some I7)
set_option maxRecDepth 100000 in
set_option maxHeartbeats 4000000 in
theorem bX7_pickUp {X : Cx} {n : Nat} {Ly : LL} {I : II} {P : PP} {Po : PQ} {r : II} (F : Fx X RX7 cX7_pickUp 3 3 0 0) (hs : ShC n Ly P) (hr : Fr X none Po 0 0) (post : Po none n Ly r P) {b1 : Nat} (hb1 : WB b1) {x2 : Int32} (h : fX7_pickUp I b1 x2 = some r) : G X 3 0 0 n Ly 0 [some (.inr (some 1)), some (.inr (some b1)), some (.inl x2)] [] I P := by
  unfold fX7_pickUp at h
  refine s_aload_n F dX7_pickUp_0 rfl ?_
  refine s_aload_n F dX7_pickUp_1 rfl ?_
  obtain ⟨v1, hv1, h⟩ := bd_i h
  refine s_cV (ci := 6) F dX7_pickUp_2 (c_X6_cell hs hb1 hv1) lkX7_62 okX6_cell (by decide) (lyW hs hb1) (ltW hs hb1) rfl rfl (Nat.le_of_ble_eq_true rfl) (by decide) ?_
  refine s_aload_n F dX7_pickUp_5 rfl ?_
  refine s_aload_n F dX7_pickUp_6 rfl ?_
  obtain ⟨v2, hv2, h⟩ := bd_i h
  refine s_cV (ci := 7) F dX7_pickUp_7 (c_X7_chipsUnder hs hb1 hv2) lkX7_80 okX7_chipsUnder (by decide) (ly1 hs) (lt1 hs) rfl rfl (Nat.le_of_ble_eq_true rfl) (by decide) ?_
  refine s_iload_n F dX7_pickUp_10 rfl ?_
  refine s_isub F dX7_pickUp_11 ?_
  obtain ⟨v3, hv3, h⟩ := bd_i h
  refine s_cV (ci := 7) F dX7_pickUp_12 (c_X7_setChips hs hv3) lkX7_76 okX7_setChips (by decide) (ly1 hs) (lt1 hs) rfl rfl (Nat.le_of_ble_eq_true rfl) (by decide) ?_
  refine s_aload_n F dX7_pickUp_15 rfl ?_
  refine s_dup F dX7_pickUp_16 ?_
  refine s_getI F dX7_pickUp_17 flX7_84 (lyW hs hb1) (ltW hs hb1) rfl ?_
  refine s_iload_n F dX7_pickUp_20 rfl ?_
  refine s_iadd F dX7_pickUp_21 ?_
  have h := bd_s h
  refine s_putI F dX7_pickUp_22 flX7_84 (lyW hs hb1) (ltW hs hb1) rfl rfl ⟨rfl, rfl⟩ ?_
  refine s_iload_n F dX7_pickUp_25 rfl ?_
  refine s_if_le (tgt := 42) F dX7_pickUp_26 (by decide) (fun c5 => ?_) (fun c5 => ?_)
  · have h := if_t c5 h
    refine s_aload_n F dX7_pickUp_42 rfl ?_
    refine s_dup F dX7_pickUp_43 ?_
    refine s_getI F dX7_pickUp_44 flX7_90 (lyW hs hb1) (ltW hs hb1) rfl ?_
    refine s_iload_n F dX7_pickUp_47 rfl ?_
    refine s_isub F dX7_pickUp_48 ?_
    have h := bd_s h
    refine s_putI F dX7_pickUp_49 flX7_90 (lyW hs hb1) (ltW hs hb1) rfl rfl ⟨rfl, rfl⟩ ?_
    have h := Option.some.inj h
    subst h
    exact s_vret F hr dX7_pickUp_52 (Nat.le_refl _) (Nat.le_refl _) post
  · have h := if_f c5 h
    refine s_aload_n F dX7_pickUp_29 rfl ?_
    refine s_dup F dX7_pickUp_30 ?_
    refine s_getI F dX7_pickUp_31 flX7_87 (lyW hs hb1) (ltW hs hb1) rfl ?_
    refine s_iload_n F dX7_pickUp_34 rfl ?_
    refine s_iadd F dX7_pickUp_35 ?_
    have h := bd_s h
    refine s_putI F dX7_pickUp_36 flX7_87 (lyW hs hb1) (ltW hs hb1) rfl rfl ⟨rfl, rfl⟩ ?_
    refine s_goto (tgt := 52) F dX7_pickUp_39 (by decide) ?_
    have h := Option.some.inj h
    subst h
    exact s_vret F hr dX7_pickUp_52 (Nat.le_refl _) (Nat.le_refl _) post
set_option maxRecDepth 100000 in
set_option maxHeartbeats 4000000 in
theorem c_X7_pickUp {n : Nat} {Ly : LL} {I : II} {P : PP} {r : II} (hs : ShC n Ly P) {b1 : Nat} (hb1 : WB b1) {x2 : Int32} (h : fX7_pickUp I b1 x2 = some r) (l : Launch) (s0 : Nat) (D : va_G) (DA : Nat → ClassId) : Ct l s0 D DA mX7_pickUp [.inr (some 1), .inr (some b1), .inl x2] 0 0 n Ly I P (PoD none n Ly r P) := ct_of (by decide +kernel) (Nat.le_of_ble_eq_true rfl) (fun X F hr _ => bX7_pickUp F hs hr ⟨rfl, rfl, rfl, rfl, rfl⟩ hb1 h)
-- ChipPilers$Turns.append
def fX5_append_J17 (I : II) (b0 : Nat) (x1 : Int32) : Option (II) := (if (I b0 1) < 0 then (some (up2 I b0 2 0)).bind fun I3 => some I3 else (if 30 ≤ (I b0 1) then (some (up2 I b0 2 0)).bind fun I5 => some I5 else ck (ix (I b0 1) 30) ((some (up2 I (b0 + 1) (I b0 1).toNatClampNeg x1)).bind fun I7 => (some (up2 I7 b0 1 ((I7 b0 1) + 1))).bind fun I8 => (some (up2 I8 b0 2 0)).bind fun I9 => some I9)))
def fX5_append (I : II) (b0 : Nat) (x1 : Int32) : Option (II) := (if (I b0 3) = 0 then fX5_append_J17 I b0 x1 else (some (up2 I b0 1 0)).bind fun I10 => (some (up2 I10 b0 3 0)).bind fun I11 => fX5_append_J17 I11 b0 x1)
set_option maxRecDepth 100000 in
set_option maxHeartbeats 4000000 in
theorem lX5_append_J17 {X : Cx} {n : Nat} {Ly : LL} {I : II} {P : PP} {Po : PQ} {r : II} (F : Fx X RX5 cX5_append 2 1 0 0) (hs : ShC n Ly P) (hr : Fr X none Po 0 0) (post : Po none n Ly r P) {b0 : Nat} (hb0 : TB b0) {x1 : Int32} (h : fX5_append_J17 I b0 x1 = some r) : G X 2 0 0 n Ly 17 [some (.inr (some b0)), some (.inl x1)] [] I P := by
  unfold fX5_append_J17 at h
  refine s_aload_n F dX5_append_17 rfl ?_
  refine s_getI F dX5_append_18 flX5_15 (lyT hs hb0) (ltT hs hb0) rfl ?_
  refine s_if_lt (tgt := 56) F dX5_append_21 (by decide) (fun c2 => ?_) (fun c2 => ?_)
  · have h := if_t c2 h
    refine s_aload_n F dX5_append_56 rfl ?_
    refine s_iconst (v := 0) F dX5_append_57 (by decide) ?_
    have h := bd_s h
    refine s_putI F dX5_append_58 flX5_19 (lyT hs hb0) (ltT hs hb0) rfl rfl ⟨rfl, rfl⟩ ?_
    have h := Option.some.inj h
    subst h
    exact s_vret F hr dX5_append_61 (Nat.le_refl _) (Nat.le_refl _) post
  · have h := if_f c2 h
    refine s_aload_n F dX5_append_24 rfl ?_
    refine s_getI F dX5_append_25 flX5_15 (lyT hs hb0) (ltT hs hb0) rfl ?_
    refine s_aload_n F dX5_append_28 rfl ?_
    refine s_getR F dX5_append_29 flX5_9 (lyT hs hb0) (ltT hs hb0) rfl (pT0 hs hb0) ?_
    refine s_alen (v := 30) F dX5_append_32 (lyT1 hs hb0) (by decide) (ltT1 hs hb0) (by decide) ?_
    refine s_icmp_ge (tgt := 56) F dX5_append_33 (by decide) (fun c4 => ?_) (fun c4 => ?_)
    · have h := if_t c4 h
      refine s_aload_n F dX5_append_56 rfl ?_
      refine s_iconst (v := 0) F dX5_append_57 (by decide) ?_
      have h := bd_s h
      refine s_putI F dX5_append_58 flX5_19 (lyT hs hb0) (ltT hs hb0) rfl rfl ⟨rfl, rfl⟩ ?_
      have h := Option.some.inj h
      subst h
      exact s_vret F hr dX5_append_61 (Nat.le_refl _) (Nat.le_refl _) post
    · have h := if_f c4 h
      refine s_aload_n F dX5_append_36 rfl ?_
      refine s_getR F dX5_append_37 flX5_9 (lyT hs hb0) (ltT hs hb0) rfl (pT0 hs hb0) ?_
      refine s_aload_n F dX5_append_40 rfl ?_
      refine s_getI F dX5_append_41 flX5_15 (lyT hs hb0) (ltT hs hb0) rfl ?_
      refine s_iload_n F dX5_append_44 rfl ?_
      obtain ⟨hc6, h⟩ := ck_s h
      have h := bd_s h
      refine s_iast F dX5_append_45 (lyT1 hs hb0) (ltT1 hs hb0) (ix_s hc6) ?_
      refine s_aload_n F dX5_append_46 rfl ?_
      refine s_dup F dX5_append_47 ?_
      refine s_getI F dX5_append_48 flX5_15 (lyT hs hb0) (ltT hs hb0) rfl ?_
      refine s_iconst (v := 1) F dX5_append_51 (by decide) ?_
      refine s_iadd F dX5_append_52 ?_
      have h := bd_s h
      refine s_putI F dX5_append_53 flX5_15 (lyT hs hb0) (ltT hs hb0) rfl rfl ⟨rfl, rfl⟩ ?_
      refine s_aload_n F dX5_append_56 rfl ?_
      refine s_iconst (v := 0) F dX5_append_57 (by decide) ?_
      have h := bd_s h
      refine s_putI F dX5_append_58 flX5_19 (lyT hs hb0) (ltT hs hb0) rfl rfl ⟨rfl, rfl⟩ ?_
      have h := Option.some.inj h
      subst h
      exact s_vret F hr dX5_append_61 (Nat.le_refl _) (Nat.le_refl _) post
set_option maxRecDepth 100000 in
set_option maxHeartbeats 4000000 in
theorem bX5_append {X : Cx} {n : Nat} {Ly : LL} {I : II} {P : PP} {Po : PQ} {r : II} (F : Fx X RX5 cX5_append 2 1 0 0) (hs : ShC n Ly P) (hr : Fr X none Po 0 0) (post : Po none n Ly r P) {b0 : Nat} (hb0 : TB b0) {x1 : Int32} (h : fX5_append I b0 x1 = some r) : G X 2 0 0 n Ly 0 [some (.inr (some b0)), some (.inl x1)] [] I P := by
  unfold fX5_append at h
  refine s_aload_n F dX5_append_0 rfl ?_
  refine s_getI F dX5_append_1 flX5_22 (lyT hs hb0) (ltT hs hb0) rfl ?_
  refine s_if_eq (tgt := 17) F dX5_append_4 (by decide) (fun c1 => ?_) (fun c1 => ?_)
  · have h := if_t c1 h
    exact G.weak (by exact ⟨rfl, ⟨rfl, trivial⟩⟩) (lX5_append_J17 F hs hr post hb0 h)
  · have h := if_f c1 h
    refine s_aload_n F dX5_append_7 rfl ?_
    refine s_iconst (v := 0) F dX5_append_8 (by decide) ?_
    have h := bd_s h
    refine s_putI F dX5_append_9 flX5_15 (lyT hs hb0) (ltT hs hb0) rfl rfl ⟨rfl, rfl⟩ ?_
    refine s_aload_n F dX5_append_12 rfl ?_
    refine s_iconst (v := 0) F dX5_append_13 (by decide) ?_
    have h := bd_s h
    refine s_putI F dX5_append_14 flX5_22 (lyT hs hb0) (ltT hs hb0) rfl rfl (by exact ⟨rfl, rfl⟩) ?_
    exact G.weak (by exact ⟨rfl, ⟨rfl, trivial⟩⟩) (lX5_append_J17 F hs hr post hb0 h)
set_option maxRecDepth 100000 in
set_option maxHeartbeats 4000000 in
theorem c_X5_append {n : Nat} {Ly : LL} {I : II} {P : PP} {r : II} (hs : ShC n Ly P) {b0 : Nat} (hb0 : TB b0) {x1 : Int32} (h : fX5_append I b0 x1 = some r) (l : Launch) (s0 : Nat) (D : va_G) (DA : Nat → ClassId) : Ct l s0 D DA mX5_append [.inr (some b0), .inl x1] 0 0 n Ly I P (PoD none n Ly r P) := ct_of (by decide +kernel) (Nat.le_of_ble_eq_true rfl) (fun X F hr _ => bX5_append F hs hr ⟨rfl, rfl, rfl, rfl, rfl⟩ hb0 h)
-- ChipPilers$Turns.begin
def fX5_begin (I : II) (b0 : Nat) : Option (II) := (some (up2 I (b0 + 1) 0 0)).bind fun I1 => (some (up2 I1 b0 1 1)).bind fun I2 => (some (up2 I2 b0 2 0)).bind fun I3 => (some (up2 I3 b0 3 1)).bind fun I4 => some I4
set_option maxRecDepth 100000 in
set_option maxHeartbeats 4000000 in
theorem bX5_begin {X : Cx} {n : Nat} {Ly : LL} {I : II} {P : PP} {Po : PQ} {r : II} (F : Fx X RX5 cX5_begin 1 1 0 0) (hs : ShC n Ly P) (hr : Fr X none Po 0 0) (post : Po none n Ly r P) {b0 : Nat} (hb0 : TB b0) (h : fX5_begin I b0 = some r) : G X 1 0 0 n Ly 0 [some (.inr (some b0))] [] I P := by
  unfold fX5_begin at h
  refine s_aload_n F dX5_begin_0 rfl ?_
  refine s_getR F dX5_begin_1 flX5_9 (lyT hs hb0) (ltT hs hb0) rfl (pT0 hs hb0) ?_
  refine s_iconst (v := 0) F dX5_begin_4 (by decide) ?_
  refine s_iconst (v := 0) F dX5_begin_5 (by decide) ?_
  have h := bd_s h
  refine s_iastK (j := 0) F dX5_begin_6 (lyT1 hs hb0) (ltT1 hs hb0) (vp_lit 0 rfl) (by decide) ?_
  refine s_aload_n F dX5_begin_7 rfl ?_
  refine s_iconst (v := 1) F dX5_begin_8 (by decide) ?_
  have h := bd_s h
  refine s_putI F dX5_begin_9 flX5_15 (lyT hs hb0) (ltT hs hb0) rfl rfl ⟨rfl, rfl⟩ ?_
  refine s_aload_n F dX5_begin_12 rfl ?_
  refine s_iconst (v := 0) F dX5_begin_13 (by decide) ?_
  have h := bd_s h
  refine s_putI F dX5_begin_14 flX5_19 (lyT hs hb0) (ltT hs hb0) rfl rfl ⟨rfl, rfl⟩ ?_
  refine s_aload_n F dX5_begin_17 rfl ?_
  refine s_iconst (v := 1) F dX5_begin_18 (by decide) ?_
  have h := bd_s h
  refine s_putI F dX5_begin_19 flX5_22 (lyT hs hb0) (ltT hs hb0) rfl rfl (by exact ⟨rfl, rfl⟩) ?_
  have h := Option.some.inj h
  subst h
  exact s_vret F hr dX5_begin_22 (Nat.le_refl _) (Nat.le_refl _) post
set_option maxRecDepth 100000 in
set_option maxHeartbeats 4000000 in
theorem c_X5_begin {n : Nat} {Ly : LL} {I : II} {P : PP} {r : II} (hs : ShC n Ly P) {b0 : Nat} (hb0 : TB b0) (h : fX5_begin I b0 = some r) (l : Launch) (s0 : Nat) (D : va_G) (DA : Nat → ClassId) : Ct l s0 D DA mX5_begin [.inr (some b0)] 0 0 n Ly I P (PoD none n Ly r P) := ct_of (by decide +kernel) (Nat.le_of_ble_eq_true rfl) (fun X F hr _ => bX5_begin F hs hr ⟨rfl, rfl, rfl, rfl, rfl⟩ hb0 h)
-- ChipPilers$Turns.takeNext
def fX5_takeNext (I : II) (b0 : Nat) : Option (Int32 × II) := (if (I b0 2) < 0 then some (0, I) else (if (I b0 2) < 30 then ck (ix (I b0 2) 30) ((some (up2 I b0 2 ((I b0 2) + 1))).bind fun I4 => (if (I4 b0 2) < (I4 b0 1) then some ((I (b0 + 1) (I b0 2).toNatClampNeg), I4) else (some (up2 I4 b0 2 0)).bind fun I6 => some ((I (b0 + 1) (I b0 2).toNatClampNeg), I6))) else some (0, I)))
set_option maxRecDepth 100000 in
set_option maxHeartbeats 4000000 in
theorem bX5_takeNext {X : Cx} {n : Nat} {Ly : LL} {I : II} {P : PP} {Po : PQ} {r : Int32 × II} (F : Fx X RX5 cX5_takeNext 2 1 0 0) (hs : ShC n Ly P) (hr : Fr X (some .int) Po 0 0) (post : Po (some (.inl r.1)) n Ly r.2 P) {b0 : Nat} (hb0 : TB b0) (h : fX5_takeNext I b0 = some r) : G X 2 0 0 n Ly 0 [some (.inr (some b0)), none] [] I P := by
  unfold fX5_takeNext at h
  refine s_aload_n F dX5_takeNext_0 rfl ?_
  refine s_getI F dX5_takeNext_1 flX5_19 (lyT hs hb0) (ltT hs hb0) rfl ?_
  refine s_if_lt (tgt := 19) F dX5_takeNext_4 (by decide) (fun c1 => ?_) (fun c1 => ?_)
  · have h := if_t c1 h
    refine s_iconst (v := 0) F dX5_takeNext_19 (by decide) ?_
    have h := Option.some.inj h
    subst h
    exact s_iret F hr dX5_takeNext_20 rfl (Nat.le_refl _) (Nat.le_refl _) post
  · have h := if_f c1 h
    refine s_aload_n F dX5_takeNext_7 rfl ?_
    refine s_getI F dX5_takeNext_8 flX5_19 (lyT hs hb0) (ltT hs hb0) rfl ?_
    refine s_aload_n F dX5_takeNext_11 rfl ?_
    refine s_getR F dX5_takeNext_12 flX5_9 (lyT hs hb0) (ltT hs hb0) rfl (pT0 hs hb0) ?_
    refine s_alen (v := 30) F dX5_takeNext_15 (lyT1 hs hb0) (by decide) (ltT1 hs hb0) (by decide) ?_
    refine s_icmp_lt (tgt := 21) F dX5_takeNext_16 (by decide) (fun c2 => ?_) (fun c2 => ?_)
    · have h := if_t c2 h
      refine s_aload_n F dX5_takeNext_21 rfl ?_
      refine s_getR F dX5_takeNext_22 flX5_9 (lyT hs hb0) (ltT hs hb0) rfl (pT0 hs hb0) ?_
      refine s_aload_n F dX5_takeNext_25 rfl ?_
      refine s_getI F dX5_takeNext_26 flX5_19 (lyT hs hb0) (ltT hs hb0) rfl ?_
      obtain ⟨hc3, h⟩ := ck_s h
      refine s_iald F dX5_takeNext_29 (lyT1 hs hb0) (ltT1 hs hb0) (ix_s hc3) ?_
      refine s_istore_n F dX5_takeNext_30 (by decide) ?_
      refine s_aload_n F dX5_takeNext_31 rfl ?_
      refine s_dup F dX5_takeNext_32 ?_
      refine s_getI F dX5_takeNext_33 flX5_19 (lyT hs hb0) (ltT hs hb0) rfl ?_
      refine s_iconst (v := 1) F dX5_takeNext_36 (by decide) ?_
      refine s_iadd F dX5_takeNext_37 ?_
      have h := bd_s h
      refine s_putI F dX5_takeNext_38 flX5_19 (lyT hs hb0) (ltT hs hb0) rfl rfl ⟨rfl, rfl⟩ ?_
      refine s_aload_n F dX5_takeNext_41 rfl ?_
      refine s_getI F dX5_takeNext_42 flX5_19 (lyT hs hb0) (ltT hs hb0) rfl ?_
      refine s_aload_n F dX5_takeNext_45 rfl ?_
      refine s_getI F dX5_takeNext_46 flX5_15 (lyT hs hb0) (ltT hs hb0) rfl ?_
      refine s_icmp_lt (tgt := 57) F dX5_takeNext_49 (by decide) (fun c5 => ?_) (fun c5 => ?_)
      · have h := if_t c5 h
        refine s_iload_n F dX5_takeNext_57 rfl ?_
        have h := Option.some.inj h
        subst h
        exact s_iret F hr dX5_takeNext_58 rfl (Nat.le_refl _) (Nat.le_refl _) post
      · have h := if_f c5 h
        refine s_aload_n F dX5_takeNext_52 rfl ?_
        refine s_iconst (v := 0) F dX5_takeNext_53 (by decide) ?_
        have h := bd_s h
        refine s_putI F dX5_takeNext_54 flX5_19 (lyT hs hb0) (ltT hs hb0) rfl rfl ⟨rfl, rfl⟩ ?_
        refine s_iload_n F dX5_takeNext_57 rfl ?_
        have h := Option.some.inj h
        subst h
        exact s_iret F hr dX5_takeNext_58 rfl (Nat.le_refl _) (Nat.le_refl _) post
    · have h := if_f c2 h
      refine s_iconst (v := 0) F dX5_takeNext_19 (by decide) ?_
      have h := Option.some.inj h
      subst h
      exact s_iret F hr dX5_takeNext_20 rfl (Nat.le_refl _) (Nat.le_refl _) post
set_option maxRecDepth 100000 in
set_option maxHeartbeats 4000000 in
theorem c_X5_takeNext {n : Nat} {Ly : LL} {I : II} {P : PP} {r : Int32 × II} (hs : ShC n Ly P) {b0 : Nat} (hb0 : TB b0) (h : fX5_takeNext I b0 = some r) (l : Launch) (s0 : Nat) (D : va_G) (DA : Nat → ClassId) : Ct l s0 D DA mX5_takeNext [.inr (some b0)] 0 0 n Ly I P (PoD (some (.inl r.1)) n Ly r.2 P) := ct_of (by decide +kernel) (Nat.le_of_ble_eq_true rfl) (fun X F hr _ => bX5_takeNext F hs hr ⟨rfl, rfl, rfl, rfl, rfl⟩ hb0 h)
-- ChipPilers$World.toTheRight
def fX7_toTheRight (x0 : Int32) (x1 : Int32) : Option (Int32) := some (rm (x0 + x1) 4)
set_option maxRecDepth 100000 in
set_option maxHeartbeats 4000000 in
theorem bX7_toTheRight {X : Cx} {n : Nat} {Ly : LL} {I : II} {P : PP} {Po : PQ} {r : Int32} (F : Fx X RX7 cX7_toTheRight 2 1 0 0) (hs : ShC n Ly P) (hr : Fr X (some .int) Po 0 0) (post : Po (some (.inl r)) n Ly I P) {x0 : Int32} {x1 : Int32} (h : fX7_toTheRight x0 x1 = some r) : G X 2 0 0 n Ly 0 [some (.inl x0), some (.inl x1)] [] I P := by
  unfold fX7_toTheRight at h
  refine s_iload_n F dX7_toTheRight_0 rfl ?_
  refine s_iload_n F dX7_toTheRight_1 rfl ?_
  refine s_iadd F dX7_toTheRight_2 ?_
  refine s_iconst (v := 4) F dX7_toTheRight_3 (by decide) ?_
  refine s_rem F dX7_toTheRight_4 (by decide) ?_
  have h := Option.some.inj h
  subst h
  exact s_iret F hr dX7_toTheRight_5 rfl (Nat.le_refl _) (Nat.le_refl _) post
set_option maxRecDepth 100000 in
set_option maxHeartbeats 4000000 in
theorem c_X7_toTheRight {n : Nat} {Ly : LL} {I : II} {P : PP} {r : Int32} (hs : ShC n Ly P) {x0 : Int32} {x1 : Int32} (h : fX7_toTheRight x0 x1 = some r) (l : Launch) (s0 : Nat) (D : va_G) (DA : Nat → ClassId) : Ct l s0 D DA mX7_toTheRight [.inl x0, .inl x1] 0 0 n Ly I P (PoD (some (.inl r)) n Ly I P) := ct_of (by decide +kernel) (Nat.le_of_ble_eq_true rfl) (fun X F hr _ => bX7_toTheRight F hs hr ⟨rfl, rfl, rfl, rfl, rfl⟩ h)
-- ChipPilers$World.turned
def fX7_turned (x0 : Int32) (x1 : Int32) : Option (Int32) := (if x1 = 5 then (fX7_toTheRight x0 1).bind fun v2 => some v2 else if x1 = 6 then (fX7_toTheRight x0 1).bind fun v4 => some v4 else if x1 = 7 then (fX7_toTheRight x0 3).bind fun v6 => some v6 else if x1 = 8 then (fX7_toTheRight x0 3).bind fun v8 => some v8 else if x1 = 9 then (fX7_toTheRight x0 2).bind fun v10 => some v10 else some x0)
set_option maxRecDepth 100000 in
set_option maxHeartbeats 4000000 in
theorem bX7_turned {X : Cx} {n : Nat} {Ly : LL} {I : II} {P : PP} {Po : PQ} {r : Int32} (F : Fx X RX7 cX7_turned 2 2 0 0) (hs : ShC n Ly P) (hr : Fr X (some .int) Po 0 0) (post : Po (some (.inl r)) n Ly I P) {x0 : Int32} {x1 : Int32} (h : fX7_turned x0 x1 = some r) : G X 2 0 0 n Ly 0 [some (.inl x0), some (.inl x1)] [] I P := by
  unfold fX7_turned at h
  refine s_iload_n F dX7_turned_0 rfl ?_
  by_cases e1 : x1 = 5
  · have h := if_t e1 h
    refine s_swC (off := 35) (tgt := 36) F dX7_turned_1 e1 (by decide +kernel) ?_
    refine s_iload_n F dX7_turned_36 rfl ?_
    refine s_iconst (v := 1) F dX7_turned_37 (by decide) ?_
    obtain ⟨v2, hv2, h⟩ := bd_i h
    refine s_cS F dX7_turned_38 (c_X7_toTheRight hs hv2) lkX7_120 okX7_toTheRight rfl (Nat.le_of_ble_eq_true rfl) (by decide) ?_
    have h := Option.some.inj h
    subst h
    exact s_iret F hr dX7_turned_41 rfl (Nat.le_refl _) (Nat.le_refl _) post
  have h := if_f e1 h
  by_cases e3 : x1 = 6
  · have h := if_t e3 h
    refine s_swC (off := 35) (tgt := 36) F dX7_turned_1 e3 (by decide +kernel) ?_
    refine s_iload_n F dX7_turned_36 rfl ?_
    refine s_iconst (v := 1) F dX7_turned_37 (by decide) ?_
    obtain ⟨v4, hv4, h⟩ := bd_i h
    refine s_cS F dX7_turned_38 (c_X7_toTheRight hs hv4) lkX7_120 okX7_toTheRight rfl (Nat.le_of_ble_eq_true rfl) (by decide) ?_
    have h := Option.some.inj h
    subst h
    exact s_iret F hr dX7_turned_41 rfl (Nat.le_refl _) (Nat.le_refl _) post
  have h := if_f e3 h
  by_cases e5 : x1 = 7
  · have h := if_t e5 h
    refine s_swC (off := 41) (tgt := 42) F dX7_turned_1 e5 (by decide +kernel) ?_
    refine s_iload_n F dX7_turned_42 rfl ?_
    refine s_iconst (v := 3) F dX7_turned_43 (by decide) ?_
    obtain ⟨v6, hv6, h⟩ := bd_i h
    refine s_cS F dX7_turned_44 (c_X7_toTheRight hs hv6) lkX7_120 okX7_toTheRight rfl (Nat.le_of_ble_eq_true rfl) (by decide) ?_
    have h := Option.some.inj h
    subst h
    exact s_iret F hr dX7_turned_47 rfl (Nat.le_refl _) (Nat.le_refl _) post
  have h := if_f e5 h
  by_cases e7 : x1 = 8
  · have h := if_t e7 h
    refine s_swC (off := 41) (tgt := 42) F dX7_turned_1 e7 (by decide +kernel) ?_
    refine s_iload_n F dX7_turned_42 rfl ?_
    refine s_iconst (v := 3) F dX7_turned_43 (by decide) ?_
    obtain ⟨v8, hv8, h⟩ := bd_i h
    refine s_cS F dX7_turned_44 (c_X7_toTheRight hs hv8) lkX7_120 okX7_toTheRight rfl (Nat.le_of_ble_eq_true rfl) (by decide) ?_
    have h := Option.some.inj h
    subst h
    exact s_iret F hr dX7_turned_47 rfl (Nat.le_refl _) (Nat.le_refl _) post
  have h := if_f e7 h
  by_cases e9 : x1 = 9
  · have h := if_t e9 h
    refine s_swC (off := 47) (tgt := 48) F dX7_turned_1 e9 (by decide +kernel) ?_
    refine s_iload_n F dX7_turned_48 rfl ?_
    refine s_iconst (v := 2) F dX7_turned_49 (by decide) ?_
    obtain ⟨v10, hv10, h⟩ := bd_i h
    refine s_cS F dX7_turned_50 (c_X7_toTheRight hs hv10) lkX7_120 okX7_toTheRight rfl (Nat.le_of_ble_eq_true rfl) (by decide) ?_
    have h := Option.some.inj h
    subst h
    exact s_iret F hr dX7_turned_53 rfl (Nat.le_refl _) (Nat.le_refl _) post
  have h := if_f e9 h
  refine s_swOut (tgt := 54) F dX7_turned_1 (by have q5 := lv_neT (a := 5) e1 (by decide); have q6 := lv_neT (a := 6) e3 (by decide); have q7 := lv_neT (a := 7) e5 (by decide); have q8 := lv_neT (a := 8) e7 (by decide); have q9 := lv_neT (a := 9) e9 (by decide); omega) (by decide) ?_
  refine s_iload_n F dX7_turned_54 rfl ?_
  have h := Option.some.inj h
  subst h
  exact s_iret F hr dX7_turned_55 rfl (Nat.le_refl _) (Nat.le_refl _) post
set_option maxRecDepth 100000 in
set_option maxHeartbeats 4000000 in
theorem c_X7_turned {n : Nat} {Ly : LL} {I : II} {P : PP} {r : Int32} (hs : ShC n Ly P) {x0 : Int32} {x1 : Int32} (h : fX7_turned x0 x1 = some r) (l : Launch) (s0 : Nat) (D : va_G) (DA : Nat → ClassId) : Ct l s0 D DA mX7_turned [.inl x0, .inl x1] 0 0 n Ly I P (PoD (some (.inl r)) n Ly I P) := ct_of (by decide +kernel) (Nat.le_of_ble_eq_true rfl) (fun X F hr _ => bX7_turned F hs hr ⟨rfl, rfl, rfl, rfl, rfl⟩ h)
-- ChipPilers$World.rowAhead
def fX7_rowAhead (I : II) (b0 : Nat) (x1 : Int32) : Option (Int32) := (if ¬ x1 = 0 then (if ¬ x1 = 2 then some (I b0 0) else some ((I b0 0) + 1)) else some ((I b0 0) - 1))
set_option maxRecDepth 100000 in
set_option maxHeartbeats 4000000 in
theorem bX7_rowAhead {X : Cx} {n : Nat} {Ly : LL} {I : II} {P : PP} {Po : PQ} {r : Int32} (F : Fx X RX7 cX7_rowAhead 2 1 0 0) (hs : ShC n Ly P) (hr : Fr X (some .int) Po 0 0) (post : Po (some (.inl r)) n Ly I P) {b0 : Nat} (hb0 : WB b0) {x1 : Int32} (h : fX7_rowAhead I b0 x1 = some r) : G X 2 0 0 n Ly 0 [some (.inr (some b0)), some (.inl x1)] [] I P := by
  unfold fX7_rowAhead at h
  refine s_iload_n F dX7_rowAhead_0 rfl ?_
  refine s_if_ne (tgt := 11) F dX7_rowAhead_1 (by decide) (fun c1 => ?_) (fun c1 => ?_)
  · have h := if_t c1 h
    refine s_iload_n F dX7_rowAhead_11 rfl ?_
    refine s_iconst (v := 2) F dX7_rowAhead_12 (by decide) ?_
    refine s_icmp_ne (tgt := 25) F dX7_rowAhead_13 (by decide) (fun c2 => ?_) (fun c2 => ?_)
    · have h := if_t c2 h
      refine s_aload_n F dX7_rowAhead_25 rfl ?_
      refine s_getI F dX7_rowAhead_26 flX7_146 (lyW hs hb0) (ltW hs hb0) rfl ?_
      have h := Option.some.inj h
      subst h
      exact s_iret F hr dX7_rowAhead_29 rfl (Nat.le_refl _) (Nat.le_refl _) post
    · have h := if_f (not_not_intro c2) h
      refine s_aload_n F dX7_rowAhead_16 rfl ?_
      refine s_getI F dX7_rowAhead_17 flX7_146 (lyW hs hb0) (ltW hs hb0) rfl ?_
      refine s_iconst (v := 1) F dX7_rowAhead_20 (by decide) ?_
      refine s_iadd F dX7_rowAhead_21 ?_
      refine s_goto (tgt := 29) F dX7_rowAhead_22 (by decide) ?_
      have h := Option.some.inj h
      subst h
      exact s_iret F hr dX7_rowAhead_29 rfl (Nat.le_refl _) (Nat.le_refl _) post
  · have h := if_f (not_not_intro c1) h
    refine s_aload_n F dX7_rowAhead_4 rfl ?_
    refine s_getI F dX7_rowAhead_5 flX7_146 (lyW hs hb0) (ltW hs hb0) rfl ?_
    refine s_iconst (v := 1) F dX7_rowAhead_8 (by decide) ?_
    refine s_isub F dX7_rowAhead_9 ?_
    have h := Option.some.inj h
    subst h
    exact s_iret F hr dX7_rowAhead_10 rfl (Nat.le_refl _) (Nat.le_refl _) post
set_option maxRecDepth 100000 in
set_option maxHeartbeats 4000000 in
theorem c_X7_rowAhead {n : Nat} {Ly : LL} {I : II} {P : PP} {r : Int32} (hs : ShC n Ly P) {b0 : Nat} (hb0 : WB b0) {x1 : Int32} (h : fX7_rowAhead I b0 x1 = some r) (l : Launch) (s0 : Nat) (D : va_G) (DA : Nat → ClassId) : Ct l s0 D DA mX7_rowAhead [.inr (some b0), .inl x1] 0 0 n Ly I P (PoD (some (.inl r)) n Ly I P) := ct_of (by decide +kernel) (Nat.le_of_ble_eq_true rfl) (fun X F hr _ => bX7_rowAhead F hs hr ⟨rfl, rfl, rfl, rfl, rfl⟩ hb0 h)
-- ChipPilers$World.columnAhead
def fX7_columnAhead (I : II) (b0 : Nat) (x1 : Int32) : Option (Int32) := (if ¬ x1 = 1 then (if ¬ x1 = 3 then some (I b0 1) else some ((I b0 1) - 1)) else some ((I b0 1) + 1))
set_option maxRecDepth 100000 in
set_option maxHeartbeats 4000000 in
theorem bX7_columnAhead {X : Cx} {n : Nat} {Ly : LL} {I : II} {P : PP} {Po : PQ} {r : Int32} (F : Fx X RX7 cX7_columnAhead 2 1 0 0) (hs : ShC n Ly P) (hr : Fr X (some .int) Po 0 0) (post : Po (some (.inl r)) n Ly I P) {b0 : Nat} (hb0 : WB b0) {x1 : Int32} (h : fX7_columnAhead I b0 x1 = some r) : G X 2 0 0 n Ly 0 [some (.inr (some b0)), some (.inl x1)] [] I P := by
  unfold fX7_columnAhead at h
  refine s_iload_n F dX7_columnAhead_0 rfl ?_
  refine s_iconst (v := 1) F dX7_columnAhead_1 (by decide) ?_
  refine s_icmp_ne (tgt := 12) F dX7_columnAhead_2 (by decide) (fun c1 => ?_) (fun c1 => ?_)
  · have h := if_t c1 h
    refine s_iload_n F dX7_columnAhead_12 rfl ?_
    refine s_iconst (v := 3) F dX7_columnAhead_13 (by decide) ?_
    refine s_icmp_ne (tgt := 26) F dX7_columnAhead_14 (by decide) (fun c2 => ?_) (fun c2 => ?_)
    · have h := if_t c2 h
      refine s_aload_n F dX7_columnAhead_26 rfl ?_
      refine s_getI F dX7_columnAhead_27 flX7_152 (lyW hs hb0) (ltW hs hb0) rfl ?_
      have h := Option.some.inj h
      subst h
      exact s_iret F hr dX7_columnAhead_30 rfl (Nat.le_refl _) (Nat.le_refl _) post
    · have h := if_f (not_not_intro c2) h
      refine s_aload_n F dX7_columnAhead_17 rfl ?_
      refine s_getI F dX7_columnAhead_18 flX7_152 (lyW hs hb0) (ltW hs hb0) rfl ?_
      refine s_iconst (v := 1) F dX7_columnAhead_21 (by decide) ?_
      refine s_isub F dX7_columnAhead_22 ?_
      refine s_goto (tgt := 30) F dX7_columnAhead_23 (by decide) ?_
      have h := Option.some.inj h
      subst h
      exact s_iret F hr dX7_columnAhead_30 rfl (Nat.le_refl _) (Nat.le_refl _) post
  · have h := if_f (not_not_intro c1) h
    refine s_aload_n F dX7_columnAhead_5 rfl ?_
    refine s_getI F dX7_columnAhead_6 flX7_152 (lyW hs hb0) (ltW hs hb0) rfl ?_
    refine s_iconst (v := 1) F dX7_columnAhead_9 (by decide) ?_
    refine s_iadd F dX7_columnAhead_10 ?_
    have h := Option.some.inj h
    subst h
    exact s_iret F hr dX7_columnAhead_11 rfl (Nat.le_refl _) (Nat.le_refl _) post
set_option maxRecDepth 100000 in
set_option maxHeartbeats 4000000 in
theorem c_X7_columnAhead {n : Nat} {Ly : LL} {I : II} {P : PP} {r : Int32} (hs : ShC n Ly P) {b0 : Nat} (hb0 : WB b0) {x1 : Int32} (h : fX7_columnAhead I b0 x1 = some r) (l : Launch) (s0 : Nat) (D : va_G) (DA : Nat → ClassId) : Ct l s0 D DA mX7_columnAhead [.inr (some b0), .inl x1] 0 0 n Ly I P (PoD (some (.inl r)) n Ly I P) := ct_of (by decide +kernel) (Nat.le_of_ble_eq_true rfl) (fun X F hr _ => bX7_columnAhead F hs hr ⟨rfl, rfl, rfl, rfl, rfl⟩ hb0 h)
-- ChipPilers$World.hasWall
def fX7_hasWall (I : II) (b1 : Nat) (x2 : Int32) : Option (Int32) := (fX7_rowAhead I b1 x2).bind fun v1 => (fX7_columnAhead I b1 x2).bind fun v2 => (fX4_hasCell I 2 v1 v2).bind fun v3 => (if ¬ v3 = 0 then some 0 else some 1)
set_option maxRecDepth 100000 in
set_option maxHeartbeats 4000000 in
theorem bX7_hasWall {X : Cx} {n : Nat} {Ly : LL} {I : II} {P : PP} {Po : PQ} {r : Int32} (F : Fx X RX7 cX7_hasWall 3 2 0 0) (hs : ShC n Ly P) (hr : Fr X (some .boolean) Po 0 0) (post : Po (some (.inl r)) n Ly I P) {b1 : Nat} (hb1 : WB b1) {x2 : Int32} (h : fX7_hasWall I b1 x2 = some r) : G X 3 0 0 n Ly 0 [some (.inr (some 1)), some (.inr (some b1)), some (.inl x2)] [] I P := by
  unfold fX7_hasWall at h
  refine s_aload_n F dX7_hasWall_0 rfl ?_
  refine s_getR F dX7_hasWall_1 flX7_12 (ly1 hs) (lt1 hs) rfl (p1_0 hs) ?_
  refine s_aload_n F dX7_hasWall_4 rfl ?_
  refine s_iload_n F dX7_hasWall_5 rfl ?_
  obtain ⟨v1, hv1, h⟩ := bd_i h
  refine s_cS F dX7_hasWall_6 (c_X7_rowAhead hs hb1 hv1) lkX7_142 okX7_rowAhead rfl (Nat.le_of_ble_eq_true rfl) (by decide) ?_
  refine s_aload_n F dX7_hasWall_9 rfl ?_
  refine s_iload_n F dX7_hasWall_10 rfl ?_
  obtain ⟨v2, hv2, h⟩ := bd_i h
  refine s_cS F dX7_hasWall_11 (c_X7_columnAhead hs hb1 hv2) lkX7_149 okX7_columnAhead rfl (Nat.le_of_ble_eq_true rfl) (by decide) ?_
  obtain ⟨v3, hv3, h⟩ := bd_i h
  refine s_cV (ci := 4) F dX7_hasWall_14 (c_X4_hasCell hs sb2 hv3) lkX7_178 okX4_hasCell (by decide) (lyS hs sb2) (ltSb hs sb2) rfl rfl (Nat.le_of_ble_eq_true rfl) (by decide) ?_
  refine s_if_ne (tgt := 24) F dX7_hasWall_17 (by decide) (fun c4 => ?_) (fun c4 => ?_)
  · have h := if_t c4 h
    refine s_iconst (v := 0) F dX7_hasWall_24 (by decide) ?_
    have h := Option.some.inj h
    subst h
    exact s_iret F hr dX7_hasWall_25 rfl (Nat.le_refl _) (Nat.le_refl _) post
  · have h := if_f (not_not_intro c4) h
    refine s_iconst (v := 1) F dX7_hasWall_20 (by decide) ?_
    refine s_goto (tgt := 25) F dX7_hasWall_21 (by decide) ?_
    have h := Option.some.inj h
    subst h
    exact s_iret F hr dX7_hasWall_25 rfl (Nat.le_refl _) (Nat.le_refl _) post
set_option maxRecDepth 100000 in
set_option maxHeartbeats 4000000 in
theorem c_X7_hasWall {n : Nat} {Ly : LL} {I : II} {P : PP} {r : Int32} (hs : ShC n Ly P) {b1 : Nat} (hb1 : WB b1) {x2 : Int32} (h : fX7_hasWall I b1 x2 = some r) (l : Launch) (s0 : Nat) (D : va_G) (DA : Nat → ClassId) : Ct l s0 D DA mX7_hasWall [.inr (some 1), .inr (some b1), .inl x2] 0 0 n Ly I P (PoD (some (.inl r)) n Ly I P) := ct_of (by decide +kernel) (Nat.le_of_ble_eq_true rfl) (fun X F hr _ => bX7_hasWall F hs hr ⟨rfl, rfl, rfl, rfl, rfl⟩ hb1 h)
-- ChipPilers$Heaps.addCell
def fX0_addCell (I : II) (b1 : Nat) (x2 : Int32) (x3 : Int32) : Option (II) := (if x2 < 0 then some I else (if 256 ≤ x2 then some I else (if 256 ≤ x2 then some I else (if x3 < 0 then some I else (if x3 < 128 then ck (ix x3 128) (ck (ix x2 256) ((if (I b1 x2.toNatClampNeg) ≤ 0 then some I else ck (ix x2 256) ((if 0 ≤ (I 19 x2.toNatClampNeg) then some I else (if (I 17 x3.toNatClampNeg) < 0 then some I else (if 256 ≤ (I 17 x3.toNatClampNeg) then some I else ck (ix x2 256) ((some (up2 I 19 x2.toNatClampNeg x3)).bind fun I14 => ck (ix (I 17 x3.toNatClampNeg) 256) ((some (up2 I14 20 (I 17 x3.toNatClampNeg).toNatClampNeg x2)).bind fun I16 => ck (ix x3 128) ((some (up2 I16 17 x3.toNatClampNeg ((I 17 x3.toNatClampNeg) + 1))).bind fun I18 => ck (ix x3 128) (ck (ix x2 256) (ck (ix x3 128) ((some (up2 I18 16 x3.toNatClampNeg ((I18 16 x3.toNatClampNeg) + (I18 b1 x2.toNatClampNeg)))).bind fun I22 => some I22))))))))))))) else some I)))))
set_option maxRecDepth 100000 in
set_option maxHeartbeats 4000000 in
theorem bX0_addCell {X : Cx} {n : Nat} {Ly : LL} {I : II} {P : PP} {Po : PQ} {r : II} (F : Fx X RX0 cX0_addCell 5 1 0 0) (hs : ShC n Ly P) (hr : Fr X none Po 0 0) (post : Po none n Ly r P) {b1 : Nat} (hb1 : AB b1) {x2 : Int32} {x3 : Int32} (h : fX0_addCell I b1 x2 x3 = some r) : G X 5 0 0 n Ly 0 [some (.inr (some 15)), some (.inr (some b1)), some (.inl x2), some (.inl x3), none] [] I P := by
  unfold fX0_addCell at h
  refine s_iload_n F dX0_addCell_0 rfl ?_
  refine s_if_lt (tgt := 28) F dX0_addCell_1 (by decide) (fun c1 => ?_) (fun c1 => ?_)
  · have h := if_t c1 h
    have h := Option.some.inj h
    subst h
    exact s_vret F hr dX0_addCell_28 (Nat.le_refl _) (Nat.le_refl _) post
  · have h := if_f c1 h
    refine s_iload_n F dX0_addCell_4 rfl ?_
    refine s_sipush (v := 256) F dX0_addCell_5 (by decide) ?_
    refine s_icmp_ge (tgt := 28) F dX0_addCell_8 (by decide) (fun c2 => ?_) (fun c2 => ?_)
    · have h := if_t c2 h
      have h := Option.some.inj h
      subst h
      exact s_vret F hr dX0_addCell_28 (Nat.le_refl _) (Nat.le_refl _) post
    · have h := if_f c2 h
      refine s_iload_n F dX0_addCell_11 rfl ?_
      refine s_aload_n F dX0_addCell_12 rfl ?_
      refine s_alen (v := 256) F dX0_addCell_13 (lyA hs hb1) (by decide) (ltA hs hb1) (by decide) ?_
      refine s_icmp_ge (tgt := 28) F dX0_addCell_14 (by decide) (fun c3 => ?_) (fun c3 => ?_)
      · have h := if_t c3 h
        have h := Option.some.inj h
        subst h
        exact s_vret F hr dX0_addCell_28 (Nat.le_refl _) (Nat.le_refl _) post
      · have h := if_f c3 h
        refine s_iload_n F dX0_addCell_17 rfl ?_
        refine s_if_lt (tgt := 28) F dX0_addCell_18 (by decide) (fun c4 => ?_) (fun c4 => ?_)
        · have h := if_t c4 h
          have h := Option.some.inj h
          subst h
          exact s_vret F hr dX0_addCell_28 (Nat.le_refl _) (Nat.le_refl _) post
        · have h := if_f c4 h
          refine s_iload_n F dX0_addCell_21 rfl ?_
          refine s_sipush (v := 128) F dX0_addCell_22 (by decide) ?_
          refine s_icmp_lt (tgt := 29) F dX0_addCell_25 (by decide) (fun c5 => ?_) (fun c5 => ?_)
          · have h := if_t c5 h
            refine s_aload_n F dX0_addCell_29 rfl ?_
            refine s_getR F dX0_addCell_30 flX0_15 (ly15 hs) (lt15 hs) rfl (p15_1 hs) ?_
            refine s_iload_n F dX0_addCell_33 rfl ?_
            obtain ⟨hc6, h⟩ := ck_s h
            refine s_iald F dX0_addCell_34 (ly17 hs) (lt17 hs) (ix_s hc6) ?_
            refine s_istore F dX0_addCell_35 (by decide) ?_
            refine s_aload_n F dX0_addCell_37 rfl ?_
            refine s_iload_n F dX0_addCell_38 rfl ?_
            obtain ⟨hc7, h⟩ := ck_s h
            refine s_iald F dX0_addCell_39 (lyA hs hb1) (ltA hs hb1) (ix_s hc7) ?_
            refine s_if_le (tgt := 102) F dX0_addCell_40 (by decide) (fun c8 => ?_) (fun c8 => ?_)
            · have h := if_t c8 h
              have h := Option.some.inj h
              subst h
              exact s_vret F hr dX0_addCell_102 (Nat.le_refl _) (Nat.le_refl _) post
            · have h := if_f c8 h
              refine s_aload_n F dX0_addCell_43 rfl ?_
              refine s_getR F dX0_addCell_44 flX0_21 (ly15 hs) (lt15 hs) rfl (p15_3 hs) ?_
              refine s_iload_n F dX0_addCell_47 rfl ?_
              obtain ⟨hc9, h⟩ := ck_s h
              refine s_iald F dX0_addCell_48 (ly19 hs) (lt19 hs) (ix_s hc9) ?_
              refine s_if_ge (tgt := 102) F dX0_addCell_49 (by decide) (fun c10 => ?_) (fun c10 => ?_)
              · have h := if_t c10 h
                have h := Option.some.inj h
                subst h
                exact s_vret F hr dX0_addCell_102 (Nat.le_refl _) (Nat.le_refl _) post
              · have h := if_f c10 h
                refine s_iload F dX0_addCell_52 rfl ?_
                refine s_if_lt (tgt := 102) F dX0_addCell_54 (by decide) (fun c11 => ?_) (fun c11 => ?_)
                · have h := if_t c11 h
                  have h := Option.some.inj h
                  subst h
                  exact s_vret F hr dX0_addCell_102 (Nat.le_refl _) (Nat.le_refl _) post
                · have h := if_f c11 h
                  refine s_iload F dX0_addCell_57 rfl ?_
                  refine s_sipush (v := 256) F dX0_addCell_59 (by decide) ?_
                  refine s_icmp_ge (tgt := 102) F dX0_addCell_62 (by decide) (fun c12 => ?_) (fun c12 => ?_)
                  · have h := if_t c12 h
                    have h := Option.some.inj h
                    subst h
                    exact s_vret F hr dX0_addCell_102 (Nat.le_refl _) (Nat.le_refl _) post
                  · have h := if_f c12 h
                    refine s_aload_n F dX0_addCell_65 rfl ?_
                    refine s_getR F dX0_addCell_66 flX0_21 (ly15 hs) (lt15 hs) rfl (p15_3 hs) ?_
                    refine s_iload_n F dX0_addCell_69 rfl ?_
                    refine s_iload_n F dX0_addCell_70 rfl ?_
                    obtain ⟨hc13, h⟩ := ck_s h
                    have h := bd_s h
                    refine s_iast F dX0_addCell_71 (ly19 hs) (lt19 hs) (ix_s hc13) ?_
                    refine s_aload_n F dX0_addCell_72 rfl ?_
                    refine s_getR F dX0_addCell_73 flX0_24 (ly15 hs) (lt15 hs) rfl (p15_4 hs) ?_
                    refine s_iload F dX0_addCell_76 rfl ?_
                    refine s_iload_n F dX0_addCell_78 rfl ?_
                    obtain ⟨hc15, h⟩ := ck_s h
                    have h := bd_s h
                    refine s_iast F dX0_addCell_79 (ly20 hs) (lt20 hs) (ix_s hc15) ?_
                    refine s_aload_n F dX0_addCell_80 rfl ?_
                    refine s_getR F dX0_addCell_81 flX0_15 (ly15 hs) (lt15 hs) rfl (p15_1 hs) ?_
                    refine s_iload_n F dX0_addCell_84 rfl ?_
                    refine s_iload F dX0_addCell_85 rfl ?_
                    refine s_iconst (v := 1) F dX0_addCell_87 (by decide) ?_
                    refine s_iadd F dX0_addCell_88 ?_
                    obtain ⟨hc17, h⟩ := ck_s h
                    have h := bd_s h
                    refine s_iast F dX0_addCell_89 (ly17 hs) (lt17 hs) (ix_s hc17) ?_
                    refine s_aload_n F dX0_addCell_90 rfl ?_
                    refine s_getR F dX0_addCell_91 flX0_9 (ly15 hs) (lt15 hs) rfl (p15_0 hs) ?_
                    refine s_iload_n F dX0_addCell_94 rfl ?_
                    refine s_dup2 F dX0_addCell_95 ?_
                    obtain ⟨hc19, h⟩ := ck_s h
                    refine s_iald F dX0_addCell_96 (ly16 hs) (lt16 hs) (ix_s hc19) ?_
                    refine s_aload_n F dX0_addCell_97 rfl ?_
                    refine s_iload_n F dX0_addCell_98 rfl ?_
                    obtain ⟨hc20, h⟩ := ck_s h
                    refine s_iald F dX0_addCell_99 (lyA hs hb1) (ltA hs hb1) (ix_s hc20) ?_
                    refine s_iadd F dX0_addCell_100 ?_
                    obtain ⟨hc21, h⟩ := ck_s h
                    have h := bd_s h
                    refine s_iast F dX0_addCell_101 (ly16 hs) (lt16 hs) (ix_s hc21) ?_
                    have h := Option.some.inj h
                    subst h
                    exact s_vret F hr dX0_addCell_102 (Nat.le_refl _) (Nat.le_refl _) post
          · have h := if_f c5 h
            have h := Option.some.inj h
            subst h
            exact s_vret F hr dX0_addCell_28 (Nat.le_refl _) (Nat.le_refl _) post
set_option maxRecDepth 100000 in
set_option maxHeartbeats 4000000 in
theorem c_X0_addCell {n : Nat} {Ly : LL} {I : II} {P : PP} {r : II} (hs : ShC n Ly P) {b1 : Nat} (hb1 : AB b1) {x2 : Int32} {x3 : Int32} (h : fX0_addCell I b1 x2 x3 = some r) (l : Launch) (s0 : Nat) (D : va_G) (DA : Nat → ClassId) : Ct l s0 D DA mX0_addCell [.inr (some 15), .inr (some b1), .inl x2, .inl x3] 0 0 n Ly I P (PoD none n Ly r P) := ct_of (by decide +kernel) (Nat.le_of_ble_eq_true rfl) (fun X F hr _ => bX0_addCell F hs hr ⟨rfl, rfl, rfl, rfl, rfl⟩ hb1 h)
-- ChipPilers$Heaps.neighbour
def fX0_neighbour (x0 : Int32) (x1 : Int32) : Option (Int32) := (if x1 = 0 then (if x0 < 16 then some (-1) else some (x0 - 16)) else if x1 = 1 then (if 15 ≤ (rm x0 16) then some (-1) else some (x0 + 1)) else if x1 = 2 then (if 240 ≤ x0 then some (-1) else some (x0 + 16)) else (if (rm x0 16) ≤ 0 then some (-1) else some (x0 - 1)))
set_option maxRecDepth 100000 in
set_option maxHeartbeats 4000000 in
theorem bX0_neighbour {X : Cx} {n : Nat} {Ly : LL} {I : II} {P : PP} {Po : PQ} {r : Int32} (F : Fx X RX0 cX0_neighbour 3 1 0 0) (hs : ShC n Ly P) (hr : Fr X (some .int) Po 0 0) (post : Po (some (.inl r)) n Ly I P) {x0 : Int32} {x1 : Int32} (h : fX0_neighbour x0 x1 = some r) : G X 3 0 0 n Ly 0 [some (.inl x0), some (.inl x1), none] [] I P := by
  unfold fX0_neighbour at h
  refine s_iload_n F dX0_neighbour_0 rfl ?_
  refine s_bipush (v := 16) F dX0_neighbour_1 (by decide) ?_
  refine s_rem F dX0_neighbour_3 (by decide) ?_
  refine s_istore_n F dX0_neighbour_4 (by decide) ?_
  refine s_iload_n F dX0_neighbour_5 rfl ?_
  by_cases e1 : x1 = 0
  · have h := if_t e1 h
    refine s_swC (off := 26) (tgt := 32) F dX0_neighbour_6 e1 (by decide +kernel) ?_
    refine s_iload_n F dX0_neighbour_32 rfl ?_
    refine s_bipush (v := 16) F dX0_neighbour_33 (by decide) ?_
    refine s_icmp_lt (tgt := 45) F dX0_neighbour_35 (by decide) (fun c2 => ?_) (fun c2 => ?_)
    · have h := if_t c2 h
      refine s_iconst (v := (-1)) F dX0_neighbour_45 (by decide) ?_
      have h := Option.some.inj h
      subst h
      exact s_iret F hr dX0_neighbour_46 rfl (Nat.le_refl _) (Nat.le_refl _) post
    · have h := if_f c2 h
      refine s_iload_n F dX0_neighbour_38 rfl ?_
      refine s_bipush (v := 16) F dX0_neighbour_39 (by decide) ?_
      refine s_isub F dX0_neighbour_41 ?_
      refine s_goto (tgt := 46) F dX0_neighbour_42 (by decide) ?_
      have h := Option.some.inj h
      subst h
      exact s_iret F hr dX0_neighbour_46 rfl (Nat.le_refl _) (Nat.le_refl _) post
  have h := if_f e1 h
  by_cases e3 : x1 = 1
  · have h := if_t e3 h
    refine s_swC (off := 41) (tgt := 47) F dX0_neighbour_6 e3 (by decide +kernel) ?_
    refine s_iload_n F dX0_neighbour_47 rfl ?_
    refine s_bipush (v := 15) F dX0_neighbour_48 (by decide) ?_
    refine s_icmp_ge (tgt := 59) F dX0_neighbour_50 (by decide) (fun c4 => ?_) (fun c4 => ?_)
    · have h := if_t c4 h
      refine s_iconst (v := (-1)) F dX0_neighbour_59 (by decide) ?_
      have h := Option.some.inj h
      subst h
      exact s_iret F hr dX0_neighbour_60 rfl (Nat.le_refl _) (Nat.le_refl _) post
    · have h := if_f c4 h
      refine s_iload_n F dX0_neighbour_53 rfl ?_
      refine s_iconst (v := 1) F dX0_neighbour_54 (by decide) ?_
      refine s_iadd F dX0_neighbour_55 ?_
      refine s_goto (tgt := 60) F dX0_neighbour_56 (by decide) ?_
      have h := Option.some.inj h
      subst h
      exact s_iret F hr dX0_neighbour_60 rfl (Nat.le_refl _) (Nat.le_refl _) post
  have h := if_f e3 h
  by_cases e5 : x1 = 2
  · have h := if_t e5 h
    refine s_swC (off := 55) (tgt := 61) F dX0_neighbour_6 e5 (by decide +kernel) ?_
    refine s_iload_n F dX0_neighbour_61 rfl ?_
    refine s_sipush (v := 240) F dX0_neighbour_62 (by decide) ?_
    refine s_icmp_ge (tgt := 75) F dX0_neighbour_65 (by decide) (fun c6 => ?_) (fun c6 => ?_)
    · have h := if_t c6 h
      refine s_iconst (v := (-1)) F dX0_neighbour_75 (by decide) ?_
      have h := Option.some.inj h
      subst h
      exact s_iret F hr dX0_neighbour_76 rfl (Nat.le_refl _) (Nat.le_refl _) post
    · have h := if_f c6 h
      refine s_iload_n F dX0_neighbour_68 rfl ?_
      refine s_bipush (v := 16) F dX0_neighbour_69 (by decide) ?_
      refine s_iadd F dX0_neighbour_71 ?_
      refine s_goto (tgt := 76) F dX0_neighbour_72 (by decide) ?_
      have h := Option.some.inj h
      subst h
      exact s_iret F hr dX0_neighbour_76 rfl (Nat.le_refl _) (Nat.le_refl _) post
  have h := if_f e5 h
  refine s_swOut (tgt := 77) F dX0_neighbour_6 (by have q0 := lv_neT (a := 0) e1 (by decide); have q1 := lv_neT (a := 1) e3 (by decide); have q2 := lv_neT (a := 2) e5 (by decide); omega) (by decide) ?_
  refine s_iload_n F dX0_neighbour_77 rfl ?_
  refine s_if_le (tgt := 87) F dX0_neighbour_78 (by decide) (fun c7 => ?_) (fun c7 => ?_)
  · have h := if_t c7 h
    refine s_iconst (v := (-1)) F dX0_neighbour_87 (by decide) ?_
    have h := Option.some.inj h
    subst h
    exact s_iret F hr dX0_neighbour_88 rfl (Nat.le_refl _) (Nat.le_refl _) post
  · have h := if_f c7 h
    refine s_iload_n F dX0_neighbour_81 rfl ?_
    refine s_iconst (v := 1) F dX0_neighbour_82 (by decide) ?_
    refine s_isub F dX0_neighbour_83 ?_
    refine s_goto (tgt := 88) F dX0_neighbour_84 (by decide) ?_
    have h := Option.some.inj h
    subst h
    exact s_iret F hr dX0_neighbour_88 rfl (Nat.le_refl _) (Nat.le_refl _) post
set_option maxRecDepth 100000 in
set_option maxHeartbeats 4000000 in
theorem c_X0_neighbour {n : Nat} {Ly : LL} {I : II} {P : PP} {r : Int32} (hs : ShC n Ly P) {x0 : Int32} {x1 : Int32} (h : fX0_neighbour x0 x1 = some r) (l : Launch) (s0 : Nat) (D : va_G) (DA : Nat → ClassId) : Ct l s0 D DA mX0_neighbour [.inl x0, .inl x1] 0 0 n Ly I P (PoD (some (.inl r)) n Ly I P) := ct_of (by decide +kernel) (Nat.le_of_ble_eq_true rfl) (fun X F hr _ => bX0_neighbour F hs hr ⟨rfl, rfl, rfl, rfl, rfl⟩ h)
-- ChipPilers$Heaps.findHeap
def fX0_findHeap_L65 : Nat → (II → Option (II)) → Nat → Int32 → Int32 → Int32 → II → Option (II)
  | 0, _, _, _, _, _, _ => none
  | k + 1, ct, b1, x3, x4, x5, I => (if 3 < x5 then ct I else ck (ix x4 256) ((fX0_neighbour (I 20 x4.toNatClampNeg) x5).bind fun v15 => (fX0_addCell I b1 v15 x3).bind fun v16 => fX0_findHeap_L65 k ct b1 x3 x4 (x5 + 1) v16))
def fX0_findHeap_L43 : Nat → (II → Option (II)) → Nat → Int32 → Int32 → II → Option (II)
  | 0, _, _, _, _, _ => none
  | k + 1, ct, b1, x3, x4, I => ck (ix x3 128) ((if (I 17 x3.toNatClampNeg) ≤ x4 then ct I else (if 256 ≤ x4 then ct I else fX0_findHeap_L65 2000 (fun I17 => fX0_findHeap_L43 k ct b1 x3 (x4 + 1) I17) b1 x3 x4 0 I)))
def fX0_findHeap (I : II) (b1 : Nat) (x2 : Int32) (x3 : Int32) : Option (II) := (if x3 < 0 then some I else (if x3 < 128 then ck (ix x3 128) ((some (up2 I 16 x3.toNatClampNeg 0)).bind fun I4 => ck (ix x3 128) ((some (up2 I4 17 x3.toNatClampNeg 0)).bind fun I6 => ck (ix x3 128) ((some (up2 I6 18 x3.toNatClampNeg x2)).bind fun I8 => (fX0_addCell I8 b1 x2 x3).bind fun v9 => fX0_findHeap_L43 2000 (fun I18 => some I18) b1 x3 0 v9))) else some I))
set_option maxRecDepth 100000 in
set_option maxHeartbeats 4000000 in
theorem lX0_findHeap_L65 {X : Cx} {n : Nat} {Ly : LL} {P : PP} {Po : PQ} {r : II} (F : Fx X RX0 cX0_findHeap 6 2 0 0) (hs : ShC n Ly P) (hr : Fr X none Po 0 0) (post : Po none n Ly r P) {b1 : Nat} (hb1 : AB b1) {x3 : Int32} {x4 : Int32} {ct : II → Option (II)} (hct : ∀  (I : II), ct  I = some r → G X 6 0 0 n Ly 95 [some (.inr (some 15)), some (.inr (some b1)), none, some (.inl x3), some (.inl x4), none] [] I P) : ∀ (k : Nat) (x5 : Int32) (I : II), fX0_findHeap_L65 k ct b1 x3 x4 x5 I = some r → G X 6 0 0 n Ly 65 [some (.inr (some 15)), some (.inr (some b1)), none, some (.inl x3), some (.inl x4), some (.inl x5)] [] I P := by
  intro k
  induction k with
  | zero =>
    intro x5 I h
    cases h
  | succ k ih =>
    intro x5 I h
    rw [fX0_findHeap_L65] at h
    refine s_iload F dX0_findHeap_65 rfl ?_
    refine s_iconst (v := 3) F dX0_findHeap_67 (by decide) ?_
    refine s_icmp_gt (tgt := 95) F dX0_findHeap_68 (by decide) (fun c13 => ?_) (fun c13 => ?_)
    · have h := if_t c13 h
      exact G.weak (by exact ⟨rfl, ⟨rfl, ⟨rfl, ⟨rfl, trivial⟩⟩⟩⟩) (hct _ h)
    · have h := if_f c13 h
      refine s_aload_n F dX0_findHeap_71 rfl ?_
      refine s_aload_n F dX0_findHeap_72 rfl ?_
      refine s_aload_n F dX0_findHeap_73 rfl ?_
      refine s_getR F dX0_findHeap_74 flX0_24 (ly15 hs) (lt15 hs) rfl (p15_4 hs) ?_
      refine s_iload F dX0_findHeap_77 rfl ?_
      obtain ⟨hc14, h⟩ := ck_s h
      refine s_iald F dX0_findHeap_79 (ly20 hs) (lt20 hs) (ix_s hc14) ?_
      refine s_iload F dX0_findHeap_80 rfl ?_
      obtain ⟨v15, hv15, h⟩ := bd_i h
      refine s_cS F dX0_findHeap_82 (c_X0_neighbour hs hv15) lkX0_48 okX0_neighbour rfl (Nat.le_of_ble_eq_true rfl) (by decide) ?_
      refine s_iload_n F dX0_findHeap_85 rfl ?_
      obtain ⟨v16, hv16, h⟩ := bd_i h
      refine s_cV (ci := 0) F dX0_findHeap_86 (c_X0_addCell hs hb1 hv16) lkX0_45 okX0_addCell (by decide) (ly15 hs) (lt15 hs) rfl rfl (Nat.le_of_ble_eq_true rfl) (by decide) ?_
      refine s_inc (c := 1) F dX0_findHeap_89 rfl (by decide) (by decide) ?_
      refine s_goto (tgt := 65) F dX0_findHeap_92 (by decide) ?_
      exact G.weak (by exact ⟨rfl, ⟨rfl, ⟨rfl, ⟨rfl, ⟨rfl, trivial⟩⟩⟩⟩⟩) (ih _ _ h)
set_option maxRecDepth 100000 in
set_option maxHeartbeats 4000000 in
theorem lX0_findHeap_L43 {X : Cx} {n : Nat} {Ly : LL} {P : PP} {Po : PQ} {r : II} (F : Fx X RX0 cX0_findHeap 6 2 0 0) (hs : ShC n Ly P) (hr : Fr X none Po 0 0) (post : Po none n Ly r P) {b1 : Nat} (hb1 : AB b1) {x3 : Int32} {ct : II → Option (II)} (hct : ∀  (I : II), ct  I = some r → G X 6 0 0 n Ly 101 [none, none, none, none, none, none] [] I P) : ∀ (k : Nat) (x4 : Int32) (I : II), fX0_findHeap_L43 k ct b1 x3 x4 I = some r → G X 6 0 0 n Ly 43 [some (.inr (some 15)), some (.inr (some b1)), none, some (.inl x3), some (.inl x4), none] [] I P := by
  intro k
  induction k with
  | zero =>
    intro x4 I h
    cases h
  | succ k ih =>
    intro x4 I h
    rw [fX0_findHeap_L43] at h
    refine s_iload F dX0_findHeap_43 rfl ?_
    refine s_aload_n F dX0_findHeap_45 rfl ?_
    refine s_getR F dX0_findHeap_46 flX0_15 (ly15 hs) (lt15 hs) rfl (p15_1 hs) ?_
    refine s_iload_n F dX0_findHeap_49 rfl ?_
    obtain ⟨hc10, h⟩ := ck_s h
    refine s_iald F dX0_findHeap_50 (ly17 hs) (lt17 hs) (ix_s hc10) ?_
    refine s_icmp_ge (tgt := 101) F dX0_findHeap_51 (by decide) (fun c11 => ?_) (fun c11 => ?_)
    · have h := if_t c11 h
      exact G.weak (by exact trivial) (hct _ h)
    · have h := if_f c11 h
      refine s_iload F dX0_findHeap_54 rfl ?_
      refine s_sipush (v := 256) F dX0_findHeap_56 (by decide) ?_
      refine s_icmp_ge (tgt := 101) F dX0_findHeap_59 (by decide) (fun c12 => ?_) (fun c12 => ?_)
      · have h := if_t c12 h
        exact G.weak (by exact trivial) (hct _ h)
      · have h := if_f c12 h
        refine s_iconst (v := 0) F dX0_findHeap_62 (by decide) ?_
        refine s_istore F dX0_findHeap_63 (by decide) ?_
        refine G.weak (by exact ⟨rfl, ⟨rfl, ⟨rfl, ⟨rfl, ⟨rfl, trivial⟩⟩⟩⟩⟩) (lX0_findHeap_L65 F hs hr post hb1 (fun I17 h => ?_) 2000 _ _ h)
        refine s_inc (c := 1) F dX0_findHeap_95 rfl (by decide) (by decide) ?_
        refine s_goto (tgt := 43) F dX0_findHeap_98 (by decide) ?_
        exact G.weak (by exact ⟨rfl, ⟨rfl, ⟨rfl, ⟨rfl, trivial⟩⟩⟩⟩) (ih _ _ h)
set_option maxRecDepth 100000 in
set_option maxHeartbeats 4000000 in
theorem bX0_findHeap {X : Cx} {n : Nat} {Ly : LL} {I : II} {P : PP} {Po : PQ} {r : II} (F : Fx X RX0 cX0_findHeap 6 2 0 0) (hs : ShC n Ly P) (hr : Fr X none Po 0 0) (post : Po none n Ly r P) {b1 : Nat} (hb1 : AB b1) {x2 : Int32} {x3 : Int32} (h : fX0_findHeap I b1 x2 x3 = some r) : G X 6 0 0 n Ly 0 [some (.inr (some 15)), some (.inr (some b1)), some (.inl x2), some (.inl x3), none, none] [] I P := by
  unfold fX0_findHeap at h
  refine s_iload_n F dX0_findHeap_0 rfl ?_
  refine s_if_lt (tgt := 11) F dX0_findHeap_1 (by decide) (fun c1 => ?_) (fun c1 => ?_)
  · have h := if_t c1 h
    have h := Option.some.inj h
    subst h
    exact s_vret F hr dX0_findHeap_11 (Nat.le_refl _) (Nat.le_refl _) post
  · have h := if_f c1 h
    refine s_iload_n F dX0_findHeap_4 rfl ?_
    refine s_sipush (v := 128) F dX0_findHeap_5 (by decide) ?_
    refine s_icmp_lt (tgt := 12) F dX0_findHeap_8 (by decide) (fun c2 => ?_) (fun c2 => ?_)
    · have h := if_t c2 h
      refine s_aload_n F dX0_findHeap_12 rfl ?_
      refine s_getR F dX0_findHeap_13 flX0_9 (ly15 hs) (lt15 hs) rfl (p15_0 hs) ?_
      refine s_iload_n F dX0_findHeap_16 rfl ?_
      refine s_iconst (v := 0) F dX0_findHeap_17 (by decide) ?_
      obtain ⟨hc3, h⟩ := ck_s h
      have h := bd_s h
      refine s_iast F dX0_findHeap_18 (ly16 hs) (lt16 hs) (ix_s hc3) ?_
      refine s_aload_n F dX0_findHeap_19 rfl ?_
      refine s_getR F dX0_findHeap_20 flX0_15 (ly15 hs) (lt15 hs) rfl (p15_1 hs) ?_
      refine s_iload_n F dX0_findHeap_23 rfl ?_
      refine s_iconst (v := 0) F dX0_findHeap_24 (by decide) ?_
      obtain ⟨hc5, h⟩ := ck_s h
      have h := bd_s h
      refine s_iast F dX0_findHeap_25 (ly17 hs) (lt17 hs) (ix_s hc5) ?_
      refine s_aload_n F dX0_findHeap_26 rfl ?_
      refine s_getR F dX0_findHeap_27 flX0_18 (ly15 hs) (lt15 hs) rfl (p15_2 hs) ?_
      refine s_iload_n F dX0_findHeap_30 rfl ?_
      refine s_iload_n F dX0_findHeap_31 rfl ?_
      obtain ⟨hc7, h⟩ := ck_s h
      have h := bd_s h
      refine s_iast F dX0_findHeap_32 (ly18 hs) (lt18 hs) (ix_s hc7) ?_
      refine s_aload_n F dX0_findHeap_33 rfl ?_
      refine s_aload_n F dX0_findHeap_34 rfl ?_
      refine s_iload_n F dX0_findHeap_35 rfl ?_
      refine s_iload_n F dX0_findHeap_36 rfl ?_
      obtain ⟨v9, hv9, h⟩ := bd_i h
      refine s_cV (ci := 0) F dX0_findHeap_37 (c_X0_addCell hs hb1 hv9) lkX0_45 okX0_addCell (by decide) (ly15 hs) (lt15 hs) rfl rfl (Nat.le_of_ble_eq_true rfl) (by decide) ?_
      refine s_iconst (v := 0) F dX0_findHeap_40 (by decide) ?_
      refine s_istore F dX0_findHeap_41 (by decide) ?_
      refine G.weak (by exact ⟨rfl, ⟨rfl, ⟨rfl, ⟨rfl, trivial⟩⟩⟩⟩) (lX0_findHeap_L43 F hs hr post hb1 (fun I18 h => ?_) 2000 _ _ h)
      have h := Option.some.inj h
      subst h
      exact s_vret F hr dX0_findHeap_101 (Nat.le_refl _) (Nat.le_refl _) post
    · have h := if_f c2 h
      have h := Option.some.inj h
      subst h
      exact s_vret F hr dX0_findHeap_11 (Nat.le_refl _) (Nat.le_refl _) post
set_option maxRecDepth 100000 in
set_option maxHeartbeats 4000000 in
theorem c_X0_findHeap {n : Nat} {Ly : LL} {I : II} {P : PP} {r : II} (hs : ShC n Ly P) {b1 : Nat} (hb1 : AB b1) {x2 : Int32} {x3 : Int32} (h : fX0_findHeap I b1 x2 x3 = some r) (l : Launch) (s0 : Nat) (D : va_G) (DA : Nat → ClassId) : Ct l s0 D DA mX0_findHeap [.inr (some 15), .inr (some b1), .inl x2, .inl x3] 0 0 n Ly I P (PoD none n Ly r P) := ct_of (by decide +kernel) (Nat.le_of_ble_eq_true rfl) (fun X F hr _ => bX0_findHeap F hs hr ⟨rfl, rfl, rfl, rfl, rfl⟩ hb1 h)
-- ChipPilers$Heaps.numberIn
def fX0_numberIn_L27 : Nat → (II → Option (Int32 × II)) → Nat → Int32 → II → Option (Int32 × II)
  | 0, _, _, _, _ => none
  | k + 1, ct, b1, x2, I => (if 256 ≤ x2 then ct I else (if 256 ≤ x2 then ct I else ck (ix x2 256) ((if (I b1 x2.toNatClampNeg) ≤ 0 then fX0_numberIn_L27 k ct b1 (x2 + 1) I else ck (ix x2 256) ((if 0 ≤ (I 19 x2.toNatClampNeg) then fX0_numberIn_L27 k ct b1 (x2 + 1) I else (if 128 ≤ (I 15 5) then fX0_numberIn_L27 k ct b1 (x2 + 1) I else (fX0_findHeap I b1 x2 (I 15 5)).bind fun v11 => (some (up2 v11 15 5 ((v11 15 5) + 1))).bind fun I12 => fX0_numberIn_L27 k ct b1 (x2 + 1) I12)))))))
def fX0_numberIn (I : II) (b1 : Nat) : Option (Int32 × II) := (if ¬ (I 15 6) = 0 then (some (fl2 I 19 256 (-1))).bind fun I2 => (some (up2 I2 15 5 0)).bind fun I3 => fX0_numberIn_L27 2000 (fun I13 => (some (up2 I13 15 6 0)).bind fun I14 => some ((I14 15 5), I14)) b1 0 I3 else some ((I 15 5), I))
set_option maxRecDepth 100000 in
set_option maxHeartbeats 4000000 in
theorem lX0_numberIn_L27 {X : Cx} {n : Nat} {Ly : LL} {P : PP} {Po : PQ} {r : Int32 × II} (F : Fx X RX0 cX0_numberIn 3 3 0 0) (hs : ShC n Ly P) (hr : Fr X (some .int) Po 0 0) (post : Po (some (.inl r.1)) n Ly r.2 P) {b1 : Nat} (hb1 : AB b1) {ct : II → Option (Int32 × II)} (hct : ∀  (I : II), ct  I = some r → G X 3 0 0 n Ly 91 [some (.inr (some 15)), none, none] [] I P) : ∀ (k : Nat) (x2 : Int32) (I : II), fX0_numberIn_L27 k ct b1 x2 I = some r → G X 3 0 0 n Ly 27 [some (.inr (some 15)), some (.inr (some b1)), some (.inl x2)] [] I P := by
  intro k
  induction k with
  | zero =>
    intro x2 I h
    cases h
  | succ k ih =>
    intro x2 I h
    rw [fX0_numberIn_L27] at h
    refine s_iload_n F dX0_numberIn_27 rfl ?_
    refine s_sipush (v := 256) F dX0_numberIn_28 (by decide) ?_
    refine s_icmp_ge (tgt := 91) F dX0_numberIn_31 (by decide) (fun c4 => ?_) (fun c4 => ?_)
    · have h := if_t c4 h
      exact G.weak (by exact ⟨rfl, trivial⟩) (hct _ h)
    · have h := if_f c4 h
      refine s_iload_n F dX0_numberIn_34 rfl ?_
      refine s_aload_n F dX0_numberIn_35 rfl ?_
      refine s_alen (v := 256) F dX0_numberIn_36 (lyA hs hb1) (by decide) (ltA hs hb1) (by decide) ?_
      refine s_icmp_ge (tgt := 91) F dX0_numberIn_37 (by decide) (fun c5 => ?_) (fun c5 => ?_)
      · have h := if_t c5 h
        exact G.weak (by exact ⟨rfl, trivial⟩) (hct _ h)
      · have h := if_f c5 h
        refine s_aload_n F dX0_numberIn_40 rfl ?_
        refine s_iload_n F dX0_numberIn_41 rfl ?_
        obtain ⟨hc6, h⟩ := ck_s h
        refine s_iald F dX0_numberIn_42 (lyA hs hb1) (ltA hs hb1) (ix_s hc6) ?_
        refine s_if_le (tgt := 85) F dX0_numberIn_43 (by decide) (fun c7 => ?_) (fun c7 => ?_)
        · have h := if_t c7 h
          refine s_inc (c := 1) F dX0_numberIn_85 rfl (by decide) (by decide) ?_
          refine s_goto (tgt := 27) F dX0_numberIn_88 (by decide) ?_
          exact G.weak (by exact ⟨rfl, ⟨rfl, ⟨rfl, trivial⟩⟩⟩) (ih _ _ h)
        · have h := if_f c7 h
          refine s_aload_n F dX0_numberIn_46 rfl ?_
          refine s_getR F dX0_numberIn_47 flX0_21 (ly15 hs) (lt15 hs) rfl (p15_3 hs) ?_
          refine s_iload_n F dX0_numberIn_50 rfl ?_
          obtain ⟨hc8, h⟩ := ck_s h
          refine s_iald F dX0_numberIn_51 (ly19 hs) (lt19 hs) (ix_s hc8) ?_
          refine s_if_ge (tgt := 85) F dX0_numberIn_52 (by decide) (fun c9 => ?_) (fun c9 => ?_)
          · have h := if_t c9 h
            refine s_inc (c := 1) F dX0_numberIn_85 rfl (by decide) (by decide) ?_
            refine s_goto (tgt := 27) F dX0_numberIn_88 (by decide) ?_
            exact G.weak (by exact ⟨rfl, ⟨rfl, ⟨rfl, trivial⟩⟩⟩) (ih _ _ h)
          · have h := if_f c9 h
            refine s_aload_n F dX0_numberIn_55 rfl ?_
            refine s_getI F dX0_numberIn_56 flX0_27 (ly15 hs) (lt15 hs) rfl ?_
            refine s_sipush (v := 128) F dX0_numberIn_59 (by decide) ?_
            refine s_icmp_ge (tgt := 85) F dX0_numberIn_62 (by decide) (fun c10 => ?_) (fun c10 => ?_)
            · have h := if_t c10 h
              refine s_inc (c := 1) F dX0_numberIn_85 rfl (by decide) (by decide) ?_
              refine s_goto (tgt := 27) F dX0_numberIn_88 (by decide) ?_
              exact G.weak (by exact ⟨rfl, ⟨rfl, ⟨rfl, trivial⟩⟩⟩) (ih _ _ h)
            · have h := if_f c10 h
              refine s_aload_n F dX0_numberIn_65 rfl ?_
              refine s_aload_n F dX0_numberIn_66 rfl ?_
              refine s_iload_n F dX0_numberIn_67 rfl ?_
              refine s_aload_n F dX0_numberIn_68 rfl ?_
              refine s_getI F dX0_numberIn_69 flX0_27 (ly15 hs) (lt15 hs) rfl ?_
              obtain ⟨v11, hv11, h⟩ := bd_i h
              refine s_cV (ci := 0) F dX0_numberIn_72 (c_X0_findHeap hs hb1 hv11) lkX0_41 okX0_findHeap (by decide) (ly15 hs) (lt15 hs) rfl rfl (Nat.le_of_ble_eq_true rfl) (by decide) ?_
              refine s_aload_n F dX0_numberIn_75 rfl ?_
              refine s_dup F dX0_numberIn_76 ?_
              refine s_getI F dX0_numberIn_77 flX0_27 (ly15 hs) (lt15 hs) rfl ?_
              refine s_iconst (v := 1) F dX0_numberIn_80 (by decide) ?_
              refine s_iadd F dX0_numberIn_81 ?_
              have h := bd_s h
              refine s_putI F dX0_numberIn_82 flX0_27 (ly15 hs) (lt15 hs) rfl rfl ⟨rfl, rfl⟩ ?_
              refine s_inc (c := 1) F dX0_numberIn_85 rfl (by decide) (by decide) ?_
              refine s_goto (tgt := 27) F dX0_numberIn_88 (by decide) ?_
              exact G.weak (by exact ⟨rfl, ⟨rfl, ⟨rfl, trivial⟩⟩⟩) (ih _ _ h)
set_option maxRecDepth 100000 in
set_option maxHeartbeats 4000000 in
theorem bX0_numberIn {X : Cx} {n : Nat} {Ly : LL} {I : II} {P : PP} {Po : PQ} {r : Int32 × II} (F : Fx X RX0 cX0_numberIn 3 3 0 0) (hs : ShC n Ly P) (hr : Fr X (some .int) Po 0 0) (post : Po (some (.inl r.1)) n Ly r.2 P) {b1 : Nat} (hb1 : AB b1) (h : fX0_numberIn I b1 = some r) : G X 3 0 0 n Ly 0 [some (.inr (some 15)), some (.inr (some b1)), none] [] I P := by
  unfold fX0_numberIn at h
  refine s_aload_n F dX0_numberIn_0 rfl ?_
  refine s_getI F dX0_numberIn_1 flX0_31 (ly15 hs) (lt15 hs) rfl ?_
  refine s_if_ne (tgt := 12) F dX0_numberIn_4 (by decide) (fun c1 => ?_) (fun c1 => ?_)
  · have h := if_t c1 h
    refine s_aload_n F dX0_numberIn_12 rfl ?_
    refine s_getR F dX0_numberIn_13 flX0_21 (ly15 hs) (lt15 hs) rfl (p15_3 hs) ?_
    refine s_iconst (v := (-1)) F dX0_numberIn_16 (by decide) ?_
    have h := bd_s h
    refine s_cS F dX0_numberIn_17 (c_fill (ly19 hs) (lt19 hs)) lkX0_35 okFill rfl (Nat.le_of_ble_eq_true rfl) (by decide) ?_
    refine s_aload_n F dX0_numberIn_20 rfl ?_
    refine s_iconst (v := 0) F dX0_numberIn_21 (by decide) ?_
    have h := bd_s h
    refine s_putI F dX0_numberIn_22 flX0_27 (ly15 hs) (lt15 hs) rfl rfl ⟨rfl, rfl⟩ ?_
    refine s_iconst (v := 0) F dX0_numberIn_25 (by decide) ?_
    refine s_istore_n F dX0_numberIn_26 (by decide) ?_
    refine G.weak (by exact ⟨rfl, ⟨rfl, ⟨rfl, trivial⟩⟩⟩) (lX0_numberIn_L27 F hs hr post hb1 (fun I13 h => ?_) 2000 _ _ h)
    refine s_aload_n F dX0_numberIn_91 rfl ?_
    refine s_iconst (v := 0) F dX0_numberIn_92 (by decide) ?_
    have h := bd_s h
    refine s_putI F dX0_numberIn_93 flX0_31 (ly15 hs) (lt15 hs) rfl rfl (by exact ⟨rfl, rfl⟩) ?_
    refine s_aload_n F dX0_numberIn_96 rfl ?_
    refine s_getI F dX0_numberIn_97 flX0_27 (ly15 hs) (lt15 hs) rfl ?_
    have h := Option.some.inj h
    subst h
    exact s_iret F hr dX0_numberIn_100 rfl (Nat.le_refl _) (Nat.le_refl _) post
  · have h := if_f (not_not_intro c1) h
    refine s_aload_n F dX0_numberIn_7 rfl ?_
    refine s_getI F dX0_numberIn_8 flX0_27 (ly15 hs) (lt15 hs) rfl ?_
    have h := Option.some.inj h
    subst h
    exact s_iret F hr dX0_numberIn_11 rfl (Nat.le_refl _) (Nat.le_refl _) post
set_option maxRecDepth 100000 in
set_option maxHeartbeats 4000000 in
theorem c_X0_numberIn {n : Nat} {Ly : LL} {I : II} {P : PP} {r : Int32 × II} (hs : ShC n Ly P) {b1 : Nat} (hb1 : AB b1) (h : fX0_numberIn I b1 = some r) (l : Launch) (s0 : Nat) (D : va_G) (DA : Nat → ClassId) : Ct l s0 D DA mX0_numberIn [.inr (some 15), .inr (some b1)] 0 0 n Ly I P (PoD (some (.inl r.1)) n Ly r.2 P) := ct_of (by decide +kernel) (Nat.le_of_ble_eq_true rfl) (fun X F hr _ => bX0_numberIn F hs hr ⟨rfl, rfl, rfl, rfl, rfl⟩ hb1 h)
-- ChipPilers$Heaps.heapWith
def fX0_heapWith (I : II) (x1 : Int32) : Option (Int32) := (if x1 < 0 then some (-1) else (if 256 ≤ x1 then some (-1) else ck (ix x1 256) (some (I 19 x1.toNatClampNeg))))
set_option maxRecDepth 100000 in
set_option maxHeartbeats 4000000 in
theorem bX0_heapWith {X : Cx} {n : Nat} {Ly : LL} {I : II} {P : PP} {Po : PQ} {r : Int32} (F : Fx X RX0 cX0_heapWith 2 1 0 0) (hs : ShC n Ly P) (hr : Fr X (some .int) Po 0 0) (post : Po (some (.inl r)) n Ly I P) {x1 : Int32} (h : fX0_heapWith I x1 = some r) : G X 2 0 0 n Ly 0 [some (.inr (some 15)), some (.inl x1)] [] I P := by
  unfold fX0_heapWith at h
  refine s_iload_n F dX0_heapWith_0 rfl ?_
  refine s_if_lt (tgt := 20) F dX0_heapWith_1 (by decide) (fun c1 => ?_) (fun c1 => ?_)
  · have h := if_t c1 h
    refine s_iconst (v := (-1)) F dX0_heapWith_20 (by decide) ?_
    have h := Option.some.inj h
    subst h
    exact s_iret F hr dX0_heapWith_21 rfl (Nat.le_refl _) (Nat.le_refl _) post
  · have h := if_f c1 h
    refine s_iload_n F dX0_heapWith_4 rfl ?_
    refine s_sipush (v := 256) F dX0_heapWith_5 (by decide) ?_
    refine s_icmp_ge (tgt := 20) F dX0_heapWith_8 (by decide) (fun c2 => ?_) (fun c2 => ?_)
    · have h := if_t c2 h
      refine s_iconst (v := (-1)) F dX0_heapWith_20 (by decide) ?_
      have h := Option.some.inj h
      subst h
      exact s_iret F hr dX0_heapWith_21 rfl (Nat.le_refl _) (Nat.le_refl _) post
    · have h := if_f c2 h
      refine s_aload_n F dX0_heapWith_11 rfl ?_
      refine s_getR F dX0_heapWith_12 flX0_21 (ly15 hs) (lt15 hs) rfl (p15_3 hs) ?_
      refine s_iload_n F dX0_heapWith_15 rfl ?_
      obtain ⟨hc3, h⟩ := ck_s h
      refine s_iald F dX0_heapWith_16 (ly19 hs) (lt19 hs) (ix_s hc3) ?_
      refine s_goto (tgt := 21) F dX0_heapWith_17 (by decide) ?_
      have h := Option.some.inj h
      subst h
      exact s_iret F hr dX0_heapWith_21 rfl (Nat.le_refl _) (Nat.le_refl _) post
set_option maxRecDepth 100000 in
set_option maxHeartbeats 4000000 in
theorem c_X0_heapWith {n : Nat} {Ly : LL} {I : II} {P : PP} {r : Int32} (hs : ShC n Ly P) {x1 : Int32} (h : fX0_heapWith I x1 = some r) (l : Launch) (s0 : Nat) (D : va_G) (DA : Nat → ClassId) : Ct l s0 D DA mX0_heapWith [.inr (some 15), .inl x1] 0 0 n Ly I P (PoD (some (.inl r)) n Ly I P) := ct_of (by decide +kernel) (Nat.le_of_ble_eq_true rfl) (fun X F hr _ => bX0_heapWith F hs hr ⟨rfl, rfl, rfl, rfl, rfl⟩ h)
-- ChipPilers$Heaps.comesAhead
def fX0_comesAhead (I : II) (x1 : Int32) (x2 : Int32) : Option (Int32) := (if x1 < 0 then some 0 else (if 128 ≤ x1 then some 0 else (if x2 < 0 then some 0 else (if x2 < 128 then ck (ix x1 128) (ck (ix x2 128) ((if (I 16 x1.toNatClampNeg) = (I 16 x2.toNatClampNeg) then ck (ix x1 128) (ck (ix x2 128) ((if (I 17 x1.toNatClampNeg) = (I 17 x2.toNatClampNeg) then (if x2 ≤ x1 then some 0 else some 1) else ck (ix x1 128) (ck (ix x2 128) ((if (I 17 x2.toNatClampNeg) ≤ (I 17 x1.toNatClampNeg) then some 0 else some 1)))))) else ck (ix x1 128) (ck (ix x2 128) ((if (I 16 x1.toNatClampNeg) ≤ (I 16 x2.toNatClampNeg) then some 0 else some 1)))))) else some 0))))
set_option maxRecDepth 100000 in
set_option maxHeartbeats 4000000 in
theorem bX0_comesAhead {X : Cx} {n : Nat} {Ly : LL} {I : II} {P : PP} {Po : PQ} {r : Int32} (F : Fx X RX0 cX0_comesAhead 3 1 0 0) (hs : ShC n Ly P) (hr : Fr X (some .boolean) Po 0 0) (post : Po (some (.inl r)) n Ly I P) {x1 : Int32} {x2 : Int32} (h : fX0_comesAhead I x1 x2 = some r) : G X 3 0 0 n Ly 0 [some (.inr (some 15)), some (.inl x1), some (.inl x2)] [] I P := by
  unfold fX0_comesAhead at h
  refine s_iload_n F dX0_comesAhead_0 rfl ?_
  refine s_if_lt (tgt := 22) F dX0_comesAhead_1 (by decide) (fun c1 => ?_) (fun c1 => ?_)
  · have h := if_t c1 h
    refine s_iconst (v := 0) F dX0_comesAhead_22 (by decide) ?_
    have h := Option.some.inj h
    subst h
    exact s_iret F hr dX0_comesAhead_23 rfl (Nat.le_refl _) (Nat.le_refl _) post
  · have h := if_f c1 h
    refine s_iload_n F dX0_comesAhead_4 rfl ?_
    refine s_sipush (v := 128) F dX0_comesAhead_5 (by decide) ?_
    refine s_icmp_ge (tgt := 22) F dX0_comesAhead_8 (by decide) (fun c2 => ?_) (fun c2 => ?_)
    · have h := if_t c2 h
      refine s_iconst (v := 0) F dX0_comesAhead_22 (by decide) ?_
      have h := Option.some.inj h
      subst h
      exact s_iret F hr dX0_comesAhead_23 rfl (Nat.le_refl _) (Nat.le_refl _) post
    · have h := if_f c2 h
      refine s_iload_n F dX0_comesAhead_11 rfl ?_
      refine s_if_lt (tgt := 22) F dX0_comesAhead_12 (by decide) (fun c3 => ?_) (fun c3 => ?_)
      · have h := if_t c3 h
        refine s_iconst (v := 0) F dX0_comesAhead_22 (by decide) ?_
        have h := Option.some.inj h
        subst h
        exact s_iret F hr dX0_comesAhead_23 rfl (Nat.le_refl _) (Nat.le_refl _) post
      · have h := if_f c3 h
        refine s_iload_n F dX0_comesAhead_15 rfl ?_
        refine s_sipush (v := 128) F dX0_comesAhead_16 (by decide) ?_
        refine s_icmp_lt (tgt := 24) F dX0_comesAhead_19 (by decide) (fun c4 => ?_) (fun c4 => ?_)
        · have h := if_t c4 h
          refine s_aload_n F dX0_comesAhead_24 rfl ?_
          refine s_getR F dX0_comesAhead_25 flX0_9 (ly15 hs) (lt15 hs) rfl (p15_0 hs) ?_
          refine s_iload_n F dX0_comesAhead_28 rfl ?_
          obtain ⟨hc5, h⟩ := ck_s h
          refine s_iald F dX0_comesAhead_29 (ly16 hs) (lt16 hs) (ix_s hc5) ?_
          refine s_aload_n F dX0_comesAhead_30 rfl ?_
          refine s_getR F dX0_comesAhead_31 flX0_9 (ly15 hs) (lt15 hs) rfl (p15_0 hs) ?_
          refine s_iload_n F dX0_comesAhead_34 rfl ?_
          obtain ⟨hc6, h⟩ := ck_s h
          refine s_iald F dX0_comesAhead_35 (ly16 hs) (lt16 hs) (ix_s hc6) ?_
          refine s_icmp_eq (tgt := 60) F dX0_comesAhead_36 (by decide) (fun c7 => ?_) (fun c7 => ?_)
          · have h := if_t c7 h
            refine s_aload_n F dX0_comesAhead_60 rfl ?_
            refine s_getR F dX0_comesAhead_61 flX0_15 (ly15 hs) (lt15 hs) rfl (p15_1 hs) ?_
            refine s_iload_n F dX0_comesAhead_64 rfl ?_
            obtain ⟨hc8, h⟩ := ck_s h
            refine s_iald F dX0_comesAhead_65 (ly17 hs) (lt17 hs) (ix_s hc8) ?_
            refine s_aload_n F dX0_comesAhead_66 rfl ?_
            refine s_getR F dX0_comesAhead_67 flX0_15 (ly15 hs) (lt15 hs) rfl (p15_1 hs) ?_
            refine s_iload_n F dX0_comesAhead_70 rfl ?_
            obtain ⟨hc9, h⟩ := ck_s h
            refine s_iald F dX0_comesAhead_71 (ly17 hs) (lt17 hs) (ix_s hc9) ?_
            refine s_icmp_eq (tgt := 96) F dX0_comesAhead_72 (by decide) (fun c10 => ?_) (fun c10 => ?_)
            · have h := if_t c10 h
              refine s_iload_n F dX0_comesAhead_96 rfl ?_
              refine s_iload_n F dX0_comesAhead_97 rfl ?_
              refine s_icmp_ge (tgt := 105) F dX0_comesAhead_98 (by decide) (fun c11 => ?_) (fun c11 => ?_)
              · have h := if_t c11 h
                refine s_iconst (v := 0) F dX0_comesAhead_105 (by decide) ?_
                have h := Option.some.inj h
                subst h
                exact s_iret F hr dX0_comesAhead_106 rfl (Nat.le_refl _) (Nat.le_refl _) post
              · have h := if_f c11 h
                refine s_iconst (v := 1) F dX0_comesAhead_101 (by decide) ?_
                refine s_goto (tgt := 106) F dX0_comesAhead_102 (by decide) ?_
                have h := Option.some.inj h
                subst h
                exact s_iret F hr dX0_comesAhead_106 rfl (Nat.le_refl _) (Nat.le_refl _) post
            · have h := if_f c10 h
              refine s_aload_n F dX0_comesAhead_75 rfl ?_
              refine s_getR F dX0_comesAhead_76 flX0_15 (ly15 hs) (lt15 hs) rfl (p15_1 hs) ?_
              refine s_iload_n F dX0_comesAhead_79 rfl ?_
              obtain ⟨hc12, h⟩ := ck_s h
              refine s_iald F dX0_comesAhead_80 (ly17 hs) (lt17 hs) (ix_s hc12) ?_
              refine s_aload_n F dX0_comesAhead_81 rfl ?_
              refine s_getR F dX0_comesAhead_82 flX0_15 (ly15 hs) (lt15 hs) rfl (p15_1 hs) ?_
              refine s_iload_n F dX0_comesAhead_85 rfl ?_
              obtain ⟨hc13, h⟩ := ck_s h
              refine s_iald F dX0_comesAhead_86 (ly17 hs) (lt17 hs) (ix_s hc13) ?_
              refine s_icmp_ge (tgt := 94) F dX0_comesAhead_87 (by decide) (fun c14 => ?_) (fun c14 => ?_)
              · have h := if_t c14 h
                refine s_iconst (v := 0) F dX0_comesAhead_94 (by decide) ?_
                have h := Option.some.inj h
                subst h
                exact s_iret F hr dX0_comesAhead_95 rfl (Nat.le_refl _) (Nat.le_refl _) post
              · have h := if_f c14 h
                refine s_iconst (v := 1) F dX0_comesAhead_90 (by decide) ?_
                refine s_goto (tgt := 95) F dX0_comesAhead_91 (by decide) ?_
                have h := Option.some.inj h
                subst h
                exact s_iret F hr dX0_comesAhead_95 rfl (Nat.le_refl _) (Nat.le_refl _) post
          · have h := if_f c7 h
            refine s_aload_n F dX0_comesAhead_39 rfl ?_
            refine s_getR F dX0_comesAhead_40 flX0_9 (ly15 hs) (lt15 hs) rfl (p15_0 hs) ?_
            refine s_iload_n F dX0_comesAhead_43 rfl ?_
            obtain ⟨hc15, h⟩ := ck_s h
            refine s_iald F dX0_comesAhead_44 (ly16 hs) (lt16 hs) (ix_s hc15) ?_
            refine s_aload_n F dX0_comesAhead_45 rfl ?_
            refine s_getR F dX0_comesAhead_46 flX0_9 (ly15 hs) (lt15 hs) rfl (p15_0 hs) ?_
            refine s_iload_n F dX0_comesAhead_49 rfl ?_
            obtain ⟨hc16, h⟩ := ck_s h
            refine s_iald F dX0_comesAhead_50 (ly16 hs) (lt16 hs) (ix_s hc16) ?_
            refine s_icmp_le (tgt := 58) F dX0_comesAhead_51 (by decide) (fun c17 => ?_) (fun c17 => ?_)
            · have h := if_t c17 h
              refine s_iconst (v := 0) F dX0_comesAhead_58 (by decide) ?_
              have h := Option.some.inj h
              subst h
              exact s_iret F hr dX0_comesAhead_59 rfl (Nat.le_refl _) (Nat.le_refl _) post
            · have h := if_f c17 h
              refine s_iconst (v := 1) F dX0_comesAhead_54 (by decide) ?_
              refine s_goto (tgt := 59) F dX0_comesAhead_55 (by decide) ?_
              have h := Option.some.inj h
              subst h
              exact s_iret F hr dX0_comesAhead_59 rfl (Nat.le_refl _) (Nat.le_refl _) post
        · have h := if_f c4 h
          refine s_iconst (v := 0) F dX0_comesAhead_22 (by decide) ?_
          have h := Option.some.inj h
          subst h
          exact s_iret F hr dX0_comesAhead_23 rfl (Nat.le_refl _) (Nat.le_refl _) post
set_option maxRecDepth 100000 in
set_option maxHeartbeats 4000000 in
theorem c_X0_comesAhead {n : Nat} {Ly : LL} {I : II} {P : PP} {r : Int32} (hs : ShC n Ly P) {x1 : Int32} {x2 : Int32} (h : fX0_comesAhead I x1 x2 = some r) (l : Launch) (s0 : Nat) (D : va_G) (DA : Nat → ClassId) : Ct l s0 D DA mX0_comesAhead [.inr (some 15), .inl x1, .inl x2] 0 0 n Ly I P (PoD (some (.inl r)) n Ly I P) := ct_of (by decide +kernel) (Nat.le_of_ble_eq_true rfl) (fun X F hr _ => bX0_comesAhead F hs hr ⟨rfl, rfl, rfl, rfl, rfl⟩ h)
-- ChipPilers$Heaps.isGreatest
def fX0_isGreatest_L2 : Nat → (Unit → Option (Int32)) → Int32 → II → Int32 → Option (Int32)
  | 0, _, _, _, _ => none
  | k + 1, ct, x1, I, x2 => (if (I 15 5) ≤ x2 then ct () else (fX0_comesAhead I x2 x1).bind fun v2 => (if v2 = 0 then fX0_isGreatest_L2 k ct x1 I (x2 + 1) else some 0))
def fX0_isGreatest (I : II) (x1 : Int32) : Option (Int32) := fX0_isGreatest_L2 2000 (fun _ => (if x1 < 0 then some 0 else some 1)) x1 I 0
set_option maxRecDepth 100000 in
set_option maxHeartbeats 4000000 in
theorem lX0_isGreatest_L2 {X : Cx} {n : Nat} {Ly : LL} {I : II} {P : PP} {Po : PQ} {r : Int32} (F : Fx X RX0 cX0_isGreatest 3 2 0 0) (hs : ShC n Ly P) (hr : Fr X (some .boolean) Po 0 0) (post : Po (some (.inl r)) n Ly I P) {x1 : Int32} {ct : Unit → Option (Int32)} (hct : ∀ (u : Unit), ct u = some r → G X 3 0 0 n Ly 27 [none, some (.inl x1), none] [] I P) : ∀ (k : Nat) (x2 : Int32), fX0_isGreatest_L2 k ct x1 I x2 = some r → G X 3 0 0 n Ly 2 [some (.inr (some 15)), some (.inl x1), some (.inl x2)] [] I P := by
  intro k
  induction k with
  | zero =>
    intro x2 h
    cases h
  | succ k ih =>
    intro x2 h
    rw [fX0_isGreatest_L2] at h
    refine s_iload_n F dX0_isGreatest_2 rfl ?_
    refine s_aload_n F dX0_isGreatest_3 rfl ?_
    refine s_getI F dX0_isGreatest_4 flX0_27 (ly15 hs) (lt15 hs) rfl ?_
    refine s_icmp_ge (tgt := 27) F dX0_isGreatest_7 (by decide) (fun c1 => ?_) (fun c1 => ?_)
    · have h := if_t c1 h
      exact G.weak (by exact ⟨rfl, trivial⟩) (hct () h)
    · have h := if_f c1 h
      refine s_aload_n F dX0_isGreatest_10 rfl ?_
      refine s_iload_n F dX0_isGreatest_11 rfl ?_
      refine s_iload_n F dX0_isGreatest_12 rfl ?_
      obtain ⟨v2, hv2, h⟩ := bd_i h
      refine s_cV (ci := 0) F dX0_isGreatest_13 (c_X0_comesAhead hs hv2) lkX0_52 okX0_comesAhead (by decide) (ly15 hs) (lt15 hs) rfl rfl (Nat.le_of_ble_eq_true rfl) (by decide) ?_
      refine s_if_eq (tgt := 21) F dX0_isGreatest_16 (by decide) (fun c3 => ?_) (fun c3 => ?_)
      · have h := if_t c3 h
        refine s_inc (c := 1) F dX0_isGreatest_21 rfl (by decide) (by decide) ?_
        refine s_goto (tgt := 2) F dX0_isGreatest_24 (by decide) ?_
        exact G.weak (by exact ⟨rfl, ⟨rfl, ⟨rfl, trivial⟩⟩⟩) (ih _ h)
      · have h := if_f c3 h
        refine s_iconst (v := 0) F dX0_isGreatest_19 (by decide) ?_
        have h := Option.some.inj h
        subst h
        exact s_iret F hr dX0_isGreatest_20 rfl (Nat.le_refl _) (Nat.le_refl _) post
set_option maxRecDepth 100000 in
set_option maxHeartbeats 4000000 in
theorem bX0_isGreatest {X : Cx} {n : Nat} {Ly : LL} {I : II} {P : PP} {Po : PQ} {r : Int32} (F : Fx X RX0 cX0_isGreatest 3 2 0 0) (hs : ShC n Ly P) (hr : Fr X (some .boolean) Po 0 0) (post : Po (some (.inl r)) n Ly I P) {x1 : Int32} (h : fX0_isGreatest I x1 = some r) : G X 3 0 0 n Ly 0 [some (.inr (some 15)), some (.inl x1), none] [] I P := by
  unfold fX0_isGreatest at h
  refine s_iconst (v := 0) F dX0_isGreatest_0 (by decide) ?_
  refine s_istore_n F dX0_isGreatest_1 (by decide) ?_
  refine G.weak (by exact ⟨rfl, ⟨rfl, ⟨rfl, trivial⟩⟩⟩) (lX0_isGreatest_L2 F hs hr post (fun _ h => ?_) 2000 _ h)
  refine s_iload_n F dX0_isGreatest_27 rfl ?_
  refine s_if_lt (tgt := 35) F dX0_isGreatest_28 (by decide) (fun c4 => ?_) (fun c4 => ?_)
  · have h := if_t c4 h
    refine s_iconst (v := 0) F dX0_isGreatest_35 (by decide) ?_
    have h := Option.some.inj h
    subst h
    exact s_iret F hr dX0_isGreatest_36 rfl (Nat.le_refl _) (Nat.le_refl _) post
  · have h := if_f c4 h
    refine s_iconst (v := 1) F dX0_isGreatest_31 (by decide) ?_
    refine s_goto (tgt := 36) F dX0_isGreatest_32 (by decide) ?_
    have h := Option.some.inj h
    subst h
    exact s_iret F hr dX0_isGreatest_36 rfl (Nat.le_refl _) (Nat.le_refl _) post
set_option maxRecDepth 100000 in
set_option maxHeartbeats 4000000 in
theorem c_X0_isGreatest {n : Nat} {Ly : LL} {I : II} {P : PP} {r : Int32} (hs : ShC n Ly P) {x1 : Int32} (h : fX0_isGreatest I x1 = some r) (l : Launch) (s0 : Nat) (D : va_G) (DA : Nat → ClassId) : Ct l s0 D DA mX0_isGreatest [.inr (some 15), .inl x1] 0 0 n Ly I P (PoD (some (.inl r)) n Ly I P) := ct_of (by decide +kernel) (Nat.le_of_ble_eq_true rfl) (fun X F hr _ => bX0_isGreatest F hs hr ⟨rfl, rfl, rfl, rfl, rfl⟩ h)
-- ChipPilers$World.pickedBySort
def fX7_pickedBySort (I : II) (b1 : Nat) : Option (Int32) := (fX7_chipsUnder I b1).bind fun v1 => (if ¬ v1 = 0 then (if ¬ (I b1 5) = 0 then (if ¬ (I b1 5) = 1 then (fX6_cell I b1).bind fun v5 => (fX0_heapWith I v5).bind fun v6 => (if ((I b1 4) - (I b1 3)) ≤ 0 then some (-(mn (mn 1 (I b1 3)) (99 - v1))) else (fX0_isGreatest I v6).bind fun v8 => (if ¬ v8 = 0 then some (-(mn (mn 1 (I b1 3)) (99 - v1))) else some 1)) else (if 2 < v1 then some (-(mn (I b1 3) (99 - v1))) else some (mn v1 ((I b1 4) - (I b1 3))))) else (if ¬ (I b1 3) = 0 then some (-(mn 1 (99 - v1))) else some 1)) else some 0)
set_option maxRecDepth 100000 in
set_option maxHeartbeats 4000000 in
theorem bX7_pickedBySort {X : Cx} {n : Nat} {Ly : LL} {I : II} {P : PP} {Po : PQ} {r : Int32} (F : Fx X RX7 cX7_pickedBySort 6 3 0 0) (hs : ShC n Ly P) (hr : Fr X (some .int) Po 0 0) (post : Po (some (.inl r)) n Ly I P) {b1 : Nat} (hb1 : WB b1) (h : fX7_pickedBySort I b1 = some r) : G X 6 0 0 n Ly 0 [some (.inr (some 1)), some (.inr (some b1)), none, none, none, none] [] I P := by
  unfold fX7_pickedBySort at h
  refine s_aload_n F dX7_pickedBySort_0 rfl ?_
  refine s_aload_n F dX7_pickedBySort_1 rfl ?_
  obtain ⟨v1, hv1, h⟩ := bd_i h
  refine s_cV (ci := 7) F dX7_pickedBySort_2 (c_X7_chipsUnder hs hb1 hv1) lkX7_80 okX7_chipsUnder (by decide) (ly1 hs) (lt1 hs) rfl rfl (Nat.le_of_ble_eq_true rfl) (by decide) ?_
  refine s_istore_n F dX7_pickedBySort_5 (by decide) ?_
  refine s_aload_n F dX7_pickedBySort_6 rfl ?_
  refine s_getI F dX7_pickedBySort_7 flX7_84 (lyW hs hb1) (ltW hs hb1) rfl ?_
  refine s_istore_n F dX7_pickedBySort_10 (by decide) ?_
  refine s_aload_n F dX7_pickedBySort_11 rfl ?_
  refine s_getI F dX7_pickedBySort_12 flX7_127 (lyW hs hb1) (ltW hs hb1) rfl ?_
  refine s_iload_n F dX7_pickedBySort_15 rfl ?_
  refine s_isub F dX7_pickedBySort_16 ?_
  refine s_istore F dX7_pickedBySort_17 (by decide) ?_
  refine s_iload_n F dX7_pickedBySort_19 rfl ?_
  refine s_if_ne (tgt := 25) F dX7_pickedBySort_20 (by decide) (fun c2 => ?_) (fun c2 => ?_)
  · have h := if_t c2 h
    refine s_aload_n F dX7_pickedBySort_25 rfl ?_
    refine s_getI F dX7_pickedBySort_26 flX7_168 (lyW hs hb1) (ltW hs hb1) rfl ?_
    refine s_if_ne (tgt := 50) F dX7_pickedBySort_29 (by decide) (fun c3 => ?_) (fun c3 => ?_)
    · have h := if_t c3 h
      refine s_aload_n F dX7_pickedBySort_50 rfl ?_
      refine s_getI F dX7_pickedBySort_51 flX7_168 (lyW hs hb1) (ltW hs hb1) rfl ?_
      refine s_iconst (v := 1) F dX7_pickedBySort_54 (by decide) ?_
      refine s_icmp_ne (tgt := 82) F dX7_pickedBySort_55 (by decide) (fun c4 => ?_) (fun c4 => ?_)
      · have h := if_t c4 h
        refine s_aload_n F dX7_pickedBySort_82 rfl ?_
        refine s_getR F dX7_pickedBySort_83 flX7_21 (ly1 hs) (lt1 hs) rfl (p1_1 hs) ?_
        refine s_aload_n F dX7_pickedBySort_86 rfl ?_
        obtain ⟨v5, hv5, h⟩ := bd_i h
        refine s_cV (ci := 6) F dX7_pickedBySort_87 (c_X6_cell hs hb1 hv5) lkX7_62 okX6_cell (by decide) (lyW hs hb1) (ltW hs hb1) rfl rfl (Nat.le_of_ble_eq_true rfl) (by decide) ?_
        obtain ⟨v6, hv6, h⟩ := bd_i h
        refine s_cV (ci := 0) F dX7_pickedBySort_90 (c_X0_heapWith hs hv6) lkX7_171 okX0_heapWith (by decide) (ly15 hs) (lt15 hs) rfl rfl (Nat.le_of_ble_eq_true rfl) (by decide) ?_
        refine s_istore F dX7_pickedBySort_93 (by decide) ?_
        refine s_iload F dX7_pickedBySort_95 rfl ?_
        refine s_if_le (tgt := 114) F dX7_pickedBySort_97 (by decide) (fun c7 => ?_) (fun c7 => ?_)
        · have h := if_t c7 h
          refine s_iconst (v := 1) F dX7_pickedBySort_114 (by decide) ?_
          refine s_iload_n F dX7_pickedBySort_115 rfl ?_
          refine s_mn F dX7_pickedBySort_116 lkX7_130 (by decide) (Nat.le_of_ble_eq_true rfl) ?_
          refine s_bipush (v := 99) F dX7_pickedBySort_119 (by decide) ?_
          refine s_iload_n F dX7_pickedBySort_121 rfl ?_
          refine s_isub F dX7_pickedBySort_122 ?_
          refine s_mn F dX7_pickedBySort_123 lkX7_130 (by decide) (Nat.le_of_ble_eq_true rfl) ?_
          refine s_ineg F dX7_pickedBySort_126 ?_
          have h := Option.some.inj h
          subst h
          exact s_iret F hr dX7_pickedBySort_127 rfl (Nat.le_refl _) (Nat.le_refl _) post
        · have h := if_f c7 h
          refine s_aload_n F dX7_pickedBySort_100 rfl ?_
          refine s_getR F dX7_pickedBySort_101 flX7_21 (ly1 hs) (lt1 hs) rfl (p1_1 hs) ?_
          refine s_iload F dX7_pickedBySort_104 rfl ?_
          obtain ⟨v8, hv8, h⟩ := bd_i h
          refine s_cV (ci := 0) F dX7_pickedBySort_106 (c_X0_isGreatest hs hv8) lkX7_174 okX0_isGreatest (by decide) (ly15 hs) (lt15 hs) rfl rfl (Nat.le_of_ble_eq_true rfl) (by decide) ?_
          refine s_if_ne (tgt := 114) F dX7_pickedBySort_109 (by decide) (fun c9 => ?_) (fun c9 => ?_)
          · have h := if_t c9 h
            refine s_iconst (v := 1) F dX7_pickedBySort_114 (by decide) ?_
            refine s_iload_n F dX7_pickedBySort_115 rfl ?_
            refine s_mn F dX7_pickedBySort_116 lkX7_130 (by decide) (Nat.le_of_ble_eq_true rfl) ?_
            refine s_bipush (v := 99) F dX7_pickedBySort_119 (by decide) ?_
            refine s_iload_n F dX7_pickedBySort_121 rfl ?_
            refine s_isub F dX7_pickedBySort_122 ?_
            refine s_mn F dX7_pickedBySort_123 lkX7_130 (by decide) (Nat.le_of_ble_eq_true rfl) ?_
            refine s_ineg F dX7_pickedBySort_126 ?_
            have h := Option.some.inj h
            subst h
            exact s_iret F hr dX7_pickedBySort_127 rfl (Nat.le_refl _) (Nat.le_refl _) post
          · have h := if_f (not_not_intro c9) h
            refine s_iconst (v := 1) F dX7_pickedBySort_112 (by decide) ?_
            have h := Option.some.inj h
            subst h
            exact s_iret F hr dX7_pickedBySort_113 rfl (Nat.le_refl _) (Nat.le_refl _) post
      · have h := if_f (not_not_intro c4) h
        refine s_iload_n F dX7_pickedBySort_58 rfl ?_
        refine s_iconst (v := 2) F dX7_pickedBySort_59 (by decide) ?_
        refine s_icmp_gt (tgt := 72) F dX7_pickedBySort_60 (by decide) (fun c10 => ?_) (fun c10 => ?_)
        · have h := if_t c10 h
          refine s_iload_n F dX7_pickedBySort_72 rfl ?_
          refine s_bipush (v := 99) F dX7_pickedBySort_73 (by decide) ?_
          refine s_iload_n F dX7_pickedBySort_75 rfl ?_
          refine s_isub F dX7_pickedBySort_76 ?_
          refine s_mn F dX7_pickedBySort_77 lkX7_130 (by decide) (Nat.le_of_ble_eq_true rfl) ?_
          refine s_ineg F dX7_pickedBySort_80 ?_
          have h := Option.some.inj h
          subst h
          exact s_iret F hr dX7_pickedBySort_81 rfl (Nat.le_refl _) (Nat.le_refl _) post
        · have h := if_f c10 h
          refine s_iload_n F dX7_pickedBySort_63 rfl ?_
          refine s_iload F dX7_pickedBySort_64 rfl ?_
          refine s_mn F dX7_pickedBySort_66 lkX7_130 (by decide) (Nat.le_of_ble_eq_true rfl) ?_
          refine s_goto (tgt := 81) F dX7_pickedBySort_69 (by decide) ?_
          have h := Option.some.inj h
          subst h
          exact s_iret F hr dX7_pickedBySort_81 rfl (Nat.le_refl _) (Nat.le_refl _) post
    · have h := if_f (not_not_intro c3) h
      refine s_iload_n F dX7_pickedBySort_32 rfl ?_
      refine s_if_ne (tgt := 40) F dX7_pickedBySort_33 (by decide) (fun c11 => ?_) (fun c11 => ?_)
      · have h := if_t c11 h
        refine s_iconst (v := 1) F dX7_pickedBySort_40 (by decide) ?_
        refine s_bipush (v := 99) F dX7_pickedBySort_41 (by decide) ?_
        refine s_iload_n F dX7_pickedBySort_43 rfl ?_
        refine s_isub F dX7_pickedBySort_44 ?_
        refine s_mn F dX7_pickedBySort_45 lkX7_130 (by decide) (Nat.le_of_ble_eq_true rfl) ?_
        refine s_ineg F dX7_pickedBySort_48 ?_
        have h := Option.some.inj h
        subst h
        exact s_iret F hr dX7_pickedBySort_49 rfl (Nat.le_refl _) (Nat.le_refl _) post
      · have h := if_f (not_not_intro c11) h
        refine s_iconst (v := 1) F dX7_pickedBySort_36 (by decide) ?_
        refine s_goto (tgt := 49) F dX7_pickedBySort_37 (by decide) ?_
        have h := Option.some.inj h
        subst h
        exact s_iret F hr dX7_pickedBySort_49 rfl (Nat.le_refl _) (Nat.le_refl _) post
  · have h := if_f (not_not_intro c2) h
    refine s_iconst (v := 0) F dX7_pickedBySort_23 (by decide) ?_
    have h := Option.some.inj h
    subst h
    exact s_iret F hr dX7_pickedBySort_24 rfl (Nat.le_refl _) (Nat.le_refl _) post
set_option maxRecDepth 100000 in
set_option maxHeartbeats 4000000 in
theorem c_X7_pickedBySort {n : Nat} {Ly : LL} {I : II} {P : PP} {r : Int32} (hs : ShC n Ly P) {b1 : Nat} (hb1 : WB b1) (h : fX7_pickedBySort I b1 = some r) (l : Launch) (s0 : Nat) (D : va_G) (DA : Nat → ClassId) : Ct l s0 D DA mX7_pickedBySort [.inr (some 1), .inr (some b1)] 0 0 n Ly I P (PoD (some (.inl r)) n Ly I P) := ct_of (by decide +kernel) (Nat.le_of_ble_eq_true rfl) (fun X F hr _ => bX7_pickedBySort F hs hr ⟨rfl, rfl, rfl, rfl, rfl⟩ hb1 h)
-- ChipPilers$World.stepAhead
def fX7_stepAhead (I : II) (b1 : Nat) (x2 : Int32) : Option (II) := (some (up2 I b1 2 x2)).bind fun I1 => (fX7_rowAhead I1 b1 x2).bind fun v2 => (some (up2 I1 b1 0 v2)).bind fun I3 => (fX7_columnAhead I3 b1 x2).bind fun v4 => (some (up2 I3 b1 1 v4)).bind fun I5 => (some (up2 I5 b1 6 ((I5 b1 6) + 1))).bind fun I6 => (fX0_numberIn I6 3).bind fun v7 => (fX7_pickedBySort v7.2 b1).bind fun v8 => (fX7_pickUp v7.2 b1 v8).bind fun v9 => (fX0_numberIn v9 3).bind fun v10 => (some (up2 v10.2 2 7 ((v10.2 2 7) + (mx (v10.1 - v7.1) 0)))).bind fun I11 => (some (up2 I11 2 6 ((I11 2 6) + (mx (-(v10.1 - v7.1)) 0)))).bind fun I12 => some I12
set_option maxRecDepth 100000 in
set_option maxHeartbeats 4000000 in
theorem bX7_stepAhead {X : Cx} {n : Nat} {Ly : LL} {I : II} {P : PP} {Po : PQ} {r : II} (F : Fx X RX7 cX7_stepAhead 5 4 0 0) (hs : ShC n Ly P) (hr : Fr X none Po 0 0) (post : Po none n Ly r P) {b1 : Nat} (hb1 : WB b1) {x2 : Int32} (h : fX7_stepAhead I b1 x2 = some r) : G X 5 0 0 n Ly 0 [some (.inr (some 1)), some (.inr (some b1)), some (.inl x2), none, none] [] I P := by
  unfold fX7_stepAhead at h
  refine s_aload_n F dX7_stepAhead_0 rfl ?_
  refine s_iload_n F dX7_stepAhead_1 rfl ?_
  have h := bd_s h
  refine s_putI F dX7_stepAhead_2 flX7_101 (lyW hs hb1) (ltW hs hb1) rfl rfl ⟨rfl, rfl⟩ ?_
  refine s_aload_n F dX7_stepAhead_5 rfl ?_
  refine s_aload_n F dX7_stepAhead_6 rfl ?_
  refine s_iload_n F dX7_stepAhead_7 rfl ?_
  obtain ⟨v2, hv2, h⟩ := bd_i h
  refine s_cS F dX7_stepAhead_8 (c_X7_rowAhead hs hb1 hv2) lkX7_142 okX7_rowAhead rfl (Nat.le_of_ble_eq_true rfl) (by decide) ?_
  have h := bd_s h
  refine s_putI F dX7_stepAhead_11 flX7_146 (lyW hs hb1) (ltW hs hb1) rfl rfl ⟨rfl, rfl⟩ ?_
  refine s_aload_n F dX7_stepAhead_14 rfl ?_
  refine s_aload_n F dX7_stepAhead_15 rfl ?_
  refine s_iload_n F dX7_stepAhead_16 rfl ?_
  obtain ⟨v4, hv4, h⟩ := bd_i h
  refine s_cS F dX7_stepAhead_17 (c_X7_columnAhead hs hb1 hv4) lkX7_149 okX7_columnAhead rfl (Nat.le_of_ble_eq_true rfl) (by decide) ?_
  have h := bd_s h
  refine s_putI F dX7_stepAhead_20 flX7_152 (lyW hs hb1) (ltW hs hb1) rfl rfl ⟨rfl, rfl⟩ ?_
  refine s_aload_n F dX7_stepAhead_23 rfl ?_
  refine s_dup F dX7_stepAhead_24 ?_
  refine s_getI F dX7_stepAhead_25 flX7_155 (lyW hs hb1) (ltW hs hb1) rfl ?_
  refine s_iconst (v := 1) F dX7_stepAhead_28 (by decide) ?_
  refine s_iadd F dX7_stepAhead_29 ?_
  have h := bd_s h
  refine s_putI F dX7_stepAhead_30 flX7_155 (lyW hs hb1) (ltW hs hb1) rfl rfl ⟨rfl, rfl⟩ ?_
  refine s_aload_n F dX7_stepAhead_33 rfl ?_
  refine s_getR F dX7_stepAhead_34 flX7_21 (ly1 hs) (lt1 hs) rfl (p1_1 hs) ?_
  refine s_aload_n F dX7_stepAhead_37 rfl ?_
  refine s_getR F dX7_stepAhead_38 flX7_12 (ly1 hs) (lt1 hs) rfl (p1_0 hs) ?_
  refine s_getR F dX7_stepAhead_41 flX7_39 (lyS hs sb2) (ltSb hs sb2) rfl (pS2 hs sb2) ?_
  obtain ⟨v7, hv7, h⟩ := bd_i h
  refine s_cV (ci := 0) F dX7_stepAhead_44 (c_X0_numberIn hs ⟨_, sb2, rfl⟩ hv7) lkX7_158 okX0_numberIn (by decide) (ly15 hs) (lt15 hs) rfl rfl (Nat.le_of_ble_eq_true rfl) (by decide) ?_
  refine s_istore_n F dX7_stepAhead_47 (by decide) ?_
  refine s_aload_n F dX7_stepAhead_48 rfl ?_
  refine s_aload_n F dX7_stepAhead_49 rfl ?_
  refine s_aload_n F dX7_stepAhead_50 rfl ?_
  refine s_aload_n F dX7_stepAhead_51 rfl ?_
  obtain ⟨v8, hv8, h⟩ := bd_i h
  refine s_cV (ci := 7) F dX7_stepAhead_52 (c_X7_pickedBySort hs hb1 hv8) lkX7_162 okX7_pickedBySort (by decide) (ly1 hs) (lt1 hs) rfl rfl (Nat.le_of_ble_eq_true rfl) (by decide) ?_
  obtain ⟨v9, hv9, h⟩ := bd_i h
  refine s_cV (ci := 7) F dX7_stepAhead_55 (c_X7_pickUp hs hb1 hv9) lkX7_135 okX7_pickUp (by decide) (ly1 hs) (lt1 hs) rfl rfl (Nat.le_of_ble_eq_true rfl) (by decide) ?_
  refine s_aload_n F dX7_stepAhead_58 rfl ?_
  refine s_getR F dX7_stepAhead_59 flX7_21 (ly1 hs) (lt1 hs) rfl (p1_1 hs) ?_
  refine s_aload_n F dX7_stepAhead_62 rfl ?_
  refine s_getR F dX7_stepAhead_63 flX7_12 (ly1 hs) (lt1 hs) rfl (p1_0 hs) ?_
  refine s_getR F dX7_stepAhead_66 flX7_39 (lyS hs sb2) (ltSb hs sb2) rfl (pS2 hs sb2) ?_
  obtain ⟨v10, hv10, h⟩ := bd_i h
  refine s_cV (ci := 0) F dX7_stepAhead_69 (c_X0_numberIn hs ⟨_, sb2, rfl⟩ hv10) lkX7_158 okX0_numberIn (by decide) (ly15 hs) (lt15 hs) rfl rfl (Nat.le_of_ble_eq_true rfl) (by decide) ?_
  refine s_iload_n F dX7_stepAhead_72 rfl ?_
  refine s_isub F dX7_stepAhead_73 ?_
  refine s_istore F dX7_stepAhead_74 (by decide) ?_
  refine s_aload_n F dX7_stepAhead_76 rfl ?_
  refine s_getR F dX7_stepAhead_77 flX7_12 (ly1 hs) (lt1 hs) rfl (p1_0 hs) ?_
  refine s_dup F dX7_stepAhead_80 ?_
  refine s_getI F dX7_stepAhead_81 flX7_55 (lyS hs sb2) (ltSb hs sb2) rfl ?_
  refine s_iload F dX7_stepAhead_84 rfl ?_
  refine s_iconst (v := 0) F dX7_stepAhead_86 (by decide) ?_
  refine s_mx F dX7_stepAhead_87 lkX7_165 (by decide) (Nat.le_of_ble_eq_true rfl) ?_
  refine s_iadd F dX7_stepAhead_90 ?_
  have h := bd_s h
  refine s_putI F dX7_stepAhead_91 flX7_55 (lyS hs sb2) (ltSb hs sb2) rfl rfl ⟨rfl, rfl⟩ ?_
  refine s_aload_n F dX7_stepAhead_94 rfl ?_
  refine s_getR F dX7_stepAhead_95 flX7_12 (ly1 hs) (lt1 hs) rfl (p1_0 hs) ?_
  refine s_dup F dX7_stepAhead_98 ?_
  refine s_getI F dX7_stepAhead_99 flX7_52 (lyS hs sb2) (ltSb hs sb2) rfl ?_
  refine s_iload F dX7_stepAhead_102 rfl ?_
  refine s_ineg F dX7_stepAhead_104 ?_
  refine s_iconst (v := 0) F dX7_stepAhead_105 (by decide) ?_
  refine s_mx F dX7_stepAhead_106 lkX7_165 (by decide) (Nat.le_of_ble_eq_true rfl) ?_
  refine s_iadd F dX7_stepAhead_109 ?_
  have h := bd_s h
  refine s_putI F dX7_stepAhead_110 flX7_52 (lyS hs sb2) (ltSb hs sb2) rfl rfl ⟨rfl, rfl⟩ ?_
  have h := Option.some.inj h
  subst h
  exact s_vret F hr dX7_stepAhead_113 (Nat.le_refl _) (Nat.le_refl _) post
set_option maxRecDepth 100000 in
set_option maxHeartbeats 4000000 in
theorem c_X7_stepAhead {n : Nat} {Ly : LL} {I : II} {P : PP} {r : II} (hs : ShC n Ly P) {b1 : Nat} (hb1 : WB b1) {x2 : Int32} (h : fX7_stepAhead I b1 x2 = some r) (l : Launch) (s0 : Nat) (D : va_G) (DA : Nat → ClassId) : Ct l s0 D DA mX7_stepAhead [.inr (some 1), .inr (some b1), .inl x2] 0 0 n Ly I P (PoD none n Ly r P) := ct_of (by decide +kernel) (Nat.le_of_ble_eq_true rfl) (fun X F hr _ => bX7_stepAhead F hs hr ⟨rfl, rfl, rfl, rfl, rfl⟩ hb1 h)
-- ChipPilers$World.makeStep
def fX7_makeStep_L20 : Nat → (Int32 → Option (II)) → Nat → II → Int32 → Int32 → Option (II)
  | 0, _, _, _, _, _ => none
  | k + 1, ct, b1, I, x2, x3 => (if 3 ≤ x3 then ct x2 else (fX7_hasWall I b1 x2).bind fun v4 => (if v4 = 0 then ct x2 else (fX7_toTheRight x2 1).bind fun v6 => fX7_makeStep_L20 k ct b1 I v6 (x3 + 1)))
def fX7_makeStep (I : II) (b1 : Nat) : Option (II) := (fX5_takeNext I 5).bind fun v1 => (fX7_turned (I b1 2) v1.1).bind fun v2 => fX7_makeStep_L20 2000 (fun z7 => (fX7_stepAhead v1.2 b1 z7).bind fun v8 => some v8) b1 v1.2 v2 0
set_option maxRecDepth 100000 in
set_option maxHeartbeats 4000000 in
theorem lX7_makeStep_L20 {X : Cx} {n : Nat} {Ly : LL} {I : II} {P : PP} {Po : PQ} {r : II} (F : Fx X RX7 cX7_makeStep 4 5 0 0) (hs : ShC n Ly P) (hr : Fr X none Po 0 0) (post : Po none n Ly r P) {b1 : Nat} (hb1 : WB b1) {ct : Int32 → Option (II)} (hct : ∀ (x2 : Int32), ct x2 = some r → G X 4 0 0 n Ly 46 [some (.inr (some 1)), some (.inr (some b1)), some (.inl x2), none] [] I P) : ∀ (k : Nat) (x2 : Int32) (x3 : Int32), fX7_makeStep_L20 k ct b1 I x2 x3 = some r → G X 4 0 0 n Ly 20 [some (.inr (some 1)), some (.inr (some b1)), some (.inl x2), some (.inl x3)] [] I P := by
  intro k
  induction k with
  | zero =>
    intro x2 x3 h
    cases h
  | succ k ih =>
    intro x2 x3 h
    rw [fX7_makeStep_L20] at h
    refine s_iload_n F dX7_makeStep_20 rfl ?_
    refine s_iconst (v := 3) F dX7_makeStep_21 (by decide) ?_
    refine s_icmp_ge (tgt := 46) F dX7_makeStep_22 (by decide) (fun c3 => ?_) (fun c3 => ?_)
    · have h := if_t c3 h
      exact G.weak (by exact ⟨rfl, ⟨rfl, ⟨rfl, trivial⟩⟩⟩) (hct _ h)
    · have h := if_f c3 h
      refine s_aload_n F dX7_makeStep_25 rfl ?_
      refine s_aload_n F dX7_makeStep_26 rfl ?_
      refine s_iload_n F dX7_makeStep_27 rfl ?_
      obtain ⟨v4, hv4, h⟩ := bd_i h
      refine s_cV (ci := 7) F dX7_makeStep_28 (c_X7_hasWall hs hb1 hv4) lkX7_116 okX7_hasWall (by decide) (ly1 hs) (lt1 hs) rfl rfl (Nat.le_of_ble_eq_true rfl) (by decide) ?_
      refine s_if_eq (tgt := 46) F dX7_makeStep_31 (by decide) (fun c5 => ?_) (fun c5 => ?_)
      · have h := if_t c5 h
        exact G.weak (by exact ⟨rfl, ⟨rfl, ⟨rfl, trivial⟩⟩⟩) (hct _ h)
      · have h := if_f c5 h
        refine s_iload_n F dX7_makeStep_34 rfl ?_
        refine s_iconst (v := 1) F dX7_makeStep_35 (by decide) ?_
        obtain ⟨v6, hv6, h⟩ := bd_i h
        refine s_cS F dX7_makeStep_36 (c_X7_toTheRight hs hv6) lkX7_120 okX7_toTheRight rfl (Nat.le_of_ble_eq_true rfl) (by decide) ?_
        refine s_istore_n F dX7_makeStep_39 (by decide) ?_
        refine s_inc (c := 1) F dX7_makeStep_40 rfl (by decide) (by decide) ?_
        refine s_goto (tgt := 20) F dX7_makeStep_43 (by decide) ?_
        exact G.weak (by exact ⟨rfl, ⟨rfl, ⟨rfl, ⟨rfl, trivial⟩⟩⟩⟩) (ih _ _ h)
set_option maxRecDepth 100000 in
set_option maxHeartbeats 4000000 in
theorem bX7_makeStep {X : Cx} {n : Nat} {Ly : LL} {I : II} {P : PP} {Po : PQ} {r : II} (F : Fx X RX7 cX7_makeStep 4 5 0 0) (hs : ShC n Ly P) (hr : Fr X none Po 0 0) (post : Po none n Ly r P) {b1 : Nat} (hb1 : WB b1) (h : fX7_makeStep I b1 = some r) : G X 4 0 0 n Ly 0 [some (.inr (some 1)), some (.inr (some b1)), none, none] [] I P := by
  unfold fX7_makeStep at h
  refine s_aload_n F dX7_makeStep_0 rfl ?_
  refine s_getI F dX7_makeStep_1 flX7_101 (lyW hs hb1) (ltW hs hb1) rfl ?_
  refine s_aload_n F dX7_makeStep_4 rfl ?_
  refine s_getR F dX7_makeStep_5 flX7_12 (ly1 hs) (lt1 hs) rfl (p1_0 hs) ?_
  refine s_getR F dX7_makeStep_8 flX7_104 (lyS hs sb2) (ltSb hs sb2) rfl (pS5 hs sb2) ?_
  obtain ⟨v1, hv1, h⟩ := bd_i h
  refine s_cV (ci := 5) F dX7_makeStep_11 (c_X5_takeNext hs ⟨_, sb2, rfl⟩ hv1) lkX7_108 okX5_takeNext (by decide) (lyT hs ⟨_, sb2, rfl⟩) (ltT hs ⟨_, sb2, rfl⟩) rfl rfl (Nat.le_of_ble_eq_true rfl) (by decide) ?_
  obtain ⟨v2, hv2, h⟩ := bd_i h
  refine s_cS F dX7_makeStep_14 (c_X7_turned hs hv2) lkX7_113 okX7_turned rfl (Nat.le_of_ble_eq_true rfl) (by decide) ?_
  refine s_istore_n F dX7_makeStep_17 (by decide) ?_
  refine s_iconst (v := 0) F dX7_makeStep_18 (by decide) ?_
  refine s_istore_n F dX7_makeStep_19 (by decide) ?_
  refine G.weak (by exact ⟨rfl, ⟨rfl, ⟨rfl, ⟨rfl, trivial⟩⟩⟩⟩) (lX7_makeStep_L20 F hs hr post hb1 (fun z7 h => ?_) 2000 _ _ h)
  refine s_aload_n F dX7_makeStep_46 rfl ?_
  refine s_aload_n F dX7_makeStep_47 rfl ?_
  refine s_iload_n F dX7_makeStep_48 rfl ?_
  obtain ⟨v8, hv8, h⟩ := bd_i h
  refine s_cV (ci := 7) F dX7_makeStep_49 (c_X7_stepAhead hs hb1 hv8) lkX7_123 okX7_stepAhead (by decide) (ly1 hs) (lt1 hs) rfl rfl (Nat.le_of_ble_eq_true rfl) (by decide) ?_
  have h := Option.some.inj h
  subst h
  exact s_vret F hr dX7_makeStep_52 (Nat.le_refl _) (Nat.le_refl _) post
set_option maxRecDepth 100000 in
set_option maxHeartbeats 4000000 in
theorem c_X7_makeStep {n : Nat} {Ly : LL} {I : II} {P : PP} {r : II} (hs : ShC n Ly P) {b1 : Nat} (hb1 : WB b1) (h : fX7_makeStep I b1 = some r) (l : Launch) (s0 : Nat) (D : va_G) (DA : Nat → ClassId) : Ct l s0 D DA mX7_makeStep [.inr (some 1), .inr (some b1)] 0 0 n Ly I P (PoD none n Ly r P) := ct_of (by decide +kernel) (Nat.le_of_ble_eq_true rfl) (fun X F hr _ => bX7_makeStep F hs hr ⟨rfl, rfl, rfl, rfl, rfl⟩ hb1 h)
-- ChipPilers$World.makeRounds
def fX7_makeRounds_L9 : Nat → (II → Option (II)) → Int32 → Int32 → Int32 → II → Option (II)
  | 0, _, _, _, _, _ => none
  | k + 1, ct, x1, x2, x3, I => (if (I 2 4) ≤ x3 then ct I else (fX4_walkerAt I 2 x3).bind fun v3 => (match v3 with | none => fX7_makeRounds_L9 k ct x1 x2 (x3 + 1) I | some a4 => (fX7_makeStep I a4).bind fun v5 => fX7_makeRounds_L9 k ct x1 x2 (x3 + 1) v5))
def fX7_makeRounds_L2 : Nat → (II → Option (II)) → Int32 → Int32 → II → Option (II)
  | 0, _, _, _, _ => none
  | k + 1, ct, x1, x2, I => (if x1 ≤ x2 then ct I else fX7_makeRounds_L9 2000 (fun I6 => fX7_makeRounds_L2 k ct x1 (x2 + 1) I6) x1 x2 0 I)
def fX7_makeRounds (I : II) (x1 : Int32) : Option (II) := fX7_makeRounds_L2 2000 (fun I7 => some I7) x1 0 I
set_option maxRecDepth 100000 in
set_option maxHeartbeats 4000000 in
theorem lX7_makeRounds_L9 {X : Cx} {n : Nat} {Ly : LL} {P : PP} {Po : PQ} {r : II} (F : Fx X RX7 cX7_makeRounds 5 6 0 0) (hs : ShC n Ly P) (hr : Fr X none Po 0 0) (post : Po none n Ly r P) {x1 : Int32} {x2 : Int32} {ct : II → Option (II)} (hct : ∀  (I : II), ct  I = some r → G X 5 0 0 n Ly 47 [some (.inr (some 1)), some (.inl x1), some (.inl x2), none, none] [] I P) : ∀ (k : Nat) (x3 : Int32) (I : II), fX7_makeRounds_L9 k ct x1 x2 x3 I = some r → G X 5 0 0 n Ly 9 [some (.inr (some 1)), some (.inl x1), some (.inl x2), some (.inl x3), none] [] I P := by
  intro k
  induction k with
  | zero =>
    intro x3 I h
    cases h
  | succ k ih =>
    intro x3 I h
    rw [fX7_makeRounds_L9] at h
    refine s_iload_n F dX7_makeRounds_9 rfl ?_
    refine s_aload_n F dX7_makeRounds_10 rfl ?_
    refine s_getR F dX7_makeRounds_11 flX7_12 (ly1 hs) (lt1 hs) rfl (p1_0 hs) ?_
    refine s_getI F dX7_makeRounds_14 flX7_49 (lyS hs sb2) (ltSb hs sb2) rfl ?_
    refine s_icmp_ge (tgt := 47) F dX7_makeRounds_17 (by decide) (fun c2 => ?_) (fun c2 => ?_)
    · have h := if_t c2 h
      exact G.weak (by exact ⟨rfl, ⟨rfl, ⟨rfl, trivial⟩⟩⟩) (hct _ h)
    · have h := if_f c2 h
      refine s_aload_n F dX7_makeRounds_20 rfl ?_
      refine s_getR F dX7_makeRounds_21 flX7_12 (ly1 hs) (lt1 hs) rfl (p1_0 hs) ?_
      refine s_iload_n F dX7_makeRounds_24 rfl ?_
      obtain ⟨v3, hv3, h⟩ := bd_i h
      refine s_cV (ci := 4) F dX7_makeRounds_25 (c_X4_walkerAt hs sb2 hv3) lkX7_93 okX4_walkerAt (by decide) (lyS hs sb2) (ltSb hs sb2) rfl rfl (Nat.le_of_ble_eq_true rfl) (by decide) ?_
      refine s_astore F dX7_makeRounds_28 (by decide) ?_
      refine s_aload F dX7_makeRounds_30 rfl ?_
      cases v3 with
      | none =>
        dsimp only at h
        refine s_ifnullN (tgt := 41) F dX7_makeRounds_32 (by decide) ?_
        refine s_inc (c := 1) F dX7_makeRounds_41 rfl (by decide) (by decide) ?_
        refine s_goto (tgt := 9) F dX7_makeRounds_44 (by decide) ?_
        exact G.weak (by exact ⟨rfl, ⟨rfl, ⟨rfl, ⟨rfl, trivial⟩⟩⟩⟩) (ih _ _ h)
      | some a4 =>
        dsimp only at h
        refine s_ifnull F dX7_makeRounds_32 ?_
        refine s_aload_n F dX7_makeRounds_35 rfl ?_
        refine s_aload F dX7_makeRounds_36 rfl ?_
        obtain ⟨v5, hv5, h⟩ := bd_i h
        refine s_cV (ci := 7) F dX7_makeRounds_38 (c_X7_makeStep hs ((kdX4_walkerAt hs sb2 hv3) _ rfl) hv5) lkX7_97 okX7_makeStep (by decide) (ly1 hs) (lt1 hs) rfl rfl (Nat.le_of_ble_eq_true rfl) (by decide) ?_
        refine s_inc (c := 1) F dX7_makeRounds_41 rfl (by decide) (by decide) ?_
        refine s_goto (tgt := 9) F dX7_makeRounds_44 (by decide) ?_
        exact G.weak (by exact ⟨rfl, ⟨rfl, ⟨rfl, ⟨rfl, trivial⟩⟩⟩⟩) (ih _ _ h)
set_option maxRecDepth 100000 in
set_option maxHeartbeats 4000000 in
theorem lX7_makeRounds_L2 {X : Cx} {n : Nat} {Ly : LL} {P : PP} {Po : PQ} {r : II} (F : Fx X RX7 cX7_makeRounds 5 6 0 0) (hs : ShC n Ly P) (hr : Fr X none Po 0 0) (post : Po none n Ly r P) {x1 : Int32} {ct : II → Option (II)} (hct : ∀  (I : II), ct  I = some r → G X 5 0 0 n Ly 53 [none, none, none, none, none] [] I P) : ∀ (k : Nat) (x2 : Int32) (I : II), fX7_makeRounds_L2 k ct x1 x2 I = some r → G X 5 0 0 n Ly 2 [some (.inr (some 1)), some (.inl x1), some (.inl x2), none, none] [] I P := by
  intro k
  induction k with
  | zero =>
    intro x2 I h
    cases h
  | succ k ih =>
    intro x2 I h
    rw [fX7_makeRounds_L2] at h
    refine s_iload_n F dX7_makeRounds_2 rfl ?_
    refine s_iload_n F dX7_makeRounds_3 rfl ?_
    refine s_icmp_ge (tgt := 53) F dX7_makeRounds_4 (by decide) (fun c1 => ?_) (fun c1 => ?_)
    · have h := if_t c1 h
      exact G.weak (by exact trivial) (hct _ h)
    · have h := if_f c1 h
      refine s_iconst (v := 0) F dX7_makeRounds_7 (by decide) ?_
      refine s_istore_n F dX7_makeRounds_8 (by decide) ?_
      refine G.weak (by exact ⟨rfl, ⟨rfl, ⟨rfl, ⟨rfl, trivial⟩⟩⟩⟩) (lX7_makeRounds_L9 F hs hr post (fun I6 h => ?_) 2000 _ _ h)
      refine s_inc (c := 1) F dX7_makeRounds_47 rfl (by decide) (by decide) ?_
      refine s_goto (tgt := 2) F dX7_makeRounds_50 (by decide) ?_
      exact G.weak (by exact ⟨rfl, ⟨rfl, ⟨rfl, trivial⟩⟩⟩) (ih _ _ h)
set_option maxRecDepth 100000 in
set_option maxHeartbeats 4000000 in
theorem bX7_makeRounds {X : Cx} {n : Nat} {Ly : LL} {I : II} {P : PP} {Po : PQ} {r : II} (F : Fx X RX7 cX7_makeRounds 5 6 0 0) (hs : ShC n Ly P) (hr : Fr X none Po 0 0) (post : Po none n Ly r P) {x1 : Int32} (h : fX7_makeRounds I x1 = some r) : G X 5 0 0 n Ly 0 [some (.inr (some 1)), some (.inl x1), none, none, none] [] I P := by
  unfold fX7_makeRounds at h
  refine s_iconst (v := 0) F dX7_makeRounds_0 (by decide) ?_
  refine s_istore_n F dX7_makeRounds_1 (by decide) ?_
  refine G.weak (by exact ⟨rfl, ⟨rfl, ⟨rfl, trivial⟩⟩⟩) (lX7_makeRounds_L2 F hs hr post (fun I7 h => ?_) 2000 _ _ h)
  have h := Option.some.inj h
  subst h
  exact s_vret F hr dX7_makeRounds_53 (Nat.le_refl _) (Nat.le_refl _) post
set_option maxRecDepth 100000 in
set_option maxHeartbeats 4000000 in
theorem c_X7_makeRounds {n : Nat} {Ly : LL} {I : II} {P : PP} {r : II} (hs : ShC n Ly P) {x1 : Int32} (h : fX7_makeRounds I x1 = some r) (l : Launch) (s0 : Nat) (D : va_G) (DA : Nat → ClassId) : Ct l s0 D DA mX7_makeRounds [.inr (some 1), .inl x1] 0 0 n Ly I P (PoD none n Ly r P) := ct_of (by decide +kernel) (Nat.le_of_ble_eq_true rfl) (fun X F hr _ => bX7_makeRounds F hs hr ⟨rfl, rfl, rfl, rfl, rfl⟩ h)
-- ChipPilers$Plan.append
def fX2_append (I : II) (x1 : Int32) : Option (Int32 × II) := (if (I 88 1) < 0 then some (0, I) else (if (I 88 1) < 40 then ck (ix (I 88 1) 40) (ck (bC x1) ((some (up2 I 89 (I 88 1).toNatClampNeg x1)).bind fun I5 => (some (up2 I5 88 1 ((I5 88 1) + 1))).bind fun I6 => some (1, I6))) else some (0, I)))
set_option maxRecDepth 100000 in
set_option maxHeartbeats 4000000 in
theorem bX2_append {X : Cx} {n : Nat} {Ly : LL} {I : II} {P : PP} {Po : PQ} {r : Int32 × II} (F : Fx X RX2 cX2_append 2 1 0 0) (hs : ShC n Ly P) (hr : Fr X (some .boolean) Po 0 0) (post : Po (some (.inl r.1)) n Ly r.2 P) {x1 : Int32} (h : fX2_append I x1 = some r) : G X 2 0 0 n Ly 0 [some (.inr (some 88)), some (.inl x1)] [] I P := by
  unfold fX2_append at h
  refine s_aload_n F dX2_append_0 rfl ?_
  refine s_getI F dX2_append_1 flX2_15 (ly88 hs) (lt88 hs) rfl ?_
  refine s_if_lt (tgt := 19) F dX2_append_4 (by decide) (fun c1 => ?_) (fun c1 => ?_)
  · have h := if_t c1 h
    refine s_iconst (v := 0) F dX2_append_19 (by decide) ?_
    have h := Option.some.inj h
    subst h
    exact s_iret F hr dX2_append_20 rfl (Nat.le_refl _) (Nat.le_refl _) post
  · have h := if_f c1 h
    refine s_aload_n F dX2_append_7 rfl ?_
    refine s_getI F dX2_append_8 flX2_15 (ly88 hs) (lt88 hs) rfl ?_
    refine s_aload_n F dX2_append_11 rfl ?_
    refine s_getR F dX2_append_12 flX2_9 (ly88 hs) (lt88 hs) rfl (p88_0 hs) ?_
    refine s_alen (v := 40) F dX2_append_15 (ly89 hs) (by decide) (lt89 hs) (by decide) ?_
    refine s_icmp_lt (tgt := 21) F dX2_append_16 (by decide) (fun c2 => ?_) (fun c2 => ?_)
    · have h := if_t c2 h
      refine s_aload_n F dX2_append_21 rfl ?_
      refine s_getR F dX2_append_22 flX2_9 (ly88 hs) (lt88 hs) rfl (p88_0 hs) ?_
      refine s_aload_n F dX2_append_25 rfl ?_
      refine s_getI F dX2_append_26 flX2_15 (ly88 hs) (lt88 hs) rfl ?_
      refine s_iload_n F dX2_append_29 rfl ?_
      obtain ⟨hc3, h⟩ := ck_s h
      obtain ⟨hc4, h⟩ := ck_s h
      have h := bd_s h
      refine s_cast F dX2_append_30 (ly89 hs) (lt89 hs) (ix_s hc3) (bC_s hc4).1 ?_
      refine s_aload_n F dX2_append_31 rfl ?_
      refine s_dup F dX2_append_32 ?_
      refine s_getI F dX2_append_33 flX2_15 (ly88 hs) (lt88 hs) rfl ?_
      refine s_iconst (v := 1) F dX2_append_36 (by decide) ?_
      refine s_iadd F dX2_append_37 ?_
      have h := bd_s h
      refine s_putI F dX2_append_38 flX2_15 (ly88 hs) (lt88 hs) rfl rfl ⟨rfl, rfl⟩ ?_
      refine s_iconst (v := 1) F dX2_append_41 (by decide) ?_
      have h := Option.some.inj h
      subst h
      exact s_iret F hr dX2_append_42 rfl (Nat.le_refl _) (Nat.le_refl _) post
    · have h := if_f c2 h
      refine s_iconst (v := 0) F dX2_append_19 (by decide) ?_
      have h := Option.some.inj h
      subst h
      exact s_iret F hr dX2_append_20 rfl (Nat.le_refl _) (Nat.le_refl _) post
set_option maxRecDepth 100000 in
set_option maxHeartbeats 4000000 in
theorem c_X2_append {n : Nat} {Ly : LL} {I : II} {P : PP} {r : Int32 × II} (hs : ShC n Ly P) {x1 : Int32} (h : fX2_append I x1 = some r) (l : Launch) (s0 : Nat) (D : va_G) (DA : Nat → ClassId) : Ct l s0 D DA mX2_append [.inr (some 88), .inl x1] 0 0 n Ly I P (PoD (some (.inl r.1)) n Ly r.2 P) := ct_of (by decide +kernel) (Nat.le_of_ble_eq_true rfl) (fun X F hr _ => bX2_append F hs hr ⟨rfl, rfl, rfl, rfl, rfl⟩ h)
-- ChipPilers$Plan.takesWalker
def fX2_takesWalker (I : II) (x1 : Int32) (x2 : Int32) : Option (Int32 × II) := (if x2 ≤ x1 then some (0, I) else (if ((I 88 4) - 1) < 0 then some (0, I) else (if ((I 88 4) - 1) < 40 then ck (ix ((I 88 4) - 1) 40) ((some (up2 I 91 ((I 88 4) - 1).toNatClampNeg x1)).bind fun I5 => some (1, I5)) else some (0, I))))
set_option maxRecDepth 100000 in
set_option maxHeartbeats 4000000 in
theorem bX2_takesWalker {X : Cx} {n : Nat} {Ly : LL} {I : II} {P : PP} {Po : PQ} {r : Int32 × II} (F : Fx X RX2 cX2_takesWalker 4 1 0 0) (hs : ShC n Ly P) (hr : Fr X (some .boolean) Po 0 0) (post : Po (some (.inl r.1)) n Ly r.2 P) {x1 : Int32} {x2 : Int32} (h : fX2_takesWalker I x1 x2 = some r) : G X 4 0 0 n Ly 0 [some (.inr (some 88)), some (.inl x1), some (.inl x2), none] [] I P := by
  unfold fX2_takesWalker at h
  refine s_aload_n F dX2_takesWalker_0 rfl ?_
  refine s_getI F dX2_takesWalker_1 flX2_26 (ly88 hs) (lt88 hs) rfl ?_
  refine s_iconst (v := 1) F dX2_takesWalker_4 (by decide) ?_
  refine s_isub F dX2_takesWalker_5 ?_
  refine s_istore_n F dX2_takesWalker_6 (by decide) ?_
  refine s_iload_n F dX2_takesWalker_7 rfl ?_
  refine s_iload_n F dX2_takesWalker_8 rfl ?_
  refine s_icmp_ge (tgt := 25) F dX2_takesWalker_9 (by decide) (fun c1 => ?_) (fun c1 => ?_)
  · have h := if_t c1 h
    refine s_iconst (v := 0) F dX2_takesWalker_25 (by decide) ?_
    have h := Option.some.inj h
    subst h
    exact s_iret F hr dX2_takesWalker_26 rfl (Nat.le_refl _) (Nat.le_refl _) post
  · have h := if_f c1 h
    refine s_iload_n F dX2_takesWalker_12 rfl ?_
    refine s_if_lt (tgt := 25) F dX2_takesWalker_13 (by decide) (fun c2 => ?_) (fun c2 => ?_)
    · have h := if_t c2 h
      refine s_iconst (v := 0) F dX2_takesWalker_25 (by decide) ?_
      have h := Option.some.inj h
      subst h
      exact s_iret F hr dX2_takesWalker_26 rfl (Nat.le_refl _) (Nat.le_refl _) post
    · have h := if_f c2 h
      refine s_iload_n F dX2_takesWalker_16 rfl ?_
      refine s_aload_n F dX2_takesWalker_17 rfl ?_
      refine s_getR F dX2_takesWalker_18 flX2_22 (ly88 hs) (lt88 hs) rfl (p88_3 hs) ?_
      refine s_alen (v := 40) F dX2_takesWalker_21 (ly91 hs) (by decide) (lt91 hs) (by decide) ?_
      refine s_icmp_lt (tgt := 27) F dX2_takesWalker_22 (by decide) (fun c3 => ?_) (fun c3 => ?_)
      · have h := if_t c3 h
        refine s_aload_n F dX2_takesWalker_27 rfl ?_
        refine s_getR F dX2_takesWalker_28 flX2_22 (ly88 hs) (lt88 hs) rfl (p88_3 hs) ?_
        refine s_iload_n F dX2_takesWalker_31 rfl ?_
        refine s_iload_n F dX2_takesWalker_32 rfl ?_
        obtain ⟨hc4, h⟩ := ck_s h
        have h := bd_s h
        refine s_iast F dX2_takesWalker_33 (ly91 hs) (lt91 hs) (ix_s hc4) ?_
        refine s_iconst (v := 1) F dX2_takesWalker_34 (by decide) ?_
        have h := Option.some.inj h
        subst h
        exact s_iret F hr dX2_takesWalker_35 rfl (Nat.le_refl _) (Nat.le_refl _) post
      · have h := if_f c3 h
        refine s_iconst (v := 0) F dX2_takesWalker_25 (by decide) ?_
        have h := Option.some.inj h
        subst h
        exact s_iret F hr dX2_takesWalker_26 rfl (Nat.le_refl _) (Nat.le_refl _) post
set_option maxRecDepth 100000 in
set_option maxHeartbeats 4000000 in
theorem c_X2_takesWalker {n : Nat} {Ly : LL} {I : II} {P : PP} {r : Int32 × II} (hs : ShC n Ly P) {x1 : Int32} {x2 : Int32} (h : fX2_takesWalker I x1 x2 = some r) (l : Launch) (s0 : Nat) (D : va_G) (DA : Nat → ClassId) : Ct l s0 D DA mX2_takesWalker [.inr (some 88), .inl x1, .inl x2] 0 0 n Ly I P (PoD (some (.inl r.1)) n Ly r.2 P) := ct_of (by decide +kernel) (Nat.le_of_ble_eq_true rfl) (fun X F hr _ => bX2_takesWalker F hs hr ⟨rfl, rfl, rfl, rfl, rfl⟩ h)
-- ChipPilers$Plan.takesDigit
def fX2_takesDigit (I : II) (x1 : Int32) : Option (Int32 × II) := (if ((I 88 4) - 1) < 0 then some (0, I) else (if 40 ≤ ((I 88 4) - 1) then some (0, I) else ck (ix ((I 88 4) - 1) 40) ((if ¬ (I 90 ((I 88 4) - 1).toNatClampNeg) = 35 then ck (ix ((I 88 4) - 1) 40) ((fX8_isBetween (((I 91 ((I 88 4) - 1).toNatClampNeg) * 10) + x1) 1 50).bind fun v6 => (if ¬ v6 = 0 then ck (ix ((I 88 4) - 1) 40) ((some (up2 I 91 ((I 88 4) - 1).toNatClampNeg (((I 91 ((I 88 4) - 1).toNatClampNeg) * 10) + x1))).bind fun I9 => some (1, I9)) else some (0, I))) else some (0, I)))))
set_option maxRecDepth 100000 in
set_option maxHeartbeats 4000000 in
theorem bX2_takesDigit {X : Cx} {n : Nat} {Ly : LL} {I : II} {P : PP} {Po : PQ} {r : Int32 × II} (F : Fx X RX2 cX2_takesDigit 4 2 0 0) (hs : ShC n Ly P) (hr : Fr X (some .boolean) Po 0 0) (post : Po (some (.inl r.1)) n Ly r.2 P) {x1 : Int32} (h : fX2_takesDigit I x1 = some r) : G X 4 0 0 n Ly 0 [some (.inr (some 88)), some (.inl x1), none, none] [] I P := by
  unfold fX2_takesDigit at h
  refine s_aload_n F dX2_takesDigit_0 rfl ?_
  refine s_getI F dX2_takesDigit_1 flX2_26 (ly88 hs) (lt88 hs) rfl ?_
  refine s_iconst (v := 1) F dX2_takesDigit_4 (by decide) ?_
  refine s_isub F dX2_takesDigit_5 ?_
  refine s_istore_n F dX2_takesDigit_6 (by decide) ?_
  refine s_iload_n F dX2_takesDigit_7 rfl ?_
  refine s_if_lt (tgt := 31) F dX2_takesDigit_8 (by decide) (fun c1 => ?_) (fun c1 => ?_)
  · have h := if_t c1 h
    refine s_iconst (v := 0) F dX2_takesDigit_31 (by decide) ?_
    have h := Option.some.inj h
    subst h
    exact s_iret F hr dX2_takesDigit_32 rfl (Nat.le_refl _) (Nat.le_refl _) post
  · have h := if_f c1 h
    refine s_iload_n F dX2_takesDigit_11 rfl ?_
    refine s_aload_n F dX2_takesDigit_12 rfl ?_
    refine s_getR F dX2_takesDigit_13 flX2_22 (ly88 hs) (lt88 hs) rfl (p88_3 hs) ?_
    refine s_alen (v := 40) F dX2_takesDigit_16 (ly91 hs) (by decide) (lt91 hs) (by decide) ?_
    refine s_icmp_ge (tgt := 31) F dX2_takesDigit_17 (by decide) (fun c2 => ?_) (fun c2 => ?_)
    · have h := if_t c2 h
      refine s_iconst (v := 0) F dX2_takesDigit_31 (by decide) ?_
      have h := Option.some.inj h
      subst h
      exact s_iret F hr dX2_takesDigit_32 rfl (Nat.le_refl _) (Nat.le_refl _) post
    · have h := if_f c2 h
      refine s_aload_n F dX2_takesDigit_20 rfl ?_
      refine s_getR F dX2_takesDigit_21 flX2_19 (ly88 hs) (lt88 hs) rfl (p88_2 hs) ?_
      refine s_iload_n F dX2_takesDigit_24 rfl ?_
      obtain ⟨hc3, h⟩ := ck_s h
      refine s_cald F dX2_takesDigit_25 (ly90 hs) (lt90 hs) (ix_s hc3) ?_
      refine s_bipush (v := 35) F dX2_takesDigit_26 (by decide) ?_
      refine s_icmp_ne (tgt := 33) F dX2_takesDigit_28 (by decide) (fun c4 => ?_) (fun c4 => ?_)
      · have h := if_t c4 h
        refine s_aload_n F dX2_takesDigit_33 rfl ?_
        refine s_getR F dX2_takesDigit_34 flX2_22 (ly88 hs) (lt88 hs) rfl (p88_3 hs) ?_
        refine s_iload_n F dX2_takesDigit_37 rfl ?_
        obtain ⟨hc5, h⟩ := ck_s h
        refine s_iald F dX2_takesDigit_38 (ly91 hs) (lt91 hs) (ix_s hc5) ?_
        refine s_bipush (v := 10) F dX2_takesDigit_39 (by decide) ?_
        refine s_imul F dX2_takesDigit_41 ?_
        refine s_iload_n F dX2_takesDigit_42 rfl ?_
        refine s_iadd F dX2_takesDigit_43 ?_
        refine s_istore_n F dX2_takesDigit_44 (by decide) ?_
        refine s_iload_n F dX2_takesDigit_45 rfl ?_
        refine s_iconst (v := 1) F dX2_takesDigit_46 (by decide) ?_
        refine s_bipush (v := 50) F dX2_takesDigit_47 (by decide) ?_
        obtain ⟨v6, hv6, h⟩ := bd_i h
        refine s_cSN F dX2_takesDigit_49 (c_X8_isBetween hs hv6) lkX2_48 okX8_isBetween rfl (Nat.le_of_ble_eq_true rfl) (by decide) ?_
        refine s_if_ne (tgt := 57) F dX2_takesDigit_52 (by decide) (fun c7 => ?_) (fun c7 => ?_)
        · have h := if_t c7 h
          refine s_aload_n F dX2_takesDigit_57 rfl ?_
          refine s_getR F dX2_takesDigit_58 flX2_22 (ly88 hs) (lt88 hs) rfl (p88_3 hs) ?_
          refine s_iload_n F dX2_takesDigit_61 rfl ?_
          refine s_iload_n F dX2_takesDigit_62 rfl ?_
          obtain ⟨hc8, h⟩ := ck_s h
          have h := bd_s h
          refine s_iast F dX2_takesDigit_63 (ly91 hs) (lt91 hs) (ix_s hc8) ?_
          refine s_iconst (v := 1) F dX2_takesDigit_64 (by decide) ?_
          have h := Option.some.inj h
          subst h
          exact s_iret F hr dX2_takesDigit_65 rfl (Nat.le_refl _) (Nat.le_refl _) post
        · have h := if_f (not_not_intro c7) h
          refine s_iconst (v := 0) F dX2_takesDigit_55 (by decide) ?_
          have h := Option.some.inj h
          subst h
          exact s_iret F hr dX2_takesDigit_56 rfl (Nat.le_refl _) (Nat.le_refl _) post
      · have h := if_f (not_not_intro c4) h
        refine s_iconst (v := 0) F dX2_takesDigit_31 (by decide) ?_
        have h := Option.some.inj h
        subst h
        exact s_iret F hr dX2_takesDigit_32 rfl (Nat.le_refl _) (Nat.le_refl _) post
set_option maxRecDepth 100000 in
set_option maxHeartbeats 4000000 in
theorem c_X2_takesDigit {n : Nat} {Ly : LL} {I : II} {P : PP} {r : Int32 × II} (hs : ShC n Ly P) {x1 : Int32} (h : fX2_takesDigit I x1 = some r) (l : Launch) (s0 : Nat) (D : va_G) (DA : Nat → ClassId) : Ct l s0 D DA mX2_takesDigit [.inr (some 88), .inl x1] 0 0 n Ly I P (PoD (some (.inl r.1)) n Ly r.2 P) := ct_of (by decide +kernel) (Nat.le_of_ble_eq_true rfl) (fun X F hr _ => bX2_takesDigit F hs hr ⟨rfl, rfl, rfl, rfl, rfl⟩ h)
-- ChipPilers$Plan.isOrder
def fX2_isOrder_J43 (x0 : Int32) (x1 : Int32) (s0 : Int32) : Option (Int32) := (if x1 ≤ 0 then some 0 else (if ¬ s0 = 0 then some 1 else (if x0 = 103 then some 1 else (if ¬ x0 = 100 then some 0 else some 1))))
def fX2_isOrder_J38 (x0 : Int32) (x1 : Int32) : Option (Int32) := fX2_isOrder_J43 x0 x1 1
def fX2_isOrder (x0 : Int32) (x1 : Int32) : Option (Int32) := (if x0 = 114 then some 1 else (if ¬ x0 = 35 then (if x0 = 110 then fX2_isOrder_J38 x0 x1 else (if x0 = 101 then fX2_isOrder_J38 x0 x1 else (if x0 = 115 then fX2_isOrder_J38 x0 x1 else (if ¬ x0 = 119 then fX2_isOrder_J43 x0 x1 0 else fX2_isOrder_J38 x0 x1)))) else some 1))
set_option maxRecDepth 100000 in
set_option maxHeartbeats 4000000 in
theorem lX2_isOrder_J43 {X : Cx} {n : Nat} {Ly : LL} {I : II} {P : PP} {Po : PQ} {r : Int32} (F : Fx X RX2 cX2_isOrder 3 1 0 0) (hs : ShC n Ly P) (hr : Fr X (some .boolean) Po 0 0) (post : Po (some (.inl r)) n Ly I P) {x0 : Int32} {x1 : Int32} {s0 : Int32} (h : fX2_isOrder_J43 x0 x1 s0 = some r) : G X 3 0 0 n Ly 43 [some (.inl x0), some (.inl x1), none] [.inl s0] I P := by
  unfold fX2_isOrder_J43 at h
  refine s_istore_n F dX2_isOrder_43 (by decide) ?_
  refine s_iload_n F dX2_isOrder_44 rfl ?_
  refine s_if_le (tgt := 68) F dX2_isOrder_45 (by decide) (fun c4 => ?_) (fun c4 => ?_)
  · have h := if_t c4 h
    refine s_iconst (v := 0) F dX2_isOrder_68 (by decide) ?_
    have h := Option.some.inj h
    subst h
    exact s_iret F hr dX2_isOrder_69 rfl (Nat.le_refl _) (Nat.le_refl _) post
  · have h := if_f c4 h
    refine s_iload_n F dX2_isOrder_48 rfl ?_
    refine s_if_ne (tgt := 64) F dX2_isOrder_49 (by decide) (fun c5 => ?_) (fun c5 => ?_)
    · have h := if_t c5 h
      refine s_iconst (v := 1) F dX2_isOrder_64 (by decide) ?_
      refine s_goto (tgt := 69) F dX2_isOrder_65 (by decide) ?_
      have h := Option.some.inj h
      subst h
      exact s_iret F hr dX2_isOrder_69 rfl (Nat.le_refl _) (Nat.le_refl _) post
    · have h := if_f (not_not_intro c5) h
      refine s_iload_n F dX2_isOrder_52 rfl ?_
      refine s_bipush (v := 103) F dX2_isOrder_53 (by decide) ?_
      refine s_icmp_eq (tgt := 64) F dX2_isOrder_55 (by decide) (fun c6 => ?_) (fun c6 => ?_)
      · have h := if_t c6 h
        refine s_iconst (v := 1) F dX2_isOrder_64 (by decide) ?_
        refine s_goto (tgt := 69) F dX2_isOrder_65 (by decide) ?_
        have h := Option.some.inj h
        subst h
        exact s_iret F hr dX2_isOrder_69 rfl (Nat.le_refl _) (Nat.le_refl _) post
      · have h := if_f c6 h
        refine s_iload_n F dX2_isOrder_58 rfl ?_
        refine s_bipush (v := 100) F dX2_isOrder_59 (by decide) ?_
        refine s_icmp_ne (tgt := 68) F dX2_isOrder_61 (by decide) (fun c7 => ?_) (fun c7 => ?_)
        · have h := if_t c7 h
          refine s_iconst (v := 0) F dX2_isOrder_68 (by decide) ?_
          have h := Option.some.inj h
          subst h
          exact s_iret F hr dX2_isOrder_69 rfl (Nat.le_refl _) (Nat.le_refl _) post
        · have h := if_f (not_not_intro c7) h
          refine s_iconst (v := 1) F dX2_isOrder_64 (by decide) ?_
          refine s_goto (tgt := 69) F dX2_isOrder_65 (by decide) ?_
          have h := Option.some.inj h
          subst h
          exact s_iret F hr dX2_isOrder_69 rfl (Nat.le_refl _) (Nat.le_refl _) post
set_option maxRecDepth 100000 in
set_option maxHeartbeats 4000000 in
theorem lX2_isOrder_J38 {X : Cx} {n : Nat} {Ly : LL} {I : II} {P : PP} {Po : PQ} {r : Int32} (F : Fx X RX2 cX2_isOrder 3 1 0 0) (hs : ShC n Ly P) (hr : Fr X (some .boolean) Po 0 0) (post : Po (some (.inl r)) n Ly I P) {x0 : Int32} {x1 : Int32} (h : fX2_isOrder_J38 x0 x1 = some r) : G X 3 0 0 n Ly 38 [some (.inl x0), some (.inl x1), none] [] I P := by
  unfold fX2_isOrder_J38 at h
  refine s_iconst (v := 1) F dX2_isOrder_38 (by decide) ?_
  refine s_goto (tgt := 43) F dX2_isOrder_39 (by decide) ?_
  exact G.weak (by exact ⟨rfl, ⟨rfl, trivial⟩⟩) (lX2_isOrder_J43 F hs hr post h)
set_option maxRecDepth 100000 in
set_option maxHeartbeats 4000000 in
theorem bX2_isOrder {X : Cx} {n : Nat} {Ly : LL} {I : II} {P : PP} {Po : PQ} {r : Int32} (F : Fx X RX2 cX2_isOrder 3 1 0 0) (hs : ShC n Ly P) (hr : Fr X (some .boolean) Po 0 0) (post : Po (some (.inl r)) n Ly I P) {x0 : Int32} {x1 : Int32} (h : fX2_isOrder x0 x1 = some r) : G X 3 0 0 n Ly 0 [some (.inl x0), some (.inl x1), none] [] I P := by
  unfold fX2_isOrder at h
  refine s_iload_n F dX2_isOrder_0 rfl ?_
  refine s_bipush (v := 114) F dX2_isOrder_1 (by decide) ?_
  refine s_icmp_eq (tgt := 12) F dX2_isOrder_3 (by decide) (fun c1 => ?_) (fun c1 => ?_)
  · have h := if_t c1 h
    refine s_iconst (v := 1) F dX2_isOrder_12 (by decide) ?_
    have h := Option.some.inj h
    subst h
    exact s_iret F hr dX2_isOrder_13 rfl (Nat.le_refl _) (Nat.le_refl _) post
  · have h := if_f c1 h
    refine s_iload_n F dX2_isOrder_6 rfl ?_
    refine s_bipush (v := 35) F dX2_isOrder_7 (by decide) ?_
    refine s_icmp_ne (tgt := 14) F dX2_isOrder_9 (by decide) (fun c2 => ?_) (fun c2 => ?_)
    · have h := if_t c2 h
      refine s_iload_n F dX2_isOrder_14 rfl ?_
      refine s_bipush (v := 110) F dX2_isOrder_15 (by decide) ?_
      refine s_icmp_eq (tgt := 38) F dX2_isOrder_17 (by decide) (fun c3 => ?_) (fun c3 => ?_)
      · have h := if_t c3 h
        exact G.weak (by exact ⟨rfl, ⟨rfl, trivial⟩⟩) (lX2_isOrder_J38 F hs hr post h)
      · have h := if_f c3 h
        refine s_iload_n F dX2_isOrder_20 rfl ?_
        refine s_bipush (v := 101) F dX2_isOrder_21 (by decide) ?_
        refine s_icmp_eq (tgt := 38) F dX2_isOrder_23 (by decide) (fun c8 => ?_) (fun c8 => ?_)
        · have h := if_t c8 h
          exact G.weak (by exact ⟨rfl, ⟨rfl, trivial⟩⟩) (lX2_isOrder_J38 F hs hr post h)
        · have h := if_f c8 h
          refine s_iload_n F dX2_isOrder_26 rfl ?_
          refine s_bipush (v := 115) F dX2_isOrder_27 (by decide) ?_
          refine s_icmp_eq (tgt := 38) F dX2_isOrder_29 (by decide) (fun c9 => ?_) (fun c9 => ?_)
          · have h := if_t c9 h
            exact G.weak (by exact ⟨rfl, ⟨rfl, trivial⟩⟩) (lX2_isOrder_J38 F hs hr post h)
          · have h := if_f c9 h
            refine s_iload_n F dX2_isOrder_32 rfl ?_
            refine s_bipush (v := 119) F dX2_isOrder_33 (by decide) ?_
            refine s_icmp_ne (tgt := 42) F dX2_isOrder_35 (by decide) (fun c10 => ?_) (fun c10 => ?_)
            · have h := if_t c10 h
              refine s_iconst (v := 0) F dX2_isOrder_42 (by decide) ?_
              exact G.weak (by exact ⟨rfl, ⟨rfl, trivial⟩⟩) (lX2_isOrder_J43 F hs hr post h)
            · have h := if_f (not_not_intro c10) h
              exact G.weak (by exact ⟨rfl, ⟨rfl, trivial⟩⟩) (lX2_isOrder_J38 F hs hr post h)
    · have h := if_f (not_not_intro c2) h
      refine s_iconst (v := 1) F dX2_isOrder_12 (by decide) ?_
      have h := Option.some.inj h
      subst h
      exact s_iret F hr dX2_isOrder_13 rfl (Nat.le_refl _) (Nat.le_refl _) post
set_option maxRecDepth 100000 in
set_option maxHeartbeats 4000000 in
theorem c_X2_isOrder {n : Nat} {Ly : LL} {I : II} {P : PP} {r : Int32} (hs : ShC n Ly P) {x0 : Int32} {x1 : Int32} (h : fX2_isOrder x0 x1 = some r) (l : Launch) (s0 : Nat) (D : va_G) (DA : Nat → ClassId) : Ct l s0 D DA mX2_isOrder [.inl x0, .inl x1] 0 0 n Ly I P (PoD (some (.inl r)) n Ly I P) := ct_of (by decide +kernel) (Nat.le_of_ble_eq_true rfl) (fun X F hr _ => bX2_isOrder F hs hr ⟨rfl, rfl, rfl, rfl, rfl⟩ h)
-- ChipPilers$Plan.takesLetter
def fX2_takesLetter (I : II) (x1 : Int32) (x2 : Int32) : Option (Int32 × II) := (fX2_isOrder x1 x2).bind fun v1 => (if v1 = 0 then some (0, I) else (if (I 88 4) < 0 then some (0, I) else (if (I 88 4) < 40 then ck (ix (I 88 4) 40) (ck (bC x1) ((some (up2 I 90 (I 88 4).toNatClampNeg x1)).bind fun I7 => ck (ix (I7 88 4) 40) ((some (up2 I7 91 (I7 88 4).toNatClampNeg 0)).bind fun I9 => (some (up2 I9 88 4 ((I9 88 4) + 1))).bind fun I10 => (if ¬ x1 = 35 then (some (up2 I10 88 5 0)).bind fun I12 => some (1, I12) else (some (up2 I10 88 5 1)).bind fun I13 => some (1, I13))))) else some (0, I))))
set_option maxRecDepth 100000 in
set_option maxHeartbeats 4000000 in
theorem bX2_takesLetter {X : Cx} {n : Nat} {Ly : LL} {I : II} {P : PP} {Po : PQ} {r : Int32 × II} (F : Fx X RX2 cX2_takesLetter 3 2 0 0) (hs : ShC n Ly P) (hr : Fr X (some .boolean) Po 0 0) (post : Po (some (.inl r.1)) n Ly r.2 P) {x1 : Int32} {x2 : Int32} (h : fX2_takesLetter I x1 x2 = some r) : G X 3 0 0 n Ly 0 [some (.inr (some 88)), some (.inl x1), some (.inl x2)] [] I P := by
  unfold fX2_takesLetter at h
  refine s_iload_n F dX2_takesLetter_0 rfl ?_
  refine s_iload_n F dX2_takesLetter_1 rfl ?_
  obtain ⟨v1, hv1, h⟩ := bd_i h
  refine s_cS F dX2_takesLetter_2 (c_X2_isOrder hs hv1) lkX2_52 okX2_isOrder rfl (Nat.le_of_ble_eq_true rfl) (by decide) ?_
  refine s_if_eq (tgt := 27) F dX2_takesLetter_5 (by decide) (fun c2 => ?_) (fun c2 => ?_)
  · have h := if_t c2 h
    refine s_iconst (v := 0) F dX2_takesLetter_27 (by decide) ?_
    have h := Option.some.inj h
    subst h
    exact s_iret F hr dX2_takesLetter_28 rfl (Nat.le_refl _) (Nat.le_refl _) post
  · have h := if_f c2 h
    refine s_aload_n F dX2_takesLetter_8 rfl ?_
    refine s_getI F dX2_takesLetter_9 flX2_26 (ly88 hs) (lt88 hs) rfl ?_
    refine s_if_lt (tgt := 27) F dX2_takesLetter_12 (by decide) (fun c3 => ?_) (fun c3 => ?_)
    · have h := if_t c3 h
      refine s_iconst (v := 0) F dX2_takesLetter_27 (by decide) ?_
      have h := Option.some.inj h
      subst h
      exact s_iret F hr dX2_takesLetter_28 rfl (Nat.le_refl _) (Nat.le_refl _) post
    · have h := if_f c3 h
      refine s_aload_n F dX2_takesLetter_15 rfl ?_
      refine s_getI F dX2_takesLetter_16 flX2_26 (ly88 hs) (lt88 hs) rfl ?_
      refine s_aload_n F dX2_takesLetter_19 rfl ?_
      refine s_getR F dX2_takesLetter_20 flX2_19 (ly88 hs) (lt88 hs) rfl (p88_2 hs) ?_
      refine s_alen (v := 40) F dX2_takesLetter_23 (ly90 hs) (by decide) (lt90 hs) (by decide) ?_
      refine s_icmp_lt (tgt := 29) F dX2_takesLetter_24 (by decide) (fun c4 => ?_) (fun c4 => ?_)
      · have h := if_t c4 h
        refine s_aload_n F dX2_takesLetter_29 rfl ?_
        refine s_getR F dX2_takesLetter_30 flX2_19 (ly88 hs) (lt88 hs) rfl (p88_2 hs) ?_
        refine s_aload_n F dX2_takesLetter_33 rfl ?_
        refine s_getI F dX2_takesLetter_34 flX2_26 (ly88 hs) (lt88 hs) rfl ?_
        refine s_iload_n F dX2_takesLetter_37 rfl ?_
        obtain ⟨hc5, h⟩ := ck_s h
        obtain ⟨hc6, h⟩ := ck_s h
        have h := bd_s h
        refine s_cast F dX2_takesLetter_38 (ly90 hs) (lt90 hs) (ix_s hc5) (bC_s hc6).1 ?_
        refine s_aload_n F dX2_takesLetter_39 rfl ?_
        refine s_getR F dX2_takesLetter_40 flX2_22 (ly88 hs) (lt88 hs) rfl (p88_3 hs) ?_
        refine s_aload_n F dX2_takesLetter_43 rfl ?_
        refine s_getI F dX2_takesLetter_44 flX2_26 (ly88 hs) (lt88 hs) rfl ?_
        refine s_iconst (v := 0) F dX2_takesLetter_47 (by decide) ?_
        obtain ⟨hc8, h⟩ := ck_s h
        have h := bd_s h
        refine s_iast F dX2_takesLetter_48 (ly91 hs) (lt91 hs) (ix_s hc8) ?_
        refine s_aload_n F dX2_takesLetter_49 rfl ?_
        refine s_dup F dX2_takesLetter_50 ?_
        refine s_getI F dX2_takesLetter_51 flX2_26 (ly88 hs) (lt88 hs) rfl ?_
        refine s_iconst (v := 1) F dX2_takesLetter_54 (by decide) ?_
        refine s_iadd F dX2_takesLetter_55 ?_
        have h := bd_s h
        refine s_putI F dX2_takesLetter_56 flX2_26 (ly88 hs) (lt88 hs) rfl rfl ⟨rfl, rfl⟩ ?_
        refine s_aload_n F dX2_takesLetter_59 rfl ?_
        refine s_iload_n F dX2_takesLetter_60 rfl ?_
        refine s_bipush (v := 35) F dX2_takesLetter_61 (by decide) ?_
        refine s_icmp_ne (tgt := 70) F dX2_takesLetter_63 (by decide) (fun c11 => ?_) (fun c11 => ?_)
        · have h := if_t c11 h
          refine s_iconst (v := 0) F dX2_takesLetter_70 (by decide) ?_
          have h := bd_s h
          refine s_putI F dX2_takesLetter_71 flX2_29 (ly88 hs) (lt88 hs) rfl rfl (by exact ⟨rfl, rfl⟩) ?_
          refine s_iconst (v := 1) F dX2_takesLetter_74 (by decide) ?_
          have h := Option.some.inj h
          subst h
          exact s_iret F hr dX2_takesLetter_75 rfl (Nat.le_refl _) (Nat.le_refl _) post
        · have h := if_f (not_not_intro c11) h
          refine s_iconst (v := 1) F dX2_takesLetter_66 (by decide) ?_
          refine s_goto (tgt := 71) F dX2_takesLetter_67 (by decide) ?_
          have h := bd_s h
          refine s_putI F dX2_takesLetter_71 flX2_29 (ly88 hs) (lt88 hs) rfl rfl (by exact ⟨rfl, rfl⟩) ?_
          refine s_iconst (v := 1) F dX2_takesLetter_74 (by decide) ?_
          have h := Option.some.inj h
          subst h
          exact s_iret F hr dX2_takesLetter_75 rfl (Nat.le_refl _) (Nat.le_refl _) post
      · have h := if_f c4 h
        refine s_iconst (v := 0) F dX2_takesLetter_27 (by decide) ?_
        have h := Option.some.inj h
        subst h
        exact s_iret F hr dX2_takesLetter_28 rfl (Nat.le_refl _) (Nat.le_refl _) post
set_option maxRecDepth 100000 in
set_option maxHeartbeats 4000000 in
theorem c_X2_takesLetter {n : Nat} {Ly : LL} {I : II} {P : PP} {r : Int32 × II} (hs : ShC n Ly P) {x1 : Int32} {x2 : Int32} (h : fX2_takesLetter I x1 x2 = some r) (l : Launch) (s0 : Nat) (D : va_G) (DA : Nat → ClassId) : Ct l s0 D DA mX2_takesLetter [.inr (some 88), .inl x1, .inl x2] 0 0 n Ly I P (PoD (some (.inl r.1)) n Ly r.2 P) := ct_of (by decide +kernel) (Nat.le_of_ble_eq_true rfl) (fun X F hr _ => bX2_takesLetter F hs hr ⟨rfl, rfl, rfl, rfl, rfl⟩ h)
-- ChipPilers$Plan.takes
def fX2_takes_J17 (I : II) (x1 : Int32) (x2 : Int32) (s0 : Int32) : Option (Int32 × II) := (if (I 88 5) = 0 then (if s0 = 0 then (fX2_takesLetter I x1 x2).bind fun v4 => ck (bB v4.1) (some (v4.1, v4.2)) else (fX2_takesDigit I (x1 - 48)).bind fun v6 => ck (bB v6.1) (some (v6.1, v6.2))) else (some (up2 I 88 5 0)).bind fun I8 => (if s0 = 0 then some (0, I8) else (fX2_takesWalker I8 (x1 - 48) x2).bind fun v10 => (if v10.1 = 0 then some (0, v10.2) else some (1, v10.2))))
def fX2_takes_J16 (I : II) (x1 : Int32) (x2 : Int32) : Option (Int32 × II) := fX2_takes_J17 I x1 x2 0
def fX2_takes (I : II) (x1 : Int32) (x2 : Int32) : Option (Int32 × II) := (if x1 < 48 then fX2_takes_J16 I x1 x2 else (if 57 < x1 then fX2_takes_J16 I x1 x2 else fX2_takes_J17 I x1 x2 1))
set_option maxRecDepth 100000 in
set_option maxHeartbeats 4000000 in
theorem lX2_takes_J17 {X : Cx} {n : Nat} {Ly : LL} {I : II} {P : PP} {Po : PQ} {r : Int32 × II} (F : Fx X RX2 cX2_takes 4 3 0 0) (hs : ShC n Ly P) (hr : Fr X (some .boolean) Po 0 0) (post : Po (some (.inl r.1)) n Ly r.2 P) {x1 : Int32} {x2 : Int32} {s0 : Int32} (h : fX2_takes_J17 I x1 x2 s0 = some r) : G X 4 0 0 n Ly 17 [some (.inr (some 88)), some (.inl x1), some (.inl x2), none] [.inl s0] I P := by
  unfold fX2_takes_J17 at h
  refine s_istore_n F dX2_takes_17 (by decide) ?_
  refine s_aload_n F dX2_takes_18 rfl ?_
  refine s_getI F dX2_takes_19 flX2_29 (ly88 hs) (lt88 hs) rfl ?_
  refine s_if_eq (tgt := 52) F dX2_takes_22 (by decide) (fun c2 => ?_) (fun c2 => ?_)
  · have h := if_t c2 h
    refine s_iload_n F dX2_takes_52 rfl ?_
    refine s_if_eq (tgt := 67) F dX2_takes_53 (by decide) (fun c3 => ?_) (fun c3 => ?_)
    · have h := if_t c3 h
      refine s_aload_n F dX2_takes_67 rfl ?_
      refine s_iload_n F dX2_takes_68 rfl ?_
      refine s_iload_n F dX2_takes_69 rfl ?_
      obtain ⟨v4, hv4, h⟩ := bd_i h
      refine s_cV (ci := 2) F dX2_takes_70 (c_X2_takesLetter hs hv4) lkX2_45 okX2_takesLetter (by decide) (ly88 hs) (lt88 hs) rfl rfl (Nat.le_of_ble_eq_true rfl) (by decide) ?_
      obtain ⟨hc5, h⟩ := ck_s h
      have h := Option.some.inj h
      subst h
      exact s_iret F hr dX2_takes_73 (nb_of (bB_s hc5)).1 (Nat.le_refl _) (Nat.le_refl _) post
    · have h := if_f c3 h
      refine s_aload_n F dX2_takes_56 rfl ?_
      refine s_iload_n F dX2_takes_57 rfl ?_
      refine s_bipush (v := 48) F dX2_takes_58 (by decide) ?_
      refine s_isub F dX2_takes_60 ?_
      obtain ⟨v6, hv6, h⟩ := bd_i h
      refine s_cV (ci := 2) F dX2_takes_61 (c_X2_takesDigit hs hv6) lkX2_41 okX2_takesDigit (by decide) (ly88 hs) (lt88 hs) rfl rfl (Nat.le_of_ble_eq_true rfl) (by decide) ?_
      refine s_goto (tgt := 73) F dX2_takes_64 (by decide) ?_
      obtain ⟨hc7, h⟩ := ck_s h
      have h := Option.some.inj h
      subst h
      exact s_iret F hr dX2_takes_73 (nb_of (bB_s hc7)).1 (Nat.le_refl _) (Nat.le_refl _) post
  · have h := if_f c2 h
    refine s_aload_n F dX2_takes_25 rfl ?_
    refine s_iconst (v := 0) F dX2_takes_26 (by decide) ?_
    have h := bd_s h
    refine s_putI F dX2_takes_27 flX2_29 (ly88 hs) (lt88 hs) rfl rfl (by exact ⟨rfl, rfl⟩) ?_
    refine s_iload_n F dX2_takes_30 rfl ?_
    refine s_if_eq (tgt := 50) F dX2_takes_31 (by decide) (fun c9 => ?_) (fun c9 => ?_)
    · have h := if_t c9 h
      refine s_iconst (v := 0) F dX2_takes_50 (by decide) ?_
      have h := Option.some.inj h
      subst h
      exact s_iret F hr dX2_takes_51 rfl (Nat.le_refl _) (Nat.le_refl _) post
    · have h := if_f c9 h
      refine s_aload_n F dX2_takes_34 rfl ?_
      refine s_iload_n F dX2_takes_35 rfl ?_
      refine s_bipush (v := 48) F dX2_takes_36 (by decide) ?_
      refine s_isub F dX2_takes_38 ?_
      refine s_iload_n F dX2_takes_39 rfl ?_
      obtain ⟨v10, hv10, h⟩ := bd_i h
      refine s_cV (ci := 2) F dX2_takes_40 (c_X2_takesWalker hs hv10) lkX2_37 okX2_takesWalker (by decide) (ly88 hs) (lt88 hs) rfl rfl (Nat.le_of_ble_eq_true rfl) (by decide) ?_
      refine s_if_eq (tgt := 50) F dX2_takes_43 (by decide) (fun c11 => ?_) (fun c11 => ?_)
      · have h := if_t c11 h
        refine s_iconst (v := 0) F dX2_takes_50 (by decide) ?_
        have h := Option.some.inj h
        subst h
        exact s_iret F hr dX2_takes_51 rfl (Nat.le_refl _) (Nat.le_refl _) post
      · have h := if_f c11 h
        refine s_iconst (v := 1) F dX2_takes_46 (by decide) ?_
        refine s_goto (tgt := 51) F dX2_takes_47 (by decide) ?_
        have h := Option.some.inj h
        subst h
        exact s_iret F hr dX2_takes_51 rfl (Nat.le_refl _) (Nat.le_refl _) post
set_option maxRecDepth 100000 in
set_option maxHeartbeats 4000000 in
theorem lX2_takes_J16 {X : Cx} {n : Nat} {Ly : LL} {I : II} {P : PP} {Po : PQ} {r : Int32 × II} (F : Fx X RX2 cX2_takes 4 3 0 0) (hs : ShC n Ly P) (hr : Fr X (some .boolean) Po 0 0) (post : Po (some (.inl r.1)) n Ly r.2 P) {x1 : Int32} {x2 : Int32} (h : fX2_takes_J16 I x1 x2 = some r) : G X 4 0 0 n Ly 16 [some (.inr (some 88)), some (.inl x1), some (.inl x2), none] [] I P := by
  unfold fX2_takes_J16 at h
  refine s_iconst (v := 0) F dX2_takes_16 (by decide) ?_
  exact G.weak (by exact ⟨rfl, ⟨rfl, ⟨rfl, trivial⟩⟩⟩) (lX2_takes_J17 F hs hr post h)
set_option maxRecDepth 100000 in
set_option maxHeartbeats 4000000 in
theorem bX2_takes {X : Cx} {n : Nat} {Ly : LL} {I : II} {P : PP} {Po : PQ} {r : Int32 × II} (F : Fx X RX2 cX2_takes 4 3 0 0) (hs : ShC n Ly P) (hr : Fr X (some .boolean) Po 0 0) (post : Po (some (.inl r.1)) n Ly r.2 P) {x1 : Int32} {x2 : Int32} (h : fX2_takes I x1 x2 = some r) : G X 4 0 0 n Ly 0 [some (.inr (some 88)), some (.inl x1), some (.inl x2), none] [] I P := by
  unfold fX2_takes at h
  refine s_iload_n F dX2_takes_0 rfl ?_
  refine s_bipush (v := 48) F dX2_takes_1 (by decide) ?_
  refine s_icmp_lt (tgt := 16) F dX2_takes_3 (by decide) (fun c1 => ?_) (fun c1 => ?_)
  · have h := if_t c1 h
    exact G.weak (by exact ⟨rfl, ⟨rfl, ⟨rfl, trivial⟩⟩⟩) (lX2_takes_J16 F hs hr post h)
  · have h := if_f c1 h
    refine s_iload_n F dX2_takes_6 rfl ?_
    refine s_bipush (v := 57) F dX2_takes_7 (by decide) ?_
    refine s_icmp_gt (tgt := 16) F dX2_takes_9 (by decide) (fun c12 => ?_) (fun c12 => ?_)
    · have h := if_t c12 h
      exact G.weak (by exact ⟨rfl, ⟨rfl, ⟨rfl, trivial⟩⟩⟩) (lX2_takes_J16 F hs hr post h)
    · have h := if_f c12 h
      refine s_iconst (v := 1) F dX2_takes_12 (by decide) ?_
      refine s_goto (tgt := 17) F dX2_takes_13 (by decide) ?_
      exact G.weak (by exact ⟨rfl, ⟨rfl, ⟨rfl, trivial⟩⟩⟩) (lX2_takes_J17 F hs hr post h)
set_option maxRecDepth 100000 in
set_option maxHeartbeats 4000000 in
theorem c_X2_takes {n : Nat} {Ly : LL} {I : II} {P : PP} {r : Int32 × II} (hs : ShC n Ly P) {x1 : Int32} {x2 : Int32} (h : fX2_takes I x1 x2 = some r) (l : Launch) (s0 : Nat) (D : va_G) (DA : Nat → ClassId) : Ct l s0 D DA mX2_takes [.inr (some 88), .inl x1, .inl x2] 0 0 n Ly I P (PoD (some (.inl r.1)) n Ly r.2 P) := ct_of (by decide +kernel) (Nat.le_of_ble_eq_true rfl) (fun X F hr _ => bX2_takes F hs hr ⟨rfl, rfl, rfl, rfl, rfl⟩ h)
-- ChipPilers$Plan.readOrders
def fX2_readOrders_L12 : Nat → (II → Option (Int32 × II)) → Int32 → Int32 → II → Option (Int32 × II)
  | 0, _, _, _, _ => none
  | k + 1, ct, x1, x2, I => (if (I 88 1) ≤ x2 then ct I else (if 40 ≤ x2 then ct I else ck (ix x2 40) ((fX2_takes I (I 89 x2.toNatClampNeg) x1).bind fun v6 => (if ¬ v6.1 = 0 then fX2_readOrders_L12 k ct x1 (x2 + 1) v6.2 else some (x2, v6.2)))))
def fX2_readOrders (I : II) (x1 : Int32) : Option (Int32 × II) := (some (up2 I 88 4 0)).bind fun I1 => (some (up2 I1 88 5 0)).bind fun I2 => fX2_readOrders_L12 2000 (fun I8 => (if (I8 88 1) = 0 then some ((I8 88 1), I8) else (if (I8 88 5) = 0 then some ((-1), I8) else some ((I8 88 1), I8)))) x1 0 I2
set_option maxRecDepth 100000 in
set_option maxHeartbeats 4000000 in
theorem lX2_readOrders_L12 {X : Cx} {n : Nat} {Ly : LL} {P : PP} {Po : PQ} {r : Int32 × II} (F : Fx X RX2 cX2_readOrders 3 4 0 0) (hs : ShC n Ly P) (hr : Fr X (some .int) Po 0 0) (post : Po (some (.inl r.1)) n Ly r.2 P) {x1 : Int32} {ct : II → Option (Int32 × II)} (hct : ∀  (I : II), ct  I = some r → G X 3 0 0 n Ly 51 [some (.inr (some 88)), none, none] [] I P) : ∀ (k : Nat) (x2 : Int32) (I : II), fX2_readOrders_L12 k ct x1 x2 I = some r → G X 3 0 0 n Ly 12 [some (.inr (some 88)), some (.inl x1), some (.inl x2)] [] I P := by
  intro k
  induction k with
  | zero =>
    intro x2 I h
    cases h
  | succ k ih =>
    intro x2 I h
    rw [fX2_readOrders_L12] at h
    refine s_iload_n F dX2_readOrders_12 rfl ?_
    refine s_aload_n F dX2_readOrders_13 rfl ?_
    refine s_getI F dX2_readOrders_14 flX2_15 (ly88 hs) (lt88 hs) rfl ?_
    refine s_icmp_ge (tgt := 51) F dX2_readOrders_17 (by decide) (fun c3 => ?_) (fun c3 => ?_)
    · have h := if_t c3 h
      exact G.weak (by exact ⟨rfl, trivial⟩) (hct _ h)
    · have h := if_f c3 h
      refine s_iload_n F dX2_readOrders_20 rfl ?_
      refine s_aload_n F dX2_readOrders_21 rfl ?_
      refine s_getR F dX2_readOrders_22 flX2_9 (ly88 hs) (lt88 hs) rfl (p88_0 hs) ?_
      refine s_alen (v := 40) F dX2_readOrders_25 (ly89 hs) (by decide) (lt89 hs) (by decide) ?_
      refine s_icmp_ge (tgt := 51) F dX2_readOrders_26 (by decide) (fun c4 => ?_) (fun c4 => ?_)
      · have h := if_t c4 h
        exact G.weak (by exact ⟨rfl, trivial⟩) (hct _ h)
      · have h := if_f c4 h
        refine s_aload_n F dX2_readOrders_29 rfl ?_
        refine s_aload_n F dX2_readOrders_30 rfl ?_
        refine s_getR F dX2_readOrders_31 flX2_9 (ly88 hs) (lt88 hs) rfl (p88_0 hs) ?_
        refine s_iload_n F dX2_readOrders_34 rfl ?_
        obtain ⟨hc5, h⟩ := ck_s h
        refine s_cald F dX2_readOrders_35 (ly89 hs) (lt89 hs) (ix_s hc5) ?_
        refine s_iload_n F dX2_readOrders_36 rfl ?_
        obtain ⟨v6, hv6, h⟩ := bd_i h
        refine s_cV (ci := 2) F dX2_readOrders_37 (c_X2_takes hs hv6) lkX2_33 okX2_takes (by decide) (ly88 hs) (lt88 hs) rfl rfl (Nat.le_of_ble_eq_true rfl) (by decide) ?_
        refine s_if_ne (tgt := 45) F dX2_readOrders_40 (by decide) (fun c7 => ?_) (fun c7 => ?_)
        · have h := if_t c7 h
          refine s_inc (c := 1) F dX2_readOrders_45 rfl (by decide) (by decide) ?_
          refine s_goto (tgt := 12) F dX2_readOrders_48 (by decide) ?_
          exact G.weak (by exact ⟨rfl, ⟨rfl, ⟨rfl, trivial⟩⟩⟩) (ih _ _ h)
        · have h := if_f (not_not_intro c7) h
          refine s_iload_n F dX2_readOrders_43 rfl ?_
          have h := Option.some.inj h
          subst h
          exact s_iret F hr dX2_readOrders_44 rfl (Nat.le_refl _) (Nat.le_refl _) post
set_option maxRecDepth 100000 in
set_option maxHeartbeats 4000000 in
theorem bX2_readOrders {X : Cx} {n : Nat} {Ly : LL} {I : II} {P : PP} {Po : PQ} {r : Int32 × II} (F : Fx X RX2 cX2_readOrders 3 4 0 0) (hs : ShC n Ly P) (hr : Fr X (some .int) Po 0 0) (post : Po (some (.inl r.1)) n Ly r.2 P) {x1 : Int32} (h : fX2_readOrders I x1 = some r) : G X 3 0 0 n Ly 0 [some (.inr (some 88)), some (.inl x1), none] [] I P := by
  unfold fX2_readOrders at h
  refine s_aload_n F dX2_readOrders_0 rfl ?_
  refine s_iconst (v := 0) F dX2_readOrders_1 (by decide) ?_
  have h := bd_s h
  refine s_putI F dX2_readOrders_2 flX2_26 (ly88 hs) (lt88 hs) rfl rfl ⟨rfl, rfl⟩ ?_
  refine s_aload_n F dX2_readOrders_5 rfl ?_
  refine s_iconst (v := 0) F dX2_readOrders_6 (by decide) ?_
  have h := bd_s h
  refine s_putI F dX2_readOrders_7 flX2_29 (ly88 hs) (lt88 hs) rfl rfl (by exact ⟨rfl, rfl⟩) ?_
  refine s_iconst (v := 0) F dX2_readOrders_10 (by decide) ?_
  refine s_istore_n F dX2_readOrders_11 (by decide) ?_
  refine G.weak (by exact ⟨rfl, ⟨rfl, ⟨rfl, trivial⟩⟩⟩) (lX2_readOrders_L12 F hs hr post (fun I8 h => ?_) 2000 _ _ h)
  refine s_aload_n F dX2_readOrders_51 rfl ?_
  refine s_getI F dX2_readOrders_52 flX2_15 (ly88 hs) (lt88 hs) rfl ?_
  refine s_if_eq (tgt := 65) F dX2_readOrders_55 (by decide) (fun c9 => ?_) (fun c9 => ?_)
  · have h := if_t c9 h
    refine s_aload_n F dX2_readOrders_65 rfl ?_
    refine s_getI F dX2_readOrders_66 flX2_15 (ly88 hs) (lt88 hs) rfl ?_
    refine s_goto (tgt := 73) F dX2_readOrders_69 (by decide) ?_
    have h := Option.some.inj h
    subst h
    exact s_iret F hr dX2_readOrders_73 rfl (Nat.le_refl _) (Nat.le_refl _) post
  · have h := if_f c9 h
    refine s_aload_n F dX2_readOrders_58 rfl ?_
    refine s_getI F dX2_readOrders_59 flX2_29 (ly88 hs) (lt88 hs) rfl ?_
    refine s_if_eq (tgt := 72) F dX2_readOrders_62 (by decide) (fun c10 => ?_) (fun c10 => ?_)
    · have h := if_t c10 h
      refine s_iconst (v := (-1)) F dX2_readOrders_72 (by decide) ?_
      have h := Option.some.inj h
      subst h
      exact s_iret F hr dX2_readOrders_73 rfl (Nat.le_refl _) (Nat.le_refl _) post
    · have h := if_f c10 h
      refine s_aload_n F dX2_readOrders_65 rfl ?_
      refine s_getI F dX2_readOrders_66 flX2_15 (ly88 hs) (lt88 hs) rfl ?_
      refine s_goto (tgt := 73) F dX2_readOrders_69 (by decide) ?_
      have h := Option.some.inj h
      subst h
      exact s_iret F hr dX2_readOrders_73 rfl (Nat.le_refl _) (Nat.le_refl _) post
set_option maxRecDepth 100000 in
set_option maxHeartbeats 4000000 in
theorem c_X2_readOrders {n : Nat} {Ly : LL} {I : II} {P : PP} {r : Int32 × II} (hs : ShC n Ly P) {x1 : Int32} (h : fX2_readOrders I x1 = some r) (l : Launch) (s0 : Nat) (D : va_G) (DA : Nat → ClassId) : Ct l s0 D DA mX2_readOrders [.inr (some 88), .inl x1] 0 0 n Ly I P (PoD (some (.inl r.1)) n Ly r.2 P) := ct_of (by decide +kernel) (Nat.le_of_ble_eq_true rfl) (fun X F hr _ => bX2_readOrders F hs hr ⟨rfl, rfl, rfl, rfl, rfl⟩ h)
-- ChipPilers$State.allSteps
def fX4_allSteps_L4 : Nat → (Int32 → Option (Int32)) → Nat → II → Int32 → Int32 → Option (Int32)
  | 0, _, _, _, _, _ => none
  | k + 1, ct, b0, I, x1, x2 => (if (I b0 4) ≤ x2 then ct x1 else (fX4_walkerAt I b0 x2).bind fun v2 => (match v2 with | none => fX4_allSteps_L4 k ct b0 I (x1 + 0) (x2 + 1) | some a3 => fX4_allSteps_L4 k ct b0 I (x1 + (I a3 6)) (x2 + 1)))
def fX4_allSteps (I : II) (b0 : Nat) : Option (Int32) := fX4_allSteps_L4 2000 (fun z4 => some z4) b0 I 0 0
set_option maxRecDepth 100000 in
set_option maxHeartbeats 4000000 in
theorem lX4_allSteps_L4 {X : Cx} {n : Nat} {Ly : LL} {I : II} {P : PP} {Po : PQ} {r : Int32} (F : Fx X RX4 cX4_allSteps 4 2 0 0) (hs : ShC n Ly P) (hr : Fr X (some .int) Po 0 0) (post : Po (some (.inl r)) n Ly I P) {b0 : Nat} (hb0 : SB b0) {ct : Int32 → Option (Int32)} (hct : ∀ (x1 : Int32), ct x1 = some r → G X 4 0 0 n Ly 39 [none, some (.inl x1), none, none] [] I P) : ∀ (k : Nat) (x1 : Int32) (x2 : Int32), fX4_allSteps_L4 k ct b0 I x1 x2 = some r → G X 4 0 0 n Ly 4 [some (.inr (some b0)), some (.inl x1), some (.inl x2), none] [] I P := by
  intro k
  induction k with
  | zero =>
    intro x1 x2 h
    cases h
  | succ k ih =>
    intro x1 x2 h
    rw [fX4_allSteps_L4] at h
    refine s_iload_n F dX4_allSteps_4 rfl ?_
    refine s_aload_n F dX4_allSteps_5 rfl ?_
    refine s_getI F dX4_allSteps_6 flX4_28 (lyS hs hb0) (ltSb hs hb0) rfl ?_
    refine s_icmp_ge (tgt := 39) F dX4_allSteps_9 (by decide) (fun c1 => ?_) (fun c1 => ?_)
    · have h := if_t c1 h
      exact G.weak (by exact ⟨rfl, trivial⟩) (hct _ h)
    · have h := if_f c1 h
      refine s_aload_n F dX4_allSteps_12 rfl ?_
      refine s_iload_n F dX4_allSteps_13 rfl ?_
      obtain ⟨v2, hv2, h⟩ := bd_i h
      refine s_cV (ci := 4) F dX4_allSteps_14 (c_X4_walkerAt hs hb0 hv2) lkX4_51 okX4_walkerAt (by decide) (lyS hs hb0) (ltSb hs hb0) rfl rfl (Nat.le_of_ble_eq_true rfl) (by decide) ?_
      refine s_astore_n F dX4_allSteps_17 (by decide) ?_
      refine s_iload_n F dX4_allSteps_18 rfl ?_
      refine s_aload_n F dX4_allSteps_19 rfl ?_
      cases v2 with
      | none =>
        dsimp only at h
        refine s_ifnonnullN F dX4_allSteps_20 ?_
        refine s_iconst (v := 0) F dX4_allSteps_23 (by decide) ?_
        refine s_goto (tgt := 31) F dX4_allSteps_24 (by decide) ?_
        refine s_iadd F dX4_allSteps_31 ?_
        refine s_istore_n F dX4_allSteps_32 (by decide) ?_
        refine s_inc (c := 1) F dX4_allSteps_33 rfl (by decide) (by decide) ?_
        refine s_goto (tgt := 4) F dX4_allSteps_36 (by decide) ?_
        exact G.weak (by exact ⟨rfl, ⟨rfl, ⟨rfl, trivial⟩⟩⟩) (ih _ _ h)
      | some a3 =>
        dsimp only at h
        refine s_ifnonnull (tgt := 27) F dX4_allSteps_20 (by decide) ?_
        refine s_aload_n F dX4_allSteps_27 rfl ?_
        refine s_getI F dX4_allSteps_28 flX4_69 (lyW hs ((kdX4_walkerAt hs hb0 hv2) _ rfl)) (ltW hs ((kdX4_walkerAt hs hb0 hv2) _ rfl)) rfl ?_
        refine s_iadd F dX4_allSteps_31 ?_
        refine s_istore_n F dX4_allSteps_32 (by decide) ?_
        refine s_inc (c := 1) F dX4_allSteps_33 rfl (by decide) (by decide) ?_
        refine s_goto (tgt := 4) F dX4_allSteps_36 (by decide) ?_
        exact G.weak (by exact ⟨rfl, ⟨rfl, ⟨rfl, trivial⟩⟩⟩) (ih _ _ h)
set_option maxRecDepth 100000 in
set_option maxHeartbeats 4000000 in
theorem bX4_allSteps {X : Cx} {n : Nat} {Ly : LL} {I : II} {P : PP} {Po : PQ} {r : Int32} (F : Fx X RX4 cX4_allSteps 4 2 0 0) (hs : ShC n Ly P) (hr : Fr X (some .int) Po 0 0) (post : Po (some (.inl r)) n Ly I P) {b0 : Nat} (hb0 : SB b0) (h : fX4_allSteps I b0 = some r) : G X 4 0 0 n Ly 0 [some (.inr (some b0)), none, none, none] [] I P := by
  unfold fX4_allSteps at h
  refine s_iconst (v := 0) F dX4_allSteps_0 (by decide) ?_
  refine s_istore_n F dX4_allSteps_1 (by decide) ?_
  refine s_iconst (v := 0) F dX4_allSteps_2 (by decide) ?_
  refine s_istore_n F dX4_allSteps_3 (by decide) ?_
  refine G.weak (by exact ⟨rfl, ⟨rfl, ⟨rfl, trivial⟩⟩⟩) (lX4_allSteps_L4 F hs hr post hb0 (fun z4 h => ?_) 2000 _ _ h)
  refine s_iload_n F dX4_allSteps_39 rfl ?_
  have h := Option.some.inj h
  subst h
  exact s_iret F hr dX4_allSteps_40 rfl (Nat.le_refl _) (Nat.le_refl _) post
set_option maxRecDepth 100000 in
set_option maxHeartbeats 4000000 in
theorem c_X4_allSteps {n : Nat} {Ly : LL} {I : II} {P : PP} {r : Int32} (hs : ShC n Ly P) {b0 : Nat} (hb0 : SB b0) (h : fX4_allSteps I b0 = some r) (l : Launch) (s0 : Nat) (D : va_G) (DA : Nat → ClassId) : Ct l s0 D DA mX4_allSteps [.inr (some b0)] 0 0 n Ly I P (PoD (some (.inl r)) n Ly I P) := ct_of (by decide +kernel) (Nat.le_of_ble_eq_true rfl) (fun X F hr _ => bX4_allSteps F hs hr ⟨rfl, rfl, rfl, rfl, rfl⟩ hb0 h)
-- ChipPilers$Plan.letterOf
def fX2_letterOf (I : II) (x1 : Int32) : Option (Int32) := (if x1 < 0 then some 35 else (if (I 88 4) ≤ x1 then some 35 else (if 40 ≤ x1 then some 35 else ck (ix x1 40) (ck (bC (I 90 x1.toNatClampNeg)) (some (I 90 x1.toNatClampNeg))))))
set_option maxRecDepth 100000 in
set_option maxHeartbeats 4000000 in
theorem bX2_letterOf {X : Cx} {n : Nat} {Ly : LL} {I : II} {P : PP} {Po : PQ} {r : Int32} (F : Fx X RX2 cX2_letterOf 2 1 0 0) (hs : ShC n Ly P) (hr : Fr X (some .char) Po 0 0) (post : Po (some (.inl r)) n Ly I P) {x1 : Int32} (h : fX2_letterOf I x1 = some r) : G X 2 0 0 n Ly 0 [some (.inr (some 88)), some (.inl x1)] [] I P := by
  unfold fX2_letterOf at h
  refine s_iload_n F dX2_letterOf_0 rfl ?_
  refine s_if_lt (tgt := 30) F dX2_letterOf_1 (by decide) (fun c1 => ?_) (fun c1 => ?_)
  · have h := if_t c1 h
    refine s_bipush (v := 35) F dX2_letterOf_30 (by decide) ?_
    have h := Option.some.inj h
    subst h
    exact s_iret F hr dX2_letterOf_32 rfl (Nat.le_refl _) (Nat.le_refl _) post
  · have h := if_f c1 h
    refine s_iload_n F dX2_letterOf_4 rfl ?_
    refine s_aload_n F dX2_letterOf_5 rfl ?_
    refine s_getI F dX2_letterOf_6 flX2_26 (ly88 hs) (lt88 hs) rfl ?_
    refine s_icmp_ge (tgt := 30) F dX2_letterOf_9 (by decide) (fun c2 => ?_) (fun c2 => ?_)
    · have h := if_t c2 h
      refine s_bipush (v := 35) F dX2_letterOf_30 (by decide) ?_
      have h := Option.some.inj h
      subst h
      exact s_iret F hr dX2_letterOf_32 rfl (Nat.le_refl _) (Nat.le_refl _) post
    · have h := if_f c2 h
      refine s_iload_n F dX2_letterOf_12 rfl ?_
      refine s_aload_n F dX2_letterOf_13 rfl ?_
      refine s_getR F dX2_letterOf_14 flX2_19 (ly88 hs) (lt88 hs) rfl (p88_2 hs) ?_
      refine s_alen (v := 40) F dX2_letterOf_17 (ly90 hs) (by decide) (lt90 hs) (by decide) ?_
      refine s_icmp_ge (tgt := 30) F dX2_letterOf_18 (by decide) (fun c3 => ?_) (fun c3 => ?_)
      · have h := if_t c3 h
        refine s_bipush (v := 35) F dX2_letterOf_30 (by decide) ?_
        have h := Option.some.inj h
        subst h
        exact s_iret F hr dX2_letterOf_32 rfl (Nat.le_refl _) (Nat.le_refl _) post
      · have h := if_f c3 h
        refine s_aload_n F dX2_letterOf_21 rfl ?_
        refine s_getR F dX2_letterOf_22 flX2_19 (ly88 hs) (lt88 hs) rfl (p88_2 hs) ?_
        refine s_iload_n F dX2_letterOf_25 rfl ?_
        obtain ⟨hc4, h⟩ := ck_s h
        refine s_cald F dX2_letterOf_26 (ly90 hs) (lt90 hs) (ix_s hc4) ?_
        refine s_goto (tgt := 32) F dX2_letterOf_27 (by decide) ?_
        obtain ⟨hc5, h⟩ := ck_s h
        have h := Option.some.inj h
        subst h
        exact s_iret F hr dX2_letterOf_32 (bC_s hc5).2 (Nat.le_refl _) (Nat.le_refl _) post
set_option maxRecDepth 100000 in
set_option maxHeartbeats 4000000 in
theorem c_X2_letterOf {n : Nat} {Ly : LL} {I : II} {P : PP} {r : Int32} (hs : ShC n Ly P) {x1 : Int32} (h : fX2_letterOf I x1 = some r) (l : Launch) (s0 : Nat) (D : va_G) (DA : Nat → ClassId) : Ct l s0 D DA mX2_letterOf [.inr (some 88), .inl x1] 0 0 n Ly I P (PoD (some (.inl r)) n Ly I P) := ct_of (by decide +kernel) (Nat.le_of_ble_eq_true rfl) (fun X F hr _ => bX2_letterOf F hs hr ⟨rfl, rfl, rfl, rfl, rfl⟩ h)
-- ChipPilers$Plan.numberOf
def fX2_numberOf (I : II) (x1 : Int32) : Option (Int32) := (if x1 < 0 then some 0 else (if (I 88 4) ≤ x1 then some 0 else (if x1 < 40 then ck (ix x1 40) ((if ¬ (I 90 x1.toNatClampNeg) = 35 then ck (ix x1 40) (some (mx (I 91 x1.toNatClampNeg) 1)) else ck (ix x1 40) (some (I 91 x1.toNatClampNeg)))) else some 0)))
set_option maxRecDepth 100000 in
set_option maxHeartbeats 4000000 in
theorem bX2_numberOf {X : Cx} {n : Nat} {Ly : LL} {I : II} {P : PP} {Po : PQ} {r : Int32} (F : Fx X RX2 cX2_numberOf 2 1 0 0) (hs : ShC n Ly P) (hr : Fr X (some .int) Po 0 0) (post : Po (some (.inl r)) n Ly I P) {x1 : Int32} (h : fX2_numberOf I x1 = some r) : G X 2 0 0 n Ly 0 [some (.inr (some 88)), some (.inl x1)] [] I P := by
  unfold fX2_numberOf at h
  refine s_iload_n F dX2_numberOf_0 rfl ?_
  refine s_if_lt (tgt := 21) F dX2_numberOf_1 (by decide) (fun c1 => ?_) (fun c1 => ?_)
  · have h := if_t c1 h
    refine s_iconst (v := 0) F dX2_numberOf_21 (by decide) ?_
    have h := Option.some.inj h
    subst h
    exact s_iret F hr dX2_numberOf_22 rfl (Nat.le_refl _) (Nat.le_refl _) post
  · have h := if_f c1 h
    refine s_iload_n F dX2_numberOf_4 rfl ?_
    refine s_aload_n F dX2_numberOf_5 rfl ?_
    refine s_getI F dX2_numberOf_6 flX2_26 (ly88 hs) (lt88 hs) rfl ?_
    refine s_icmp_ge (tgt := 21) F dX2_numberOf_9 (by decide) (fun c2 => ?_) (fun c2 => ?_)
    · have h := if_t c2 h
      refine s_iconst (v := 0) F dX2_numberOf_21 (by decide) ?_
      have h := Option.some.inj h
      subst h
      exact s_iret F hr dX2_numberOf_22 rfl (Nat.le_refl _) (Nat.le_refl _) post
    · have h := if_f c2 h
      refine s_iload_n F dX2_numberOf_12 rfl ?_
      refine s_aload_n F dX2_numberOf_13 rfl ?_
      refine s_getR F dX2_numberOf_14 flX2_22 (ly88 hs) (lt88 hs) rfl (p88_3 hs) ?_
      refine s_alen (v := 40) F dX2_numberOf_17 (ly91 hs) (by decide) (lt91 hs) (by decide) ?_
      refine s_icmp_lt (tgt := 23) F dX2_numberOf_18 (by decide) (fun c3 => ?_) (fun c3 => ?_)
      · have h := if_t c3 h
        refine s_aload_n F dX2_numberOf_23 rfl ?_
        refine s_getR F dX2_numberOf_24 flX2_19 (ly88 hs) (lt88 hs) rfl (p88_2 hs) ?_
        refine s_iload_n F dX2_numberOf_27 rfl ?_
        obtain ⟨hc4, h⟩ := ck_s h
        refine s_cald F dX2_numberOf_28 (ly90 hs) (lt90 hs) (ix_s hc4) ?_
        refine s_bipush (v := 35) F dX2_numberOf_29 (by decide) ?_
        refine s_icmp_ne (tgt := 43) F dX2_numberOf_31 (by decide) (fun c5 => ?_) (fun c5 => ?_)
        · have h := if_t c5 h
          refine s_aload_n F dX2_numberOf_43 rfl ?_
          refine s_getR F dX2_numberOf_44 flX2_22 (ly88 hs) (lt88 hs) rfl (p88_3 hs) ?_
          refine s_iload_n F dX2_numberOf_47 rfl ?_
          obtain ⟨hc6, h⟩ := ck_s h
          refine s_iald F dX2_numberOf_48 (ly91 hs) (lt91 hs) (ix_s hc6) ?_
          refine s_iconst (v := 1) F dX2_numberOf_49 (by decide) ?_
          refine s_mx F dX2_numberOf_50 lkX2_55 (by decide) (Nat.le_of_ble_eq_true rfl) ?_
          have h := Option.some.inj h
          subst h
          exact s_iret F hr dX2_numberOf_53 rfl (Nat.le_refl _) (Nat.le_refl _) post
        · have h := if_f (not_not_intro c5) h
          refine s_aload_n F dX2_numberOf_34 rfl ?_
          refine s_getR F dX2_numberOf_35 flX2_22 (ly88 hs) (lt88 hs) rfl (p88_3 hs) ?_
          refine s_iload_n F dX2_numberOf_38 rfl ?_
          obtain ⟨hc7, h⟩ := ck_s h
          refine s_iald F dX2_numberOf_39 (ly91 hs) (lt91 hs) (ix_s hc7) ?_
          refine s_goto (tgt := 53) F dX2_numberOf_40 (by decide) ?_
          have h := Option.some.inj h
          subst h
          exact s_iret F hr dX2_numberOf_53 rfl (Nat.le_refl _) (Nat.le_refl _) post
      · have h := if_f c3 h
        refine s_iconst (v := 0) F dX2_numberOf_21 (by decide) ?_
        have h := Option.some.inj h
        subst h
        exact s_iret F hr dX2_numberOf_22 rfl (Nat.le_refl _) (Nat.le_refl _) post
set_option maxRecDepth 100000 in
set_option maxHeartbeats 4000000 in
theorem c_X2_numberOf {n : Nat} {Ly : LL} {I : II} {P : PP} {r : Int32} (hs : ShC n Ly P) {x1 : Int32} (h : fX2_numberOf I x1 = some r) (l : Launch) (s0 : Nat) (D : va_G) (DA : Nat → ClassId) : Ct l s0 D DA mX2_numberOf [.inr (some 88), .inl x1] 0 0 n Ly I P (PoD (some (.inl r)) n Ly I P) := ct_of (by decide +kernel) (Nat.le_of_ble_eq_true rfl) (fun X F hr _ => bX2_numberOf F hs hr ⟨rfl, rfl, rfl, rfl, rfl⟩ h)
-- ChipPilers$World.directionOf
def fX7_directionOf (x0 : Int32) : Option (Int32) := (if ¬ x0 = 110 then (if ¬ x0 = 101 then (if ¬ x0 = 115 then some 3 else some 2) else some 1) else some 0)
set_option maxRecDepth 100000 in
set_option maxHeartbeats 4000000 in
theorem bX7_directionOf {X : Cx} {n : Nat} {Ly : LL} {I : II} {P : PP} {Po : PQ} {r : Int32} (F : Fx X RX7 cX7_directionOf 1 1 0 0) (hs : ShC n Ly P) (hr : Fr X (some .int) Po 0 0) (post : Po (some (.inl r)) n Ly I P) {x0 : Int32} (h : fX7_directionOf x0 = some r) : G X 1 0 0 n Ly 0 [some (.inl x0)] [] I P := by
  unfold fX7_directionOf at h
  refine s_iload_n F dX7_directionOf_0 rfl ?_
  refine s_bipush (v := 110) F dX7_directionOf_1 (by decide) ?_
  refine s_icmp_ne (tgt := 8) F dX7_directionOf_3 (by decide) (fun c1 => ?_) (fun c1 => ?_)
  · have h := if_t c1 h
    refine s_iload_n F dX7_directionOf_8 rfl ?_
    refine s_bipush (v := 101) F dX7_directionOf_9 (by decide) ?_
    refine s_icmp_ne (tgt := 16) F dX7_directionOf_11 (by decide) (fun c2 => ?_) (fun c2 => ?_)
    · have h := if_t c2 h
      refine s_iload_n F dX7_directionOf_16 rfl ?_
      refine s_bipush (v := 115) F dX7_directionOf_17 (by decide) ?_
      refine s_icmp_ne (tgt := 26) F dX7_directionOf_19 (by decide) (fun c3 => ?_) (fun c3 => ?_)
      · have h := if_t c3 h
        refine s_iconst (v := 3) F dX7_directionOf_26 (by decide) ?_
        have h := Option.some.inj h
        subst h
        exact s_iret F hr dX7_directionOf_27 rfl (Nat.le_refl _) (Nat.le_refl _) post
      · have h := if_f (not_not_intro c3) h
        refine s_iconst (v := 2) F dX7_directionOf_22 (by decide) ?_
        refine s_goto (tgt := 27) F dX7_directionOf_23 (by decide) ?_
        have h := Option.some.inj h
        subst h
        exact s_iret F hr dX7_directionOf_27 rfl (Nat.le_refl _) (Nat.le_refl _) post
    · have h := if_f (not_not_intro c2) h
      refine s_iconst (v := 1) F dX7_directionOf_14 (by decide) ?_
      have h := Option.some.inj h
      subst h
      exact s_iret F hr dX7_directionOf_15 rfl (Nat.le_refl _) (Nat.le_refl _) post
  · have h := if_f (not_not_intro c1) h
    refine s_iconst (v := 0) F dX7_directionOf_6 (by decide) ?_
    have h := Option.some.inj h
    subst h
    exact s_iret F hr dX7_directionOf_7 rfl (Nat.le_refl _) (Nat.le_refl _) post
set_option maxRecDepth 100000 in
set_option maxHeartbeats 4000000 in
theorem c_X7_directionOf {n : Nat} {Ly : LL} {I : II} {P : PP} {r : Int32} (hs : ShC n Ly P) {x0 : Int32} (h : fX7_directionOf x0 = some r) (l : Launch) (s0 : Nat) (D : va_G) (DA : Nat → ClassId) : Ct l s0 D DA mX7_directionOf [.inl x0] 0 0 n Ly I P (PoD (some (.inl r)) n Ly I P) := ct_of (by decide +kernel) (Nat.le_of_ble_eq_true rfl) (fun X F hr _ => bX7_directionOf F hs hr ⟨rfl, rfl, rfl, rfl, rfl⟩ h)
-- ChipPilers$World.obey
def fX7_obey_L79 : Nat → (II → Option (II)) → Nat → Int32 → Int32 → Int32 → II → Option (II)
  | 0, _, _, _, _, _, _ => none
  | k + 1, ct, b1, x3, x5, x6, I => (if x3 ≤ x6 then ct I else (fX7_hasWall I b1 x5).bind fun v6 => (if ¬ v6 = 0 then ct I else (fX7_stepAhead I b1 x5).bind fun v8 => fX7_obey_L79 k ct b1 x3 x5 (x6 + 1) v8))
def fX7_obey (I : II) (b1 : Nat) (x2 : Int32) (x3 : Int32) : Option (II) := (fX7_chipsUnder I b1).bind fun v1 => (if ¬ x2 = 103 then (if ¬ x2 = 100 then (fX7_directionOf x2).bind fun v4 => fX7_obey_L79 2000 (fun I9 => some I9) b1 x3 v4 0 I else (fX7_pickUp I b1 (-(mn x3 (mn (I b1 3) (99 - v1))))).bind fun v10 => some v10) else (fX7_pickUp I b1 (mn x3 (mn v1 ((I b1 4) - (I b1 3))))).bind fun v11 => some v11)
set_option maxRecDepth 100000 in
set_option maxHeartbeats 4000000 in
theorem lX7_obey_L79 {X : Cx} {n : Nat} {Ly : LL} {P : PP} {Po : PQ} {r : II} (F : Fx X RX7 cX7_obey 7 5 0 0) (hs : ShC n Ly P) (hr : Fr X none Po 0 0) (post : Po none n Ly r P) {b1 : Nat} (hb1 : WB b1) {x3 : Int32} {x5 : Int32} {ct : II → Option (II)} (hct : ∀  (I : II), ct  I = some r → G X 7 0 0 n Ly 108 [none, none, none, none, none, none, none] [] I P) : ∀ (k : Nat) (x6 : Int32) (I : II), fX7_obey_L79 k ct b1 x3 x5 x6 I = some r → G X 7 0 0 n Ly 79 [some (.inr (some 1)), some (.inr (some b1)), none, some (.inl x3), none, some (.inl x5), some (.inl x6)] [] I P := by
  intro k
  induction k with
  | zero =>
    intro x6 I h
    cases h
  | succ k ih =>
    intro x6 I h
    rw [fX7_obey_L79] at h
    refine s_iload F dX7_obey_79 rfl ?_
    refine s_iload_n F dX7_obey_81 rfl ?_
    refine s_icmp_ge (tgt := 108) F dX7_obey_82 (by decide) (fun c5 => ?_) (fun c5 => ?_)
    · have h := if_t c5 h
      exact G.weak (by exact trivial) (hct _ h)
    · have h := if_f c5 h
      refine s_aload_n F dX7_obey_85 rfl ?_
      refine s_aload_n F dX7_obey_86 rfl ?_
      refine s_iload F dX7_obey_87 rfl ?_
      obtain ⟨v6, hv6, h⟩ := bd_i h
      refine s_cV (ci := 7) F dX7_obey_89 (c_X7_hasWall hs hb1 hv6) lkX7_116 okX7_hasWall (by decide) (ly1 hs) (lt1 hs) rfl rfl (Nat.le_of_ble_eq_true rfl) (by decide) ?_
      refine s_if_ne (tgt := 108) F dX7_obey_92 (by decide) (fun c7 => ?_) (fun c7 => ?_)
      · have h := if_t c7 h
        exact G.weak (by exact trivial) (hct _ h)
      · have h := if_f (not_not_intro c7) h
        refine s_aload_n F dX7_obey_95 rfl ?_
        refine s_aload_n F dX7_obey_96 rfl ?_
        refine s_iload F dX7_obey_97 rfl ?_
        obtain ⟨v8, hv8, h⟩ := bd_i h
        refine s_cV (ci := 7) F dX7_obey_99 (c_X7_stepAhead hs hb1 hv8) lkX7_123 okX7_stepAhead (by decide) (ly1 hs) (lt1 hs) rfl rfl (Nat.le_of_ble_eq_true rfl) (by decide) ?_
        refine s_inc (c := 1) F dX7_obey_102 rfl (by decide) (by decide) ?_
        refine s_goto (tgt := 79) F dX7_obey_105 (by decide) ?_
        exact G.weak (by exact ⟨rfl, ⟨rfl, ⟨rfl, ⟨rfl, ⟨rfl, trivial⟩⟩⟩⟩⟩) (ih _ _ h)
set_option maxRecDepth 100000 in
set_option maxHeartbeats 4000000 in
theorem bX7_obey {X : Cx} {n : Nat} {Ly : LL} {I : II} {P : PP} {Po : PQ} {r : II} (F : Fx X RX7 cX7_obey 7 5 0 0) (hs : ShC n Ly P) (hr : Fr X none Po 0 0) (post : Po none n Ly r P) {b1 : Nat} (hb1 : WB b1) {x2 : Int32} {x3 : Int32} (h : fX7_obey I b1 x2 x3 = some r) : G X 7 0 0 n Ly 0 [some (.inr (some 1)), some (.inr (some b1)), some (.inl x2), some (.inl x3), none, none, none] [] I P := by
  unfold fX7_obey at h
  refine s_aload_n F dX7_obey_0 rfl ?_
  refine s_aload_n F dX7_obey_1 rfl ?_
  obtain ⟨v1, hv1, h⟩ := bd_i h
  refine s_cV (ci := 7) F dX7_obey_2 (c_X7_chipsUnder hs hb1 hv1) lkX7_80 okX7_chipsUnder (by decide) (ly1 hs) (lt1 hs) rfl rfl (Nat.le_of_ble_eq_true rfl) (by decide) ?_
  refine s_istore F dX7_obey_5 (by decide) ?_
  refine s_iload_n F dX7_obey_7 rfl ?_
  refine s_bipush (v := 103) F dX7_obey_8 (by decide) ?_
  refine s_icmp_ne (tgt := 39) F dX7_obey_10 (by decide) (fun c2 => ?_) (fun c2 => ?_)
  · have h := if_t c2 h
    refine s_iload_n F dX7_obey_39 rfl ?_
    refine s_bipush (v := 100) F dX7_obey_40 (by decide) ?_
    refine s_icmp_ne (tgt := 70) F dX7_obey_42 (by decide) (fun c3 => ?_) (fun c3 => ?_)
    · have h := if_t c3 h
      refine s_iload_n F dX7_obey_70 rfl ?_
      obtain ⟨v4, hv4, h⟩ := bd_i h
      refine s_cS F dX7_obey_71 (c_X7_directionOf hs hv4) lkX7_138 okX7_directionOf rfl (Nat.le_of_ble_eq_true rfl) (by decide) ?_
      refine s_istore F dX7_obey_74 (by decide) ?_
      refine s_iconst (v := 0) F dX7_obey_76 (by decide) ?_
      refine s_istore F dX7_obey_77 (by decide) ?_
      refine G.weak (by exact ⟨rfl, ⟨rfl, ⟨rfl, ⟨rfl, ⟨rfl, trivial⟩⟩⟩⟩⟩) (lX7_obey_L79 F hs hr post hb1 (fun I9 h => ?_) 2000 _ _ h)
      have h := Option.some.inj h
      subst h
      exact s_vret F hr dX7_obey_108 (Nat.le_refl _) (Nat.le_refl _) post
    · have h := if_f (not_not_intro c3) h
      refine s_aload_n F dX7_obey_45 rfl ?_
      refine s_aload_n F dX7_obey_46 rfl ?_
      refine s_iload_n F dX7_obey_47 rfl ?_
      refine s_aload_n F dX7_obey_48 rfl ?_
      refine s_getI F dX7_obey_49 flX7_84 (lyW hs hb1) (ltW hs hb1) rfl ?_
      refine s_bipush (v := 99) F dX7_obey_52 (by decide) ?_
      refine s_iload F dX7_obey_54 rfl ?_
      refine s_isub F dX7_obey_56 ?_
      refine s_mn F dX7_obey_57 lkX7_130 (by decide) (Nat.le_of_ble_eq_true rfl) ?_
      refine s_mn F dX7_obey_60 lkX7_130 (by decide) (Nat.le_of_ble_eq_true rfl) ?_
      refine s_ineg F dX7_obey_63 ?_
      obtain ⟨v10, hv10, h⟩ := bd_i h
      refine s_cV (ci := 7) F dX7_obey_64 (c_X7_pickUp hs hb1 hv10) lkX7_135 okX7_pickUp (by decide) (ly1 hs) (lt1 hs) rfl rfl (Nat.le_of_ble_eq_true rfl) (by decide) ?_
      refine s_goto (tgt := 108) F dX7_obey_67 (by decide) ?_
      have h := Option.some.inj h
      subst h
      exact s_vret F hr dX7_obey_108 (Nat.le_refl _) (Nat.le_refl _) post
  · have h := if_f (not_not_intro c2) h
    refine s_aload_n F dX7_obey_13 rfl ?_
    refine s_aload_n F dX7_obey_14 rfl ?_
    refine s_iload_n F dX7_obey_15 rfl ?_
    refine s_iload F dX7_obey_16 rfl ?_
    refine s_aload_n F dX7_obey_18 rfl ?_
    refine s_getI F dX7_obey_19 flX7_127 (lyW hs hb1) (ltW hs hb1) rfl ?_
    refine s_aload_n F dX7_obey_22 rfl ?_
    refine s_getI F dX7_obey_23 flX7_84 (lyW hs hb1) (ltW hs hb1) rfl ?_
    refine s_isub F dX7_obey_26 ?_
    refine s_mn F dX7_obey_27 lkX7_130 (by decide) (Nat.le_of_ble_eq_true rfl) ?_
    refine s_mn F dX7_obey_30 lkX7_130 (by decide) (Nat.le_of_ble_eq_true rfl) ?_
    obtain ⟨v11, hv11, h⟩ := bd_i h
    refine s_cV (ci := 7) F dX7_obey_33 (c_X7_pickUp hs hb1 hv11) lkX7_135 okX7_pickUp (by decide) (ly1 hs) (lt1 hs) rfl rfl (Nat.le_of_ble_eq_true rfl) (by decide) ?_
    refine s_goto (tgt := 108) F dX7_obey_36 (by decide) ?_
    have h := Option.some.inj h
    subst h
    exact s_vret F hr dX7_obey_108 (Nat.le_refl _) (Nat.le_refl _) post
set_option maxRecDepth 100000 in
set_option maxHeartbeats 4000000 in
theorem c_X7_obey {n : Nat} {Ly : LL} {I : II} {P : PP} {r : II} (hs : ShC n Ly P) {b1 : Nat} (hb1 : WB b1) {x2 : Int32} {x3 : Int32} (h : fX7_obey I b1 x2 x3 = some r) (l : Launch) (s0 : Nat) (D : va_G) (DA : Nat → ClassId) : Ct l s0 D DA mX7_obey [.inr (some 1), .inr (some b1), .inl x2, .inl x3] 0 0 n Ly I P (PoD none n Ly r P) := ct_of (by decide +kernel) (Nat.le_of_ble_eq_true rfl) (fun X F hr _ => bX7_obey F hs hr ⟨rfl, rfl, rfl, rfl, rfl⟩ hb1 h)
-- ChipPilers$History.takeLatest
def fX1_takeLatest (I : II) (P : PP) : Option (Option Nat × II) := (fX1_stateAt P ((I 21 1) - 1)).bind fun v1 => (match v1 with | none => some (none, I) | some a2 => (some (up2 I 21 1 ((I 21 1) - 1))).bind fun I3 => some ((some a2), I3))
set_option maxRecDepth 100000 in
set_option maxHeartbeats 4000000 in
theorem bX1_takeLatest {X : Cx} {n : Nat} {Ly : LL} {I : II} {P : PP} {Po : PQ} {r : Option Nat × II} (F : Fx X RX1 cX1_takeLatest 2 2 0 0) (hs : ShC n Ly P) (hr : Fr X (some (.object "ChipPilers$State")) Po 0 0) (post : Po (some (.inr r.1)) n Ly r.2 P)  (h : fX1_takeLatest I P = some r) : G X 2 0 0 n Ly 0 [some (.inr (some 21)), none] [] I P := by
  unfold fX1_takeLatest at h
  refine s_aload_n F dX1_takeLatest_0 rfl ?_
  refine s_aload_n F dX1_takeLatest_1 rfl ?_
  refine s_getI F dX1_takeLatest_2 flX1_17 (ly21 hs) (lt21 hs) rfl ?_
  refine s_iconst (v := 1) F dX1_takeLatest_5 (by decide) ?_
  refine s_isub F dX1_takeLatest_6 ?_
  obtain ⟨v1, hv1, h⟩ := bd_i h
  refine s_cV (ci := 1) F dX1_takeLatest_7 (c_X1_stateAt hs hv1) lkX1_25 okX1_stateAt (by decide) (ly21 hs) (lt21 hs) rfl rfl (Nat.le_of_ble_eq_true rfl) (by decide) ?_
  refine s_astore_n F dX1_takeLatest_10 (by decide) ?_
  refine s_aload_n F dX1_takeLatest_11 rfl ?_
  cases v1 with
  | none =>
    dsimp only at h
    refine s_ifnullN (tgt := 25) F dX1_takeLatest_12 (by decide) ?_
    refine s_aload_n F dX1_takeLatest_25 rfl ?_
    have h := Option.some.inj h
    subst h
    exact s_aret F hr dX1_takeLatest_26 (Nat.le_refl _) (Nat.le_refl _) post
  | some a2 =>
    dsimp only at h
    refine s_ifnull F dX1_takeLatest_12 ?_
    refine s_aload_n F dX1_takeLatest_15 rfl ?_
    refine s_dup F dX1_takeLatest_16 ?_
    refine s_getI F dX1_takeLatest_17 flX1_17 (ly21 hs) (lt21 hs) rfl ?_
    refine s_iconst (v := 1) F dX1_takeLatest_20 (by decide) ?_
    refine s_isub F dX1_takeLatest_21 ?_
    have h := bd_s h
    refine s_putI F dX1_takeLatest_22 flX1_17 (ly21 hs) (lt21 hs) rfl rfl ⟨rfl, rfl⟩ ?_
    refine s_aload_n F dX1_takeLatest_25 rfl ?_
    have h := Option.some.inj h
    subst h
    exact s_aret F hr dX1_takeLatest_26 (Nat.le_refl _) (Nat.le_refl _) post
set_option maxRecDepth 100000 in
set_option maxHeartbeats 4000000 in
theorem c_X1_takeLatest {n : Nat} {Ly : LL} {I : II} {P : PP} {r : Option Nat × II} (hs : ShC n Ly P)  (h : fX1_takeLatest I P = some r) (l : Launch) (s0 : Nat) (D : va_G) (DA : Nat → ClassId) : Ct l s0 D DA mX1_takeLatest [.inr (some 21)] 0 0 n Ly I P (PoD (some (.inr r.1)) n Ly r.2 P) := ct_of (by decide +kernel) (Nat.le_of_ble_eq_true rfl) (fun X F hr _ => bX1_takeLatest F hs hr ⟨rfl, rfl, rfl, rfl, rfl⟩ h)
theorem kdX1_takeLatest {n : Nat} {Ly : LL} {P : PP} (hs : ShC n Ly P) {I : II} {r : Option Nat × II} (h : fX1_takeLatest I P = some r) : ∀ a, r.1 = some a → HB a := by
  intro a ha
  unfold fX1_takeLatest at h
  obtain ⟨v, hv, h⟩ := bd_i h
  cases v with
  | none =>
    dsimp only at h
    cases h
    cases ha
  | some b =>
    dsimp only at h
    have h := bd_s h
    cases h
    exact kdX1_stateAt hs hv a ha
-- ChipPilers$World.load
def fX7_load (I : II) (b1 : Nat) : Option (II) := (fX4_copyFrom I 2 b1).bind fun v1 => (fX0_forget v1).bind fun v2 => some v2
set_option maxRecDepth 100000 in
set_option maxHeartbeats 4000000 in
theorem bX7_load {X : Cx} {n : Nat} {Ly : LL} {I : II} {P : PP} {Po : PQ} {r : II} (F : Fx X RX7 cX7_load 2 3 0 0) (hs : ShC n Ly P) (hr : Fr X none Po 0 0) (post : Po none n Ly r P) {b1 : Nat} (hb1 : SB b1) (h : fX7_load I b1 = some r) : G X 2 0 0 n Ly 0 [some (.inr (some 1)), some (.inr (some b1))] [] I P := by
  unfold fX7_load at h
  refine s_aload_n F dX7_load_0 rfl ?_
  refine s_getR F dX7_load_1 flX7_12 (ly1 hs) (lt1 hs) rfl (p1_0 hs) ?_
  refine s_aload_n F dX7_load_4 rfl ?_
  obtain ⟨v1, hv1, h⟩ := bd_i h
  refine s_cV (ci := 4) F dX7_load_5 (c_X4_copyFrom hs sb2 hb1 hv1) lkX7_25 okX4_copyFrom (by decide) (lyS hs sb2) (ltSb hs sb2) rfl rfl (Nat.le_of_ble_eq_true rfl) (by decide) ?_
  refine s_aload_n F dX7_load_8 rfl ?_
  refine s_getR F dX7_load_9 flX7_21 (ly1 hs) (lt1 hs) rfl (p1_1 hs) ?_
  obtain ⟨v2, hv2, h⟩ := bd_i h
  refine s_cV (ci := 0) F dX7_load_12 (c_X0_forget hs hv2) lkX7_29 okX0_forget (by decide) (ly15 hs) (lt15 hs) rfl rfl (Nat.le_of_ble_eq_true rfl) (by decide) ?_
  have h := Option.some.inj h
  subst h
  exact s_vret F hr dX7_load_15 (Nat.le_refl _) (Nat.le_refl _) post
set_option maxRecDepth 100000 in
set_option maxHeartbeats 4000000 in
theorem c_X7_load {n : Nat} {Ly : LL} {I : II} {P : PP} {r : II} (hs : ShC n Ly P) {b1 : Nat} (hb1 : SB b1) (h : fX7_load I b1 = some r) (l : Launch) (s0 : Nat) (D : va_G) (DA : Nat → ClassId) : Ct l s0 D DA mX7_load [.inr (some 1), .inr (some b1)] 0 0 n Ly I P (PoD none n Ly r P) := ct_of (by decide +kernel) (Nat.le_of_ble_eq_true rfl) (fun X F hr _ => bX7_load F hs hr ⟨rfl, rfl, rfl, rfl, rfl⟩ hb1 h)
-- ChipPilers$State.allChips
def fX4_allChips_L4 : Nat → (Int32 → Option (Int32)) → Nat → II → Int32 → Int32 → Option (Int32)
  | 0, _, _, _, _, _ => none
  | k + 1, ct, b0, I, x1, x2 => (if 256 ≤ x2 then ct x1 else ck (ix x2 256) (fX4_allChips_L4 k ct b0 I (x1 + (I (b0 + 1) x2.toNatClampNeg)) (x2 + 1)))
def fX4_allChips (I : II) (b0 : Nat) : Option (Int32) := fX4_allChips_L4 2000 (fun z3 => some z3) b0 I 0 0
set_option maxRecDepth 100000 in
set_option maxHeartbeats 4000000 in
theorem lX4_allChips_L4 {X : Cx} {n : Nat} {Ly : LL} {I : II} {P : PP} {Po : PQ} {r : Int32} (F : Fx X RX4 cX4_allChips 3 1 0 0) (hs : ShC n Ly P) (hr : Fr X (some .int) Po 0 0) (post : Po (some (.inl r)) n Ly I P) {b0 : Nat} (hb0 : SB b0) {ct : Int32 → Option (Int32)} (hct : ∀ (x1 : Int32), ct x1 = some r → G X 3 0 0 n Ly 28 [none, some (.inl x1), none] [] I P) : ∀ (k : Nat) (x1 : Int32) (x2 : Int32), fX4_allChips_L4 k ct b0 I x1 x2 = some r → G X 3 0 0 n Ly 4 [some (.inr (some b0)), some (.inl x1), some (.inl x2)] [] I P := by
  intro k
  induction k with
  | zero =>
    intro x1 x2 h
    cases h
  | succ k ih =>
    intro x1 x2 h
    rw [fX4_allChips_L4] at h
    refine s_iload_n F dX4_allChips_4 rfl ?_
    refine s_aload_n F dX4_allChips_5 rfl ?_
    refine s_getR F dX4_allChips_6 flX4_18 (lyS hs hb0) (ltSb hs hb0) rfl (pS2 hs hb0) ?_
    refine s_alen (v := 256) F dX4_allChips_9 (lyS1 hs hb0) (by decide) (ltS1 hs hb0) (by decide) ?_
    refine s_icmp_ge (tgt := 28) F dX4_allChips_10 (by decide) (fun c1 => ?_) (fun c1 => ?_)
    · have h := if_t c1 h
      exact G.weak (by exact ⟨rfl, trivial⟩) (hct _ h)
    · have h := if_f c1 h
      refine s_iload_n F dX4_allChips_13 rfl ?_
      refine s_aload_n F dX4_allChips_14 rfl ?_
      refine s_getR F dX4_allChips_15 flX4_18 (lyS hs hb0) (ltSb hs hb0) rfl (pS2 hs hb0) ?_
      refine s_iload_n F dX4_allChips_18 rfl ?_
      obtain ⟨hc2, h⟩ := ck_s h
      refine s_iald F dX4_allChips_19 (lyS1 hs hb0) (ltS1 hs hb0) (ix_s hc2) ?_
      refine s_iadd F dX4_allChips_20 ?_
      refine s_istore_n F dX4_allChips_21 (by decide) ?_
      refine s_inc (c := 1) F dX4_allChips_22 rfl (by decide) (by decide) ?_
      refine s_goto (tgt := 4) F dX4_allChips_25 (by decide) ?_
      exact G.weak (by exact ⟨rfl, ⟨rfl, ⟨rfl, trivial⟩⟩⟩) (ih _ _ h)
set_option maxRecDepth 100000 in
set_option maxHeartbeats 4000000 in
theorem bX4_allChips {X : Cx} {n : Nat} {Ly : LL} {I : II} {P : PP} {Po : PQ} {r : Int32} (F : Fx X RX4 cX4_allChips 3 1 0 0) (hs : ShC n Ly P) (hr : Fr X (some .int) Po 0 0) (post : Po (some (.inl r)) n Ly I P) {b0 : Nat} (hb0 : SB b0) (h : fX4_allChips I b0 = some r) : G X 3 0 0 n Ly 0 [some (.inr (some b0)), none, none] [] I P := by
  unfold fX4_allChips at h
  refine s_iconst (v := 0) F dX4_allChips_0 (by decide) ?_
  refine s_istore_n F dX4_allChips_1 (by decide) ?_
  refine s_iconst (v := 0) F dX4_allChips_2 (by decide) ?_
  refine s_istore_n F dX4_allChips_3 (by decide) ?_
  refine G.weak (by exact ⟨rfl, ⟨rfl, ⟨rfl, trivial⟩⟩⟩) (lX4_allChips_L4 F hs hr post hb0 (fun z3 h => ?_) 2000 _ _ h)
  refine s_iload_n F dX4_allChips_28 rfl ?_
  have h := Option.some.inj h
  subst h
  exact s_iret F hr dX4_allChips_29 rfl (Nat.le_refl _) (Nat.le_refl _) post
set_option maxRecDepth 100000 in
set_option maxHeartbeats 4000000 in
theorem c_X4_allChips {n : Nat} {Ly : LL} {I : II} {P : PP} {r : Int32} (hs : ShC n Ly P) {b0 : Nat} (hb0 : SB b0) (h : fX4_allChips I b0 = some r) (l : Launch) (s0 : Nat) (D : va_G) (DA : Nat → ClassId) : Ct l s0 D DA mX4_allChips [.inr (some b0)] 0 0 n Ly I P (PoD (some (.inl r)) n Ly I P) := ct_of (by decide +kernel) (Nat.le_of_ble_eq_true rfl) (fun X F hr _ => bX4_allChips F hs hr ⟨rfl, rfl, rfl, rfl, rfl⟩ hb0 h)
-- ChipPilers$Heaps.placeOf
def fX0_placeOf_L4 : Nat → (Int32 → Option (Int32)) → Int32 → II → Int32 → Int32 → Option (Int32)
  | 0, _, _, _, _, _ => none
  | k + 1, ct, x1, I, x2, x3 => (if (I 15 5) ≤ x3 then ct x2 else (fX0_comesAhead I x3 x1).bind fun v2 => (if v2 = 0 then fX0_placeOf_L4 k ct x1 I x2 (x3 + 1) else fX0_placeOf_L4 k ct x1 I (x2 + 1) (x3 + 1)))
def fX0_placeOf (I : II) (x1 : Int32) : Option (Int32) := fX0_placeOf_L4 2000 (fun z4 => some z4) x1 I 0 0
set_option maxRecDepth 100000 in
set_option maxHeartbeats 4000000 in
theorem lX0_placeOf_L4 {X : Cx} {n : Nat} {Ly : LL} {I : II} {P : PP} {Po : PQ} {r : Int32} (F : Fx X RX0 cX0_placeOf 4 2 0 0) (hs : ShC n Ly P) (hr : Fr X (some .int) Po 0 0) (post : Po (some (.inl r)) n Ly I P) {x1 : Int32} {ct : Int32 → Option (Int32)} (hct : ∀ (x2 : Int32), ct x2 = some r → G X 4 0 0 n Ly 30 [none, none, some (.inl x2), none] [] I P) : ∀ (k : Nat) (x2 : Int32) (x3 : Int32), fX0_placeOf_L4 k ct x1 I x2 x3 = some r → G X 4 0 0 n Ly 4 [some (.inr (some 15)), some (.inl x1), some (.inl x2), some (.inl x3)] [] I P := by
  intro k
  induction k with
  | zero =>
    intro x2 x3 h
    cases h
  | succ k ih =>
    intro x2 x3 h
    rw [fX0_placeOf_L4] at h
    refine s_iload_n F dX0_placeOf_4 rfl ?_
    refine s_aload_n F dX0_placeOf_5 rfl ?_
    refine s_getI F dX0_placeOf_6 flX0_27 (ly15 hs) (lt15 hs) rfl ?_
    refine s_icmp_ge (tgt := 30) F dX0_placeOf_9 (by decide) (fun c1 => ?_) (fun c1 => ?_)
    · have h := if_t c1 h
      exact G.weak (by exact ⟨rfl, trivial⟩) (hct _ h)
    · have h := if_f c1 h
      refine s_aload_n F dX0_placeOf_12 rfl ?_
      refine s_iload_n F dX0_placeOf_13 rfl ?_
      refine s_iload_n F dX0_placeOf_14 rfl ?_
      obtain ⟨v2, hv2, h⟩ := bd_i h
      refine s_cV (ci := 0) F dX0_placeOf_15 (c_X0_comesAhead hs hv2) lkX0_52 okX0_comesAhead (by decide) (ly15 hs) (lt15 hs) rfl rfl (Nat.le_of_ble_eq_true rfl) (by decide) ?_
      refine s_if_eq (tgt := 24) F dX0_placeOf_18 (by decide) (fun c3 => ?_) (fun c3 => ?_)
      · have h := if_t c3 h
        refine s_inc (c := 1) F dX0_placeOf_24 rfl (by decide) (by decide) ?_
        refine s_goto (tgt := 4) F dX0_placeOf_27 (by decide) ?_
        exact G.weak (by exact ⟨rfl, ⟨rfl, ⟨rfl, ⟨rfl, trivial⟩⟩⟩⟩) (ih _ _ h)
      · have h := if_f c3 h
        refine s_inc (c := 1) F dX0_placeOf_21 rfl (by decide) (by decide) ?_
        refine s_inc (c := 1) F dX0_placeOf_24 rfl (by decide) (by decide) ?_
        refine s_goto (tgt := 4) F dX0_placeOf_27 (by decide) ?_
        exact G.weak (by exact ⟨rfl, ⟨rfl, ⟨rfl, ⟨rfl, trivial⟩⟩⟩⟩) (ih _ _ h)
set_option maxRecDepth 100000 in
set_option maxHeartbeats 4000000 in
theorem bX0_placeOf {X : Cx} {n : Nat} {Ly : LL} {I : II} {P : PP} {Po : PQ} {r : Int32} (F : Fx X RX0 cX0_placeOf 4 2 0 0) (hs : ShC n Ly P) (hr : Fr X (some .int) Po 0 0) (post : Po (some (.inl r)) n Ly I P) {x1 : Int32} (h : fX0_placeOf I x1 = some r) : G X 4 0 0 n Ly 0 [some (.inr (some 15)), some (.inl x1), none, none] [] I P := by
  unfold fX0_placeOf at h
  refine s_iconst (v := 0) F dX0_placeOf_0 (by decide) ?_
  refine s_istore_n F dX0_placeOf_1 (by decide) ?_
  refine s_iconst (v := 0) F dX0_placeOf_2 (by decide) ?_
  refine s_istore_n F dX0_placeOf_3 (by decide) ?_
  refine G.weak (by exact ⟨rfl, ⟨rfl, ⟨rfl, ⟨rfl, trivial⟩⟩⟩⟩) (lX0_placeOf_L4 F hs hr post (fun z4 h => ?_) 2000 _ _ h)
  refine s_iload_n F dX0_placeOf_30 rfl ?_
  have h := Option.some.inj h
  subst h
  exact s_iret F hr dX0_placeOf_31 rfl (Nat.le_refl _) (Nat.le_refl _) post
set_option maxRecDepth 100000 in
set_option maxHeartbeats 4000000 in
theorem c_X0_placeOf {n : Nat} {Ly : LL} {I : II} {P : PP} {r : Int32} (hs : ShC n Ly P) {x1 : Int32} (h : fX0_placeOf I x1 = some r) (l : Launch) (s0 : Nat) (D : va_G) (DA : Nat → ClassId) : Ct l s0 D DA mX0_placeOf [.inr (some 15), .inl x1] 0 0 n Ly I P (PoD (some (.inl r)) n Ly I P) := ct_of (by decide +kernel) (Nat.le_of_ble_eq_true rfl) (fun X F hr _ => bX0_placeOf F hs hr ⟨rfl, rfl, rfl, rfl, rfl⟩ h)
-- ChipPilers$Heaps.heapAt
def fX0_heapAt_L2 : Nat → (Unit → Option (Int32)) → Int32 → II → Int32 → Option (Int32)
  | 0, _, _, _, _ => none
  | k + 1, ct, x1, I, x2 => (if (I 15 5) ≤ x2 then ct () else (fX0_placeOf I x2).bind fun v2 => (if ¬ v2 = x1 then fX0_heapAt_L2 k ct x1 I (x2 + 1) else some x2))
def fX0_heapAt (I : II) (x1 : Int32) : Option (Int32) := fX0_heapAt_L2 2000 (fun _ => some (-1)) x1 I 0
set_option maxRecDepth 100000 in
set_option maxHeartbeats 4000000 in
theorem lX0_heapAt_L2 {X : Cx} {n : Nat} {Ly : LL} {I : II} {P : PP} {Po : PQ} {r : Int32} (F : Fx X RX0 cX0_heapAt 3 3 0 0) (hs : ShC n Ly P) (hr : Fr X (some .int) Po 0 0) (post : Po (some (.inl r)) n Ly I P) {x1 : Int32} {ct : Unit → Option (Int32)} (hct : ∀ (u : Unit), ct u = some r → G X 3 0 0 n Ly 27 [none, none, none] [] I P) : ∀ (k : Nat) (x2 : Int32), fX0_heapAt_L2 k ct x1 I x2 = some r → G X 3 0 0 n Ly 2 [some (.inr (some 15)), some (.inl x1), some (.inl x2)] [] I P := by
  intro k
  induction k with
  | zero =>
    intro x2 h
    cases h
  | succ k ih =>
    intro x2 h
    rw [fX0_heapAt_L2] at h
    refine s_iload_n F dX0_heapAt_2 rfl ?_
    refine s_aload_n F dX0_heapAt_3 rfl ?_
    refine s_getI F dX0_heapAt_4 flX0_27 (ly15 hs) (lt15 hs) rfl ?_
    refine s_icmp_ge (tgt := 27) F dX0_heapAt_7 (by decide) (fun c1 => ?_) (fun c1 => ?_)
    · have h := if_t c1 h
      exact G.weak (by exact trivial) (hct () h)
    · have h := if_f c1 h
      refine s_aload_n F dX0_heapAt_10 rfl ?_
      refine s_iload_n F dX0_heapAt_11 rfl ?_
      obtain ⟨v2, hv2, h⟩ := bd_i h
      refine s_cV (ci := 0) F dX0_heapAt_12 (c_X0_placeOf hs hv2) lkX0_56 okX0_placeOf (by decide) (ly15 hs) (lt15 hs) rfl rfl (Nat.le_of_ble_eq_true rfl) (by decide) ?_
      refine s_iload_n F dX0_heapAt_15 rfl ?_
      refine s_icmp_ne (tgt := 21) F dX0_heapAt_16 (by decide) (fun c3 => ?_) (fun c3 => ?_)
      · have h := if_t c3 h
        refine s_inc (c := 1) F dX0_heapAt_21 rfl (by decide) (by decide) ?_
        refine s_goto (tgt := 2) F dX0_heapAt_24 (by decide) ?_
        exact G.weak (by exact ⟨rfl, ⟨rfl, ⟨rfl, trivial⟩⟩⟩) (ih _ h)
      · have h := if_f (not_not_intro c3) h
        refine s_iload_n F dX0_heapAt_19 rfl ?_
        have h := Option.some.inj h
        subst h
        exact s_iret F hr dX0_heapAt_20 rfl (Nat.le_refl _) (Nat.le_refl _) post
set_option maxRecDepth 100000 in
set_option maxHeartbeats 4000000 in
theorem bX0_heapAt {X : Cx} {n : Nat} {Ly : LL} {I : II} {P : PP} {Po : PQ} {r : Int32} (F : Fx X RX0 cX0_heapAt 3 3 0 0) (hs : ShC n Ly P) (hr : Fr X (some .int) Po 0 0) (post : Po (some (.inl r)) n Ly I P) {x1 : Int32} (h : fX0_heapAt I x1 = some r) : G X 3 0 0 n Ly 0 [some (.inr (some 15)), some (.inl x1), none] [] I P := by
  unfold fX0_heapAt at h
  refine s_iconst (v := 0) F dX0_heapAt_0 (by decide) ?_
  refine s_istore_n F dX0_heapAt_1 (by decide) ?_
  refine G.weak (by exact ⟨rfl, ⟨rfl, ⟨rfl, trivial⟩⟩⟩) (lX0_heapAt_L2 F hs hr post (fun _ h => ?_) 2000 _ h)
  refine s_iconst (v := (-1)) F dX0_heapAt_27 (by decide) ?_
  have h := Option.some.inj h
  subst h
  exact s_iret F hr dX0_heapAt_28 rfl (Nat.le_refl _) (Nat.le_refl _) post
set_option maxRecDepth 100000 in
set_option maxHeartbeats 4000000 in
theorem c_X0_heapAt {n : Nat} {Ly : LL} {I : II} {P : PP} {r : Int32} (hs : ShC n Ly P) {x1 : Int32} (h : fX0_heapAt I x1 = some r) (l : Launch) (s0 : Nat) (D : va_G) (DA : Nat → ClassId) : Ct l s0 D DA mX0_heapAt [.inr (some 15), .inl x1] 0 0 n Ly I P (PoD (some (.inl r)) n Ly I P) := ct_of (by decide +kernel) (Nat.le_of_ble_eq_true rfl) (fun X F hr _ => bX0_heapAt F hs hr ⟨rfl, rfl, rfl, rfl, rfl⟩ h)
-- ChipPilers$Heaps.mostChips
def fX0_mostChips_L5 : Nat → (Int32 → Option (Int32)) → Nat → Int32 → II → Int32 → Int32 → Option (Int32)
  | 0, _, _, _, _, _, _ => none
  | k + 1, ct, b1, x2, I, x3, x4 => (if 256 ≤ x4 then ct x3 else (if 256 ≤ x4 then ct x3 else ck (ix x4 256) ((if ¬ (I 19 x4.toNatClampNeg) = x2 then fX0_mostChips_L5 k ct b1 x2 I x3 (x4 + 1) else ck (ix x4 256) (fX0_mostChips_L5 k ct b1 x2 I (mx x3 (I b1 x4.toNatClampNeg)) (x4 + 1))))))
def fX0_mostChips (I : II) (b1 : Nat) (x2 : Int32) : Option (Int32) := fX0_mostChips_L5 2000 (fun z6 => some z6) b1 x2 I 0 0
set_option maxRecDepth 100000 in
set_option maxHeartbeats 4000000 in
theorem lX0_mostChips_L5 {X : Cx} {n : Nat} {Ly : LL} {I : II} {P : PP} {Po : PQ} {r : Int32} (F : Fx X RX0 cX0_mostChips 5 1 0 0) (hs : ShC n Ly P) (hr : Fr X (some .int) Po 0 0) (post : Po (some (.inl r)) n Ly I P) {b1 : Nat} (hb1 : AB b1) {x2 : Int32} {ct : Int32 → Option (Int32)} (hct : ∀ (x3 : Int32), ct x3 = some r → G X 5 0 0 n Ly 46 [none, none, none, some (.inl x3), none] [] I P) : ∀ (k : Nat) (x3 : Int32) (x4 : Int32), fX0_mostChips_L5 k ct b1 x2 I x3 x4 = some r → G X 5 0 0 n Ly 5 [some (.inr (some 15)), some (.inr (some b1)), some (.inl x2), some (.inl x3), some (.inl x4)] [] I P := by
  intro k
  induction k with
  | zero =>
    intro x3 x4 h
    cases h
  | succ k ih =>
    intro x3 x4 h
    rw [fX0_mostChips_L5] at h
    refine s_iload F dX0_mostChips_5 rfl ?_
    refine s_sipush (v := 256) F dX0_mostChips_7 (by decide) ?_
    refine s_icmp_ge (tgt := 46) F dX0_mostChips_10 (by decide) (fun c1 => ?_) (fun c1 => ?_)
    · have h := if_t c1 h
      exact G.weak (by exact ⟨rfl, trivial⟩) (hct _ h)
    · have h := if_f c1 h
      refine s_iload F dX0_mostChips_13 rfl ?_
      refine s_aload_n F dX0_mostChips_15 rfl ?_
      refine s_alen (v := 256) F dX0_mostChips_16 (lyA hs hb1) (by decide) (ltA hs hb1) (by decide) ?_
      refine s_icmp_ge (tgt := 46) F dX0_mostChips_17 (by decide) (fun c2 => ?_) (fun c2 => ?_)
      · have h := if_t c2 h
        exact G.weak (by exact ⟨rfl, trivial⟩) (hct _ h)
      · have h := if_f c2 h
        refine s_aload_n F dX0_mostChips_20 rfl ?_
        refine s_getR F dX0_mostChips_21 flX0_21 (ly15 hs) (lt15 hs) rfl (p15_3 hs) ?_
        refine s_iload F dX0_mostChips_24 rfl ?_
        obtain ⟨hc3, h⟩ := ck_s h
        refine s_iald F dX0_mostChips_26 (ly19 hs) (lt19 hs) (ix_s hc3) ?_
        refine s_iload_n F dX0_mostChips_27 rfl ?_
        refine s_icmp_ne (tgt := 40) F dX0_mostChips_28 (by decide) (fun c4 => ?_) (fun c4 => ?_)
        · have h := if_t c4 h
          refine s_inc (c := 1) F dX0_mostChips_40 rfl (by decide) (by decide) ?_
          refine s_goto (tgt := 5) F dX0_mostChips_43 (by decide) ?_
          exact G.weak (by exact ⟨rfl, ⟨rfl, ⟨rfl, ⟨rfl, ⟨rfl, trivial⟩⟩⟩⟩⟩) (ih _ _ h)
        · have h := if_f (not_not_intro c4) h
          refine s_iload_n F dX0_mostChips_31 rfl ?_
          refine s_aload_n F dX0_mostChips_32 rfl ?_
          refine s_iload F dX0_mostChips_33 rfl ?_
          obtain ⟨hc5, h⟩ := ck_s h
          refine s_iald F dX0_mostChips_35 (lyA hs hb1) (ltA hs hb1) (ix_s hc5) ?_
          refine s_mx F dX0_mostChips_36 lkX0_60 (by decide) (Nat.le_of_ble_eq_true rfl) ?_
          refine s_istore_n F dX0_mostChips_39 (by decide) ?_
          refine s_inc (c := 1) F dX0_mostChips_40 rfl (by decide) (by decide) ?_
          refine s_goto (tgt := 5) F dX0_mostChips_43 (by decide) ?_
          exact G.weak (by exact ⟨rfl, ⟨rfl, ⟨rfl, ⟨rfl, ⟨rfl, trivial⟩⟩⟩⟩⟩) (ih _ _ h)
set_option maxRecDepth 100000 in
set_option maxHeartbeats 4000000 in
theorem bX0_mostChips {X : Cx} {n : Nat} {Ly : LL} {I : II} {P : PP} {Po : PQ} {r : Int32} (F : Fx X RX0 cX0_mostChips 5 1 0 0) (hs : ShC n Ly P) (hr : Fr X (some .int) Po 0 0) (post : Po (some (.inl r)) n Ly I P) {b1 : Nat} (hb1 : AB b1) {x2 : Int32} (h : fX0_mostChips I b1 x2 = some r) : G X 5 0 0 n Ly 0 [some (.inr (some 15)), some (.inr (some b1)), some (.inl x2), none, none] [] I P := by
  unfold fX0_mostChips at h
  refine s_iconst (v := 0) F dX0_mostChips_0 (by decide) ?_
  refine s_istore_n F dX0_mostChips_1 (by decide) ?_
  refine s_iconst (v := 0) F dX0_mostChips_2 (by decide) ?_
  refine s_istore F dX0_mostChips_3 (by decide) ?_
  refine G.weak (by exact ⟨rfl, ⟨rfl, ⟨rfl, ⟨rfl, ⟨rfl, trivial⟩⟩⟩⟩⟩) (lX0_mostChips_L5 F hs hr post hb1 (fun z6 h => ?_) 2000 _ _ h)
  refine s_iload_n F dX0_mostChips_46 rfl ?_
  have h := Option.some.inj h
  subst h
  exact s_iret F hr dX0_mostChips_47 rfl (Nat.le_refl _) (Nat.le_refl _) post
set_option maxRecDepth 100000 in
set_option maxHeartbeats 4000000 in
theorem c_X0_mostChips {n : Nat} {Ly : LL} {I : II} {P : PP} {r : Int32} (hs : ShC n Ly P) {b1 : Nat} (hb1 : AB b1) {x2 : Int32} (h : fX0_mostChips I b1 x2 = some r) (l : Launch) (s0 : Nat) (D : va_G) (DA : Nat → ClassId) : Ct l s0 D DA mX0_mostChips [.inr (some 15), .inr (some b1), .inl x2] 0 0 n Ly I P (PoD (some (.inl r)) n Ly I P) := ct_of (by decide +kernel) (Nat.le_of_ble_eq_true rfl) (fun X F hr _ => bX0_mostChips F hs hr ⟨rfl, rfl, rfl, rfl, rfl⟩ hb1 h)
-- ChipPilers$State.allPockets
def fX4_allPockets_L4 : Nat → (Int32 → Option (Int32)) → Nat → II → Int32 → Int32 → Option (Int32)
  | 0, _, _, _, _, _ => none
  | k + 1, ct, b0, I, x1, x2 => (if (I b0 4) ≤ x2 then ct x1 else (fX4_walkerAt I b0 x2).bind fun v2 => (match v2 with | none => fX4_allPockets_L4 k ct b0 I (x1 + 0) (x2 + 1) | some a3 => fX4_allPockets_L4 k ct b0 I (x1 + (I a3 3)) (x2 + 1)))
def fX4_allPockets (I : II) (b0 : Nat) : Option (Int32) := fX4_allPockets_L4 2000 (fun z4 => some z4) b0 I 0 0
set_option maxRecDepth 100000 in
set_option maxHeartbeats 4000000 in
theorem lX4_allPockets_L4 {X : Cx} {n : Nat} {Ly : LL} {I : II} {P : PP} {Po : PQ} {r : Int32} (F : Fx X RX4 cX4_allPockets 4 2 0 0) (hs : ShC n Ly P) (hr : Fr X (some .int) Po 0 0) (post : Po (some (.inl r)) n Ly I P) {b0 : Nat} (hb0 : SB b0) {ct : Int32 → Option (Int32)} (hct : ∀ (x1 : Int32), ct x1 = some r → G X 4 0 0 n Ly 39 [none, some (.inl x1), none, none] [] I P) : ∀ (k : Nat) (x1 : Int32) (x2 : Int32), fX4_allPockets_L4 k ct b0 I x1 x2 = some r → G X 4 0 0 n Ly 4 [some (.inr (some b0)), some (.inl x1), some (.inl x2), none] [] I P := by
  intro k
  induction k with
  | zero =>
    intro x1 x2 h
    cases h
  | succ k ih =>
    intro x1 x2 h
    rw [fX4_allPockets_L4] at h
    refine s_iload_n F dX4_allPockets_4 rfl ?_
    refine s_aload_n F dX4_allPockets_5 rfl ?_
    refine s_getI F dX4_allPockets_6 flX4_28 (lyS hs hb0) (ltSb hs hb0) rfl ?_
    refine s_icmp_ge (tgt := 39) F dX4_allPockets_9 (by decide) (fun c1 => ?_) (fun c1 => ?_)
    · have h := if_t c1 h
      exact G.weak (by exact ⟨rfl, trivial⟩) (hct _ h)
    · have h := if_f c1 h
      refine s_aload_n F dX4_allPockets_12 rfl ?_
      refine s_iload_n F dX4_allPockets_13 rfl ?_
      obtain ⟨v2, hv2, h⟩ := bd_i h
      refine s_cV (ci := 4) F dX4_allPockets_14 (c_X4_walkerAt hs hb0 hv2) lkX4_51 okX4_walkerAt (by decide) (lyS hs hb0) (ltSb hs hb0) rfl rfl (Nat.le_of_ble_eq_true rfl) (by decide) ?_
      refine s_astore_n F dX4_allPockets_17 (by decide) ?_
      refine s_iload_n F dX4_allPockets_18 rfl ?_
      refine s_aload_n F dX4_allPockets_19 rfl ?_
      cases v2 with
      | none =>
        dsimp only at h
        refine s_ifnonnullN F dX4_allPockets_20 ?_
        refine s_iconst (v := 0) F dX4_allPockets_23 (by decide) ?_
        refine s_goto (tgt := 31) F dX4_allPockets_24 (by decide) ?_
        refine s_iadd F dX4_allPockets_31 ?_
        refine s_istore_n F dX4_allPockets_32 (by decide) ?_
        refine s_inc (c := 1) F dX4_allPockets_33 rfl (by decide) (by decide) ?_
        refine s_goto (tgt := 4) F dX4_allPockets_36 (by decide) ?_
        exact G.weak (by exact ⟨rfl, ⟨rfl, ⟨rfl, trivial⟩⟩⟩) (ih _ _ h)
      | some a3 =>
        dsimp only at h
        refine s_ifnonnull (tgt := 27) F dX4_allPockets_20 (by decide) ?_
        refine s_aload_n F dX4_allPockets_27 rfl ?_
        refine s_getI F dX4_allPockets_28 flX4_66 (lyW hs ((kdX4_walkerAt hs hb0 hv2) _ rfl)) (ltW hs ((kdX4_walkerAt hs hb0 hv2) _ rfl)) rfl ?_
        refine s_iadd F dX4_allPockets_31 ?_
        refine s_istore_n F dX4_allPockets_32 (by decide) ?_
        refine s_inc (c := 1) F dX4_allPockets_33 rfl (by decide) (by decide) ?_
        refine s_goto (tgt := 4) F dX4_allPockets_36 (by decide) ?_
        exact G.weak (by exact ⟨rfl, ⟨rfl, ⟨rfl, trivial⟩⟩⟩) (ih _ _ h)
set_option maxRecDepth 100000 in
set_option maxHeartbeats 4000000 in
theorem bX4_allPockets {X : Cx} {n : Nat} {Ly : LL} {I : II} {P : PP} {Po : PQ} {r : Int32} (F : Fx X RX4 cX4_allPockets 4 2 0 0) (hs : ShC n Ly P) (hr : Fr X (some .int) Po 0 0) (post : Po (some (.inl r)) n Ly I P) {b0 : Nat} (hb0 : SB b0) (h : fX4_allPockets I b0 = some r) : G X 4 0 0 n Ly 0 [some (.inr (some b0)), none, none, none] [] I P := by
  unfold fX4_allPockets at h
  refine s_iconst (v := 0) F dX4_allPockets_0 (by decide) ?_
  refine s_istore_n F dX4_allPockets_1 (by decide) ?_
  refine s_iconst (v := 0) F dX4_allPockets_2 (by decide) ?_
  refine s_istore_n F dX4_allPockets_3 (by decide) ?_
  refine G.weak (by exact ⟨rfl, ⟨rfl, ⟨rfl, trivial⟩⟩⟩) (lX4_allPockets_L4 F hs hr post hb0 (fun z4 h => ?_) 2000 _ _ h)
  refine s_iload_n F dX4_allPockets_39 rfl ?_
  have h := Option.some.inj h
  subst h
  exact s_iret F hr dX4_allPockets_40 rfl (Nat.le_refl _) (Nat.le_refl _) post
set_option maxRecDepth 100000 in
set_option maxHeartbeats 4000000 in
theorem c_X4_allPockets {n : Nat} {Ly : LL} {I : II} {P : PP} {r : Int32} (hs : ShC n Ly P) {b0 : Nat} (hb0 : SB b0) (h : fX4_allPockets I b0 = some r) (l : Launch) (s0 : Nat) (D : va_G) (DA : Nat → ClassId) : Ct l s0 D DA mX4_allPockets [.inr (some b0)] 0 0 n Ly I P (PoD (some (.inl r)) n Ly I P) := ct_of (by decide +kernel) (Nat.le_of_ble_eq_true rfl) (fun X F hr _ => bX4_allPockets F hs hr ⟨rfl, rfl, rfl, rfl, rfl⟩ hb0 h)
