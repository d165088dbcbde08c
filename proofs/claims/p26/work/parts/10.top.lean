-- ChipPilers.reset
def fX8_reset (I : II) (P : PP) (x1 : Int32) (x2 : Int32) : Option (Int32 × II × PP) := (fX8_isBetween x1 2 16).bind fun v1 => (if v1 = 0 then some ((-2), I, P) else (fX8_isBetween x2 2 16).bind fun v3 => (if ¬ v3 = 0 then (fX1_record I P 2).bind fun v5 => (fX7_clearBoard v5.1 x1 x2).bind fun v6 => some ((x1 * x2), v6, v5.2) else some ((-2), I, P)))
set_option maxRecDepth 100000 in
set_option maxHeartbeats 4000000 in
theorem bX8_reset {X : Cx} {n : Nat} {Ly : LL} {I : II} {P : PP} {Po : PQ} {r : Int32 × II × PP} (F : Fx X RX8 cX8_reset 3 4 0 0) (hs : ShC n Ly P) (hr : Fr X (some .int) Po 0 0) (post : Po (some (.inl r.1)) n Ly r.2.1 r.2.2) {x1 : Int32} {x2 : Int32} (h : fX8_reset I P x1 x2 = some r) : G X 3 0 0 n Ly 0 [some (.inr (some 0)), some (.inl x1), some (.inl x2)] [] I P := by
  unfold fX8_reset at h
  refine s_iload_n F dX8_reset_0 rfl ?_
  refine s_iconst (v := 2) F dX8_reset_1 (by decide) ?_
  refine s_bipush (v := 16) F dX8_reset_2 (by decide) ?_
  obtain ⟨v1, hv1, h⟩ := bd_i h
  refine s_cS F dX8_reset_4 (c_X8_isBetween hs hv1) lkX8_44 okX8_isBetween rfl (Nat.le_of_ble_eq_true rfl) (by decide) ?_
  refine s_if_eq (tgt := 20) F dX8_reset_7 (by decide) (fun c2 => ?_) (fun c2 => ?_)
  · have h := if_t c2 h
    refine s_bipush (v := (-2)) F dX8_reset_20 (by decide) ?_
    have h := Option.some.inj h
    subst h
    exact s_iret F hr dX8_reset_22 rfl (Nat.le_refl _) (Nat.le_refl _) post
  · have h := if_f c2 h
    refine s_iload_n F dX8_reset_10 rfl ?_
    refine s_iconst (v := 2) F dX8_reset_11 (by decide) ?_
    refine s_bipush (v := 16) F dX8_reset_12 (by decide) ?_
    obtain ⟨v3, hv3, h⟩ := bd_i h
    refine s_cS F dX8_reset_14 (c_X8_isBetween hs hv3) lkX8_44 okX8_isBetween rfl (Nat.le_of_ble_eq_true rfl) (by decide) ?_
    refine s_if_ne (tgt := 23) F dX8_reset_17 (by decide) (fun c4 => ?_) (fun c4 => ?_)
    · have h := if_t c4 h
      refine s_aload_n F dX8_reset_23 rfl ?_
      refine s_getR F dX8_reset_24 flX8_19 (ly0 hs) (lt0 hs) rfl (p0_1 hs) ?_
      refine s_aload_n F dX8_reset_27 rfl ?_
      refine s_getR F dX8_reset_28 flX8_10 (ly0 hs) (lt0 hs) rfl (p0_0 hs) ?_
      refine s_getR F dX8_reset_31 flX8_48 (ly1 hs) (lt1 hs) rfl (p1_0 hs) ?_
      obtain ⟨v5, hv5, h⟩ := bd_i h
      refine s_cV (ci := 1) F dX8_reset_34 (c_X1_record hs sb2 hv5) lkX8_51 okX1_record (by decide) (ly21 hs) (lt21 hs) rfl rfl (Nat.le_of_ble_eq_true rfl) (by decide) ?_
      have hs := shX1_record hs sb2 hv5
      refine s_aload_n F dX8_reset_37 rfl ?_
      refine s_getR F dX8_reset_38 flX8_10 (ly0 hs) (lt0 hs) rfl (p0_0 hs) ?_
      refine s_iload_n F dX8_reset_41 rfl ?_
      refine s_iload_n F dX8_reset_42 rfl ?_
      obtain ⟨v6, hv6, h⟩ := bd_i h
      refine s_cV (ci := 7) F dX8_reset_43 (c_X7_clearBoard hs hv6) lkX8_55 okX7_clearBoard (by decide) (ly1 hs) (lt1 hs) rfl rfl (Nat.le_of_ble_eq_true rfl) (by decide) ?_
      refine s_iload_n F dX8_reset_46 rfl ?_
      refine s_iload_n F dX8_reset_47 rfl ?_
      refine s_imul F dX8_reset_48 ?_
      have h := Option.some.inj h
      subst h
      exact s_iret F hr dX8_reset_49 rfl (Nat.le_refl _) (Nat.le_refl _) post
    · have h := if_f (not_not_intro c4) h
      refine s_bipush (v := (-2)) F dX8_reset_20 (by decide) ?_
      have h := Option.some.inj h
      subst h
      exact s_iret F hr dX8_reset_22 rfl (Nat.le_refl _) (Nat.le_refl _) post
set_option maxRecDepth 100000 in
set_option maxHeartbeats 4000000 in
theorem c_X8_reset {n : Nat} {Ly : LL} {I : II} {P : PP} {r : Int32 × II × PP} (hs : ShC n Ly P) {x1 : Int32} {x2 : Int32} (h : fX8_reset I P x1 x2 = some r) (l : Launch) (s0 : Nat) (D : va_G) (DA : Nat → ClassId) : Ct l s0 D DA mX8_reset [.inr (some 0), .inl x1, .inl x2] 0 0 n Ly I P (PoD (some (.inl r.1)) n Ly r.2.1 r.2.2) := ct_of (by decide +kernel) (Nat.le_of_ble_eq_true rfl) (fun X F hr _ => bX8_reset F hs hr ⟨rfl, rfl, rfl, rfl, rfl⟩ h)
-- ChipPilers.put
def fX8_put (I : II) (P : PP) (x1 : Int32) (x2 : Int32) (x3 : Int32) : Option (Int32 × II × PP) := (fX4_cellAt I 2 x1 x2).bind fun v1 => (if 0 ≤ v1 then (fX8_isBetween x3 0 99).bind fun v3 => (if ¬ v3 = 0 then (fX4_chipsOf I 2 v1).bind fun v5 => (fX1_record I P 2).bind fun v6 => (fX7_setChips v6.1 v1 x3).bind fun v7 => some (v5, v7, v6.2) else some ((-2), I, P)) else some ((-1), I, P))
set_option maxRecDepth 100000 in
set_option maxHeartbeats 4000000 in
theorem bX8_put {X : Cx} {n : Nat} {Ly : LL} {I : II} {P : PP} {Po : PQ} {r : Int32 × II × PP} (F : Fx X RX8 cX8_put 6 4 0 0) (hs : ShC n Ly P) (hr : Fr X (some .int) Po 0 0) (post : Po (some (.inl r.1)) n Ly r.2.1 r.2.2) {x1 : Int32} {x2 : Int32} {x3 : Int32} (h : fX8_put I P x1 x2 x3 = some r) : G X 6 0 0 n Ly 0 [some (.inr (some 0)), some (.inl x1), some (.inl x2), some (.inl x3), none, none] [] I P := by
  unfold fX8_put at h
  refine s_aload_n F dX8_put_0 rfl ?_
  refine s_getR F dX8_put_1 flX8_10 (ly0 hs) (lt0 hs) rfl (p0_0 hs) ?_
  refine s_getR F dX8_put_4 flX8_48 (ly1 hs) (lt1 hs) rfl (p1_0 hs) ?_
  refine s_iload_n F dX8_put_7 rfl ?_
  refine s_iload_n F dX8_put_8 rfl ?_
  obtain ⟨v1, hv1, h⟩ := bd_i h
  refine s_cV (ci := 4) F dX8_put_9 (c_X4_cellAt hs sb2 hv1) lkX8_59 okX4_cellAt (by decide) (lyS hs sb2) (ltSb hs sb2) rfl rfl (Nat.le_of_ble_eq_true rfl) (by decide) ?_
  refine s_istore F dX8_put_12 (by decide) ?_
  refine s_iload F dX8_put_14 rfl ?_
  refine s_if_ge (tgt := 21) F dX8_put_16 (by decide) (fun c2 => ?_) (fun c2 => ?_)
  · have h := if_t c2 h
    refine s_iload_n F dX8_put_21 rfl ?_
    refine s_iconst (v := 0) F dX8_put_22 (by decide) ?_
    refine s_bipush (v := 99) F dX8_put_23 (by decide) ?_
    obtain ⟨v3, hv3, h⟩ := bd_i h
    refine s_cS F dX8_put_25 (c_X8_isBetween hs hv3) lkX8_44 okX8_isBetween rfl (Nat.le_of_ble_eq_true rfl) (by decide) ?_
    refine s_if_ne (tgt := 34) F dX8_put_28 (by decide) (fun c4 => ?_) (fun c4 => ?_)
    · have h := if_t c4 h
      refine s_aload_n F dX8_put_34 rfl ?_
      refine s_getR F dX8_put_35 flX8_10 (ly0 hs) (lt0 hs) rfl (p0_0 hs) ?_
      refine s_getR F dX8_put_38 flX8_48 (ly1 hs) (lt1 hs) rfl (p1_0 hs) ?_
      refine s_iload F dX8_put_41 rfl ?_
      obtain ⟨v5, hv5, h⟩ := bd_i h
      refine s_cV (ci := 4) F dX8_put_43 (c_X4_chipsOf hs sb2 hv5) lkX8_63 okX4_chipsOf (by decide) (lyS hs sb2) (ltSb hs sb2) rfl rfl (Nat.le_of_ble_eq_true rfl) (by decide) ?_
      refine s_istore F dX8_put_46 (by decide) ?_
      refine s_aload_n F dX8_put_48 rfl ?_
      refine s_getR F dX8_put_49 flX8_19 (ly0 hs) (lt0 hs) rfl (p0_1 hs) ?_
      refine s_aload_n F dX8_put_52 rfl ?_
      refine s_getR F dX8_put_53 flX8_10 (ly0 hs) (lt0 hs) rfl (p0_0 hs) ?_
      refine s_getR F dX8_put_56 flX8_48 (ly1 hs) (lt1 hs) rfl (p1_0 hs) ?_
      obtain ⟨v6, hv6, h⟩ := bd_i h
      refine s_cV (ci := 1) F dX8_put_59 (c_X1_record hs sb2 hv6) lkX8_51 okX1_record (by decide) (ly21 hs) (lt21 hs) rfl rfl (Nat.le_of_ble_eq_true rfl) (by decide) ?_
      have hs := shX1_record hs sb2 hv6
      refine s_aload_n F dX8_put_62 rfl ?_
      refine s_getR F dX8_put_63 flX8_10 (ly0 hs) (lt0 hs) rfl (p0_0 hs) ?_
      refine s_iload F dX8_put_66 rfl ?_
      refine s_iload_n F dX8_put_68 rfl ?_
      obtain ⟨v7, hv7, h⟩ := bd_i h
      refine s_cV (ci := 7) F dX8_put_69 (c_X7_setChips hs hv7) lkX8_67 okX7_setChips (by decide) (ly1 hs) (lt1 hs) rfl rfl (Nat.le_of_ble_eq_true rfl) (by decide) ?_
      refine s_iload F dX8_put_72 rfl ?_
      have h := Option.some.inj h
      subst h
      exact s_iret F hr dX8_put_74 rfl (Nat.le_refl _) (Nat.le_refl _) post
    · have h := if_f (not_not_intro c4) h
      refine s_bipush (v := (-2)) F dX8_put_31 (by decide) ?_
      have h := Option.some.inj h
      subst h
      exact s_iret F hr dX8_put_33 rfl (Nat.le_refl _) (Nat.le_refl _) post
  · have h := if_f c2 h
    refine s_iconst (v := (-1)) F dX8_put_19 (by decide) ?_
    have h := Option.some.inj h
    subst h
    exact s_iret F hr dX8_put_20 rfl (Nat.le_refl _) (Nat.le_refl _) post
set_option maxRecDepth 100000 in
set_option maxHeartbeats 4000000 in
theorem c_X8_put {n : Nat} {Ly : LL} {I : II} {P : PP} {r : Int32 × II × PP} (hs : ShC n Ly P) {x1 : Int32} {x2 : Int32} {x3 : Int32} (h : fX8_put I P x1 x2 x3 = some r) (l : Launch) (s0 : Nat) (D : va_G) (DA : Nat → ClassId) : Ct l s0 D DA mX8_put [.inr (some 0), .inl x1, .inl x2, .inl x3] 0 0 n Ly I P (PoD (some (.inl r.1)) n Ly r.2.1 r.2.2) := ct_of (by decide +kernel) (Nat.le_of_ble_eq_true rfl) (fun X F hr _ => bX8_put F hs hr ⟨rfl, rfl, rfl, rfl, rfl⟩ h)
-- ChipPilers.strew
def fX8_strew (I : II) (P : PP) (x1 : Int32) (x2 : Int32) (x3 : Int32) : Option (Int32 × II × PP) := (fX8_isBetween x1 0 9).bind fun v1 => (if v1 = 0 then some ((-2), I, P) else (fX8_isBetween x2 0 9).bind fun v3 => (if v3 = 0 then some ((-2), I, P) else (fX8_isBetween x3 1 20).bind fun v5 => (if ¬ v5 = 0 then (fX7_strewOver I x1 x2 x3 0).bind fun v7 => (if ¬ v7.1 = 0 then (fX1_record v7.2 P 2).bind fun v9 => (fX7_strewOver v9.1 x1 x2 x3 1).bind fun v10 => some (v7.1, v10.2, v9.2) else some ((-5), v7.2, P)) else some ((-2), I, P))))
set_option maxRecDepth 100000 in
set_option maxHeartbeats 4000000 in
theorem bX8_strew {X : Cx} {n : Nat} {Ly : LL} {I : II} {P : PP} {Po : PQ} {r : Int32 × II × PP} (F : Fx X RX8 cX8_strew 5 4 0 0) (hs : ShC n Ly P) (hr : Fr X (some .int) Po 0 0) (post : Po (some (.inl r.1)) n Ly r.2.1 r.2.2) {x1 : Int32} {x2 : Int32} {x3 : Int32} (h : fX8_strew I P x1 x2 x3 = some r) : G X 5 0 0 n Ly 0 [some (.inr (some 0)), some (.inl x1), some (.inl x2), some (.inl x3), none] [] I P := by
  unfold fX8_strew at h
  refine s_iload_n F dX8_strew_0 rfl ?_
  refine s_iconst (v := 0) F dX8_strew_1 (by decide) ?_
  refine s_bipush (v := 9) F dX8_strew_2 (by decide) ?_
  obtain ⟨v1, hv1, h⟩ := bd_i h
  refine s_cS F dX8_strew_4 (c_X8_isBetween hs hv1) lkX8_44 okX8_isBetween rfl (Nat.le_of_ble_eq_true rfl) (by decide) ?_
  refine s_if_eq (tgt := 30) F dX8_strew_7 (by decide) (fun c2 => ?_) (fun c2 => ?_)
  · have h := if_t c2 h
    refine s_bipush (v := (-2)) F dX8_strew_30 (by decide) ?_
    have h := Option.some.inj h
    subst h
    exact s_iret F hr dX8_strew_32 rfl (Nat.le_refl _) (Nat.le_refl _) post
  · have h := if_f c2 h
    refine s_iload_n F dX8_strew_10 rfl ?_
    refine s_iconst (v := 0) F dX8_strew_11 (by decide) ?_
    refine s_bipush (v := 9) F dX8_strew_12 (by decide) ?_
    obtain ⟨v3, hv3, h⟩ := bd_i h
    refine s_cS F dX8_strew_14 (c_X8_isBetween hs hv3) lkX8_44 okX8_isBetween rfl (Nat.le_of_ble_eq_true rfl) (by decide) ?_
    refine s_if_eq (tgt := 30) F dX8_strew_17 (by decide) (fun c4 => ?_) (fun c4 => ?_)
    · have h := if_t c4 h
      refine s_bipush (v := (-2)) F dX8_strew_30 (by decide) ?_
      have h := Option.some.inj h
      subst h
      exact s_iret F hr dX8_strew_32 rfl (Nat.le_refl _) (Nat.le_refl _) post
    · have h := if_f c4 h
      refine s_iload_n F dX8_strew_20 rfl ?_
      refine s_iconst (v := 1) F dX8_strew_21 (by decide) ?_
      refine s_bipush (v := 20) F dX8_strew_22 (by decide) ?_
      obtain ⟨v5, hv5, h⟩ := bd_i h
      refine s_cS F dX8_strew_24 (c_X8_isBetween hs hv5) lkX8_44 okX8_isBetween rfl (Nat.le_of_ble_eq_true rfl) (by decide) ?_
      refine s_if_ne (tgt := 33) F dX8_strew_27 (by decide) (fun c6 => ?_) (fun c6 => ?_)
      · have h := if_t c6 h
        refine s_aload_n F dX8_strew_33 rfl ?_
        refine s_getR F dX8_strew_34 flX8_10 (ly0 hs) (lt0 hs) rfl (p0_0 hs) ?_
        refine s_iload_n F dX8_strew_37 rfl ?_
        refine s_iload_n F dX8_strew_38 rfl ?_
        refine s_iload_n F dX8_strew_39 rfl ?_
        refine s_iconst (v := 0) F dX8_strew_40 (by decide) ?_
        obtain ⟨v7, hv7, h⟩ := bd_i h
        refine s_cV (ci := 7) F dX8_strew_41 (c_X7_strewOver hs hv7) lkX8_70 okX7_strewOver (by decide) (ly1 hs) (lt1 hs) rfl rfl (Nat.le_of_ble_eq_true rfl) (by decide) ?_
        refine s_istore F dX8_strew_44 (by decide) ?_
        refine s_iload F dX8_strew_46 rfl ?_
        refine s_if_ne (tgt := 54) F dX8_strew_48 (by decide) (fun c8 => ?_) (fun c8 => ?_)
        · have h := if_t c8 h
          refine s_aload_n F dX8_strew_54 rfl ?_
          refine s_getR F dX8_strew_55 flX8_19 (ly0 hs) (lt0 hs) rfl (p0_1 hs) ?_
          refine s_aload_n F dX8_strew_58 rfl ?_
          refine s_getR F dX8_strew_59 flX8_10 (ly0 hs) (lt0 hs) rfl (p0_0 hs) ?_
          refine s_getR F dX8_strew_62 flX8_48 (ly1 hs) (lt1 hs) rfl (p1_0 hs) ?_
          obtain ⟨v9, hv9, h⟩ := bd_i h
          refine s_cV (ci := 1) F dX8_strew_65 (c_X1_record hs sb2 hv9) lkX8_51 okX1_record (by decide) (ly21 hs) (lt21 hs) rfl rfl (Nat.le_of_ble_eq_true rfl) (by decide) ?_
          have hs := shX1_record hs sb2 hv9
          refine s_aload_n F dX8_strew_68 rfl ?_
          refine s_getR F dX8_strew_69 flX8_10 (ly0 hs) (lt0 hs) rfl (p0_0 hs) ?_
          refine s_iload_n F dX8_strew_72 rfl ?_
          refine s_iload_n F dX8_strew_73 rfl ?_
          refine s_iload_n F dX8_strew_74 rfl ?_
          refine s_iconst (v := 1) F dX8_strew_75 (by decide) ?_
          obtain ⟨v10, hv10, h⟩ := bd_i h
          refine s_cV (ci := 7) F dX8_strew_76 (c_X7_strewOver hs hv10) lkX8_70 okX7_strewOver (by decide) (ly1 hs) (lt1 hs) rfl rfl (Nat.le_of_ble_eq_true rfl) (by decide) ?_
          refine s_pop F dX8_strew_79 ?_
          refine s_iload F dX8_strew_80 rfl ?_
          have h := Option.some.inj h
          subst h
          exact s_iret F hr dX8_strew_82 rfl (Nat.le_refl _) (Nat.le_refl _) post
        · have h := if_f (not_not_intro c8) h
          refine s_bipush (v := (-5)) F dX8_strew_51 (by decide) ?_
          have h := Option.some.inj h
          subst h
          exact s_iret F hr dX8_strew_53 rfl (Nat.le_refl _) (Nat.le_refl _) post
      · have h := if_f (not_not_intro c6) h
        refine s_bipush (v := (-2)) F dX8_strew_30 (by decide) ?_
        have h := Option.some.inj h
        subst h
        exact s_iret F hr dX8_strew_32 rfl (Nat.le_refl _) (Nat.le_refl _) post
set_option maxRecDepth 100000 in
set_option maxHeartbeats 4000000 in
theorem c_X8_strew {n : Nat} {Ly : LL} {I : II} {P : PP} {r : Int32 × II × PP} (hs : ShC n Ly P) {x1 : Int32} {x2 : Int32} {x3 : Int32} (h : fX8_strew I P x1 x2 x3 = some r) (l : Launch) (s0 : Nat) (D : va_G) (DA : Nat → ClassId) : Ct l s0 D DA mX8_strew [.inr (some 0), .inl x1, .inl x2, .inl x3] 0 0 n Ly I P (PoD (some (.inl r.1)) n Ly r.2.1 r.2.2) := ct_of (by decide +kernel) (Nat.le_of_ble_eq_true rfl) (fun X F hr _ => bX8_strew F hs hr ⟨rfl, rfl, rfl, rfl, rfl⟩ h)
-- ChipPilers.isSort
def fX8_isSort (x0 : Int32) : Option (Int32) := (fX8_isBetween x0 0 2).bind fun v1 => ck (bB v1) (some v1)
set_option maxRecDepth 100000 in
set_option maxHeartbeats 4000000 in
theorem bX8_isSort {X : Cx} {n : Nat} {Ly : LL} {I : II} {P : PP} {Po : PQ} {r : Int32} (F : Fx X RX8 cX8_isSort 1 2 0 0) (hs : ShC n Ly P) (hr : Fr X (some .boolean) Po 0 0) (post : Po (some (.inl r)) n Ly I P) {x0 : Int32} (h : fX8_isSort x0 = some r) : G X 1 0 0 n Ly 0 [some (.inl x0)] [] I P := by
  unfold fX8_isSort at h
  refine s_iload_n F dX8_isSort_0 rfl ?_
  refine s_iconst (v := 0) F dX8_isSort_1 (by decide) ?_
  refine s_iconst (v := 2) F dX8_isSort_2 (by decide) ?_
  obtain ⟨v1, hv1, h⟩ := bd_i h
  refine s_cS F dX8_isSort_3 (c_X8_isBetween hs hv1) lkX8_44 okX8_isBetween rfl (Nat.le_of_ble_eq_true rfl) (by decide) ?_
  obtain ⟨hc2, h⟩ := ck_s h
  have h := Option.some.inj h
  subst h
  exact s_iret F hr dX8_isSort_6 (nb_of (bB_s hc2)).1 (Nat.le_refl _) (Nat.le_refl _) post
set_option maxRecDepth 100000 in
set_option maxHeartbeats 4000000 in
theorem c_X8_isSort {n : Nat} {Ly : LL} {I : II} {P : PP} {r : Int32} (hs : ShC n Ly P) {x0 : Int32} (h : fX8_isSort x0 = some r) (l : Launch) (s0 : Nat) (D : va_G) (DA : Nat → ClassId) : Ct l s0 D DA mX8_isSort [.inl x0] 0 0 n Ly I P (PoD (some (.inl r)) n Ly I P) := ct_of (by decide +kernel) (Nat.le_of_ble_eq_true rfl) (fun X F hr _ => bX8_isSort F hs hr ⟨rfl, rfl, rfl, rfl, rfl⟩ h)
-- ChipPilers.addWalker
def fX8_addWalker (I : II) (P : PP) (x1 : Int32) (x2 : Int32) (x3 : Int32) (x4 : Int32) (x5 : Int32) : Option (Int32 × II × PP) := (fX4_cellAt I 2 x1 x2).bind fun v1 => (if 0 ≤ v1 then (fX8_isBetween x3 0 3).bind fun v3 => (if v3 = 0 then some ((-2), I, P) else (fX8_isSort x4).bind fun v5 => (if v5 = 0 then some ((-2), I, P) else (fX8_isBetween x5 1 9).bind fun v7 => (if ¬ v7 = 0 then (if (I 2 4) < 8 then (fX1_record I P 2).bind fun v10 => (some (up2 v10.1 2 4 ((I 2 4) + 1))).bind fun I11 => (fX4_walkerAt I11 2 (I 2 4)).bind fun v12 => (match v12 with | none => some ((I 2 4), I11, v10.2) | some a13 => (fX6_begin I11 a13 x1 x2 x3 x4 x5).bind fun v14 => some ((I 2 4), v14, v10.2)) else some ((-3), I, P)) else some ((-2), I, P)))) else some ((-1), I, P))
set_option maxRecDepth 100000 in
set_option maxHeartbeats 4000000 in
theorem bX8_addWalker {X : Cx} {n : Nat} {Ly : LL} {I : II} {P : PP} {Po : PQ} {r : Int32 × II × PP} (F : Fx X RX8 cX8_addWalker 8 4 0 0) (hs : ShC n Ly P) (hr : Fr X (some .int) Po 0 0) (post : Po (some (.inl r.1)) n Ly r.2.1 r.2.2) {x1 : Int32} {x2 : Int32} {x3 : Int32} {x4 : Int32} {x5 : Int32} (h : fX8_addWalker I P x1 x2 x3 x4 x5 = some r) : G X 8 0 0 n Ly 0 [some (.inr (some 0)), some (.inl x1), some (.inl x2), some (.inl x3), some (.inl x4), some (.inl x5), none, none] [] I P := by
  unfold fX8_addWalker at h
  refine s_aload_n F dX8_addWalker_0 rfl ?_
  refine s_getR F dX8_addWalker_1 flX8_10 (ly0 hs) (lt0 hs) rfl (p0_0 hs) ?_
  refine s_getR F dX8_addWalker_4 flX8_48 (ly1 hs) (lt1 hs) rfl (p1_0 hs) ?_
  refine s_iload_n F dX8_addWalker_7 rfl ?_
  refine s_iload_n F dX8_addWalker_8 rfl ?_
  obtain ⟨v1, hv1, h⟩ := bd_i h
  refine s_cV (ci := 4) F dX8_addWalker_9 (c_X4_cellAt hs sb2 hv1) lkX8_59 okX4_cellAt (by decide) (lyS hs sb2) (ltSb hs sb2) rfl rfl (Nat.le_of_ble_eq_true rfl) (by decide) ?_
  refine s_if_ge (tgt := 17) F dX8_addWalker_12 (by decide) (fun c2 => ?_) (fun c2 => ?_)
  · have h := if_t c2 h
    refine s_iload_n F dX8_addWalker_17 rfl ?_
    refine s_iconst (v := 0) F dX8_addWalker_18 (by decide) ?_
    refine s_iconst (v := 3) F dX8_addWalker_19 (by decide) ?_
    obtain ⟨v3, hv3, h⟩ := bd_i h
    refine s_cS F dX8_addWalker_20 (c_X8_isBetween hs hv3) lkX8_44 okX8_isBetween rfl (Nat.le_of_ble_eq_true rfl) (by decide) ?_
    refine s_if_eq (tgt := 45) F dX8_addWalker_23 (by decide) (fun c4 => ?_) (fun c4 => ?_)
    · have h := if_t c4 h
      refine s_bipush (v := (-2)) F dX8_addWalker_45 (by decide) ?_
      have h := Option.some.inj h
      subst h
      exact s_iret F hr dX8_addWalker_47 rfl (Nat.le_refl _) (Nat.le_refl _) post
    · have h := if_f c4 h
      refine s_iload F dX8_addWalker_26 rfl ?_
      obtain ⟨v5, hv5, h⟩ := bd_i h
      refine s_cS F dX8_addWalker_28 (c_X8_isSort hs hv5) lkX8_74 okX8_isSort rfl (Nat.le_of_ble_eq_true rfl) (by decide) ?_
      refine s_if_eq (tgt := 45) F dX8_addWalker_31 (by decide) (fun c6 => ?_) (fun c6 => ?_)
      · have h := if_t c6 h
        refine s_bipush (v := (-2)) F dX8_addWalker_45 (by decide) ?_
        have h := Option.some.inj h
        subst h
        exact s_iret F hr dX8_addWalker_47 rfl (Nat.le_refl _) (Nat.le_refl _) post
      · have h := if_f c6 h
        refine s_iload F dX8_addWalker_34 rfl ?_
        refine s_iconst (v := 1) F dX8_addWalker_36 (by decide) ?_
        refine s_bipush (v := 9) F dX8_addWalker_37 (by decide) ?_
        obtain ⟨v7, hv7, h⟩ := bd_i h
        refine s_cS F dX8_addWalker_39 (c_X8_isBetween hs hv7) lkX8_44 okX8_isBetween rfl (Nat.le_of_ble_eq_true rfl) (by decide) ?_
        refine s_if_ne (tgt := 48) F dX8_addWalker_42 (by decide) (fun c8 => ?_) (fun c8 => ?_)
        · have h := if_t c8 h
          refine s_aload_n F dX8_addWalker_48 rfl ?_
          refine s_getR F dX8_addWalker_49 flX8_10 (ly0 hs) (lt0 hs) rfl (p0_0 hs) ?_
          refine s_getR F dX8_addWalker_52 flX8_48 (ly1 hs) (lt1 hs) rfl (p1_0 hs) ?_
          refine s_getI F dX8_addWalker_55 flX8_78 (lyS hs sb2) (ltSb hs sb2) rfl ?_
          refine s_istore F dX8_addWalker_58 (by decide) ?_
          refine s_iload F dX8_addWalker_60 rfl ?_
          refine s_bipush (v := 8) F dX8_addWalker_62 (by decide) ?_
          refine s_icmp_lt (tgt := 70) F dX8_addWalker_64 (by decide) (fun c9 => ?_) (fun c9 => ?_)
          · have h := if_t c9 h
            refine s_aload_n F dX8_addWalker_70 rfl ?_
            refine s_getR F dX8_addWalker_71 flX8_19 (ly0 hs) (lt0 hs) rfl (p0_1 hs) ?_
            refine s_aload_n F dX8_addWalker_74 rfl ?_
            refine s_getR F dX8_addWalker_75 flX8_10 (ly0 hs) (lt0 hs) rfl (p0_0 hs) ?_
            refine s_getR F dX8_addWalker_78 flX8_48 (ly1 hs) (lt1 hs) rfl (p1_0 hs) ?_
            obtain ⟨v10, hv10, h⟩ := bd_i h
            refine s_cV (ci := 1) F dX8_addWalker_81 (c_X1_record hs sb2 hv10) lkX8_51 okX1_record (by decide) (ly21 hs) (lt21 hs) rfl rfl (Nat.le_of_ble_eq_true rfl) (by decide) ?_
            have hs := shX1_record hs sb2 hv10
            refine s_aload_n F dX8_addWalker_84 rfl ?_
            refine s_getR F dX8_addWalker_85 flX8_10 (ly0 hs) (lt0 hs) rfl (p0_0 hs) ?_
            refine s_getR F dX8_addWalker_88 flX8_48 (ly1 hs) (lt1 hs) rfl (p1_0 hs) ?_
            refine s_iload F dX8_addWalker_91 rfl ?_
            refine s_iconst (v := 1) F dX8_addWalker_93 (by decide) ?_
            refine s_iadd F dX8_addWalker_94 ?_
            have h := bd_s h
            refine s_putI F dX8_addWalker_95 flX8_78 (lyS hs sb2) (ltSb hs sb2) rfl rfl ⟨rfl, rfl⟩ ?_
            refine s_aload_n F dX8_addWalker_98 rfl ?_
            refine s_getR F dX8_addWalker_99 flX8_10 (ly0 hs) (lt0 hs) rfl (p0_0 hs) ?_
            refine s_getR F dX8_addWalker_102 flX8_48 (ly1 hs) (lt1 hs) rfl (p1_0 hs) ?_
            refine s_iload F dX8_addWalker_105 rfl ?_
            obtain ⟨v12, hv12, h⟩ := bd_i h
            refine s_cV (ci := 4) F dX8_addWalker_107 (c_X4_walkerAt hs sb2 hv12) lkX8_82 okX4_walkerAt (by decide) (lyS hs sb2) (ltSb hs sb2) rfl rfl (Nat.le_of_ble_eq_true rfl) (by decide) ?_
            refine s_astore F dX8_addWalker_110 (by decide) ?_
            refine s_aload F dX8_addWalker_112 rfl ?_
            cases v12 with
            | none =>
              dsimp only at h
              refine s_ifnullN (tgt := 129) F dX8_addWalker_114 (by decide) ?_
              refine s_iload F dX8_addWalker_129 rfl ?_
              have h := Option.some.inj h
              subst h
              exact s_iret F hr dX8_addWalker_131 rfl (Nat.le_refl _) (Nat.le_refl _) post
            | some a13 =>
              dsimp only at h
              refine s_ifnull F dX8_addWalker_114 ?_
              refine s_aload F dX8_addWalker_117 rfl ?_
              refine s_iload_n F dX8_addWalker_119 rfl ?_
              refine s_iload_n F dX8_addWalker_120 rfl ?_
              refine s_iload_n F dX8_addWalker_121 rfl ?_
              refine s_iload F dX8_addWalker_122 rfl ?_
              refine s_iload F dX8_addWalker_124 rfl ?_
              obtain ⟨v14, hv14, h⟩ := bd_i h
              refine s_cV (ci := 6) F dX8_addWalker_126 (c_X6_begin hs ((kdX4_walkerAt hs sb2 hv12) _ rfl) hv14) lkX8_86 okX6_begin (by decide) (lyW hs ((kdX4_walkerAt hs sb2 hv12) _ rfl)) (ltW hs ((kdX4_walkerAt hs sb2 hv12) _ rfl)) rfl rfl (Nat.le_of_ble_eq_true rfl) (by decide) ?_
              refine s_iload F dX8_addWalker_129 rfl ?_
              have h := Option.some.inj h
              subst h
              exact s_iret F hr dX8_addWalker_131 rfl (Nat.le_refl _) (Nat.le_refl _) post
          · have h := if_f c9 h
            refine s_bipush (v := (-3)) F dX8_addWalker_67 (by decide) ?_
            have h := Option.some.inj h
            subst h
            exact s_iret F hr dX8_addWalker_69 rfl (Nat.le_refl _) (Nat.le_refl _) post
        · have h := if_f (not_not_intro c8) h
          refine s_bipush (v := (-2)) F dX8_addWalker_45 (by decide) ?_
          have h := Option.some.inj h
          subst h
          exact s_iret F hr dX8_addWalker_47 rfl (Nat.le_refl _) (Nat.le_refl _) post
  · have h := if_f c2 h
    refine s_iconst (v := (-1)) F dX8_addWalker_15 (by decide) ?_
    have h := Option.some.inj h
    subst h
    exact s_iret F hr dX8_addWalker_16 rfl (Nat.le_refl _) (Nat.le_refl _) post
set_option maxRecDepth 100000 in
set_option maxHeartbeats 4000000 in
theorem c_X8_addWalker {n : Nat} {Ly : LL} {I : II} {P : PP} {r : Int32 × II × PP} (hs : ShC n Ly P) {x1 : Int32} {x2 : Int32} {x3 : Int32} {x4 : Int32} {x5 : Int32} (h : fX8_addWalker I P x1 x2 x3 x4 x5 = some r) (l : Launch) (s0 : Nat) (D : va_G) (DA : Nat → ClassId) : Ct l s0 D DA mX8_addWalker [.inr (some 0), .inl x1, .inl x2, .inl x3, .inl x4, .inl x5] 0 0 n Ly I P (PoD (some (.inl r.1)) n Ly r.2.1 r.2.2) := ct_of (by decide +kernel) (Nat.le_of_ble_eq_true rfl) (fun X F hr _ => bX8_addWalker F hs hr ⟨rfl, rfl, rfl, rfl, rfl⟩ h)
-- ChipPilers.setSort
def fX8_setSort (I : II) (P : PP) (x1 : Int32) (x2 : Int32) : Option (Int32 × II × PP) := (fX4_walkerAt I 2 x1).bind fun v1 => (match v1 with | none => some ((-1), I, P) | some a2 => (fX8_isSort x2).bind fun v3 => (if ¬ v3 = 0 then (fX1_record I P 2).bind fun v5 => (some (up2 v5.1 a2 5 x2)).bind fun I6 => some ((I a2 5), I6, v5.2) else some ((-2), I, P)))
set_option maxRecDepth 100000 in
set_option maxHeartbeats 4000000 in
theorem bX8_setSort {X : Cx} {n : Nat} {Ly : LL} {I : II} {P : PP} {Po : PQ} {r : Int32 × II × PP} (F : Fx X RX8 cX8_setSort 5 4 0 0) (hs : ShC n Ly P) (hr : Fr X (some .int) Po 0 0) (post : Po (some (.inl r.1)) n Ly r.2.1 r.2.2) {x1 : Int32} {x2 : Int32} (h : fX8_setSort I P x1 x2 = some r) : G X 5 0 0 n Ly 0 [some (.inr (some 0)), some (.inl x1), some (.inl x2), none, none] [] I P := by
  unfold fX8_setSort at h
  refine s_aload_n F dX8_setSort_0 rfl ?_
  refine s_getR F dX8_setSort_1 flX8_10 (ly0 hs) (lt0 hs) rfl (p0_0 hs) ?_
  refine s_getR F dX8_setSort_4 flX8_48 (ly1 hs) (lt1 hs) rfl (p1_0 hs) ?_
  refine s_iload_n F dX8_setSort_7 rfl ?_
  obtain ⟨v1, hv1, h⟩ := bd_i h
  refine s_cV (ci := 4) F dX8_setSort_8 (c_X4_walkerAt hs sb2 hv1) lkX8_82 okX4_walkerAt (by decide) (lyS hs sb2) (ltSb hs sb2) rfl rfl (Nat.le_of_ble_eq_true rfl) (by decide) ?_
  refine s_astore_n F dX8_setSort_11 (by decide) ?_
  refine s_aload_n F dX8_setSort_12 rfl ?_
  cases v1 with
  | none =>
    dsimp only at h
    refine s_ifnonnullN F dX8_setSort_13 ?_
    refine s_iconst (v := (-1)) F dX8_setSort_16 (by decide) ?_
    have h := Option.some.inj h
    subst h
    exact s_iret F hr dX8_setSort_17 rfl (Nat.le_refl _) (Nat.le_refl _) post
  | some a2 =>
    dsimp only at h
    refine s_ifnonnull (tgt := 18) F dX8_setSort_13 (by decide) ?_
    refine s_iload_n F dX8_setSort_18 rfl ?_
    obtain ⟨v3, hv3, h⟩ := bd_i h
    refine s_cS F dX8_setSort_19 (c_X8_isSort hs hv3) lkX8_74 okX8_isSort rfl (Nat.le_of_ble_eq_true rfl) (by decide) ?_
    refine s_if_ne (tgt := 28) F dX8_setSort_22 (by decide) (fun c4 => ?_) (fun c4 => ?_)
    · have h := if_t c4 h
      refine s_aload_n F dX8_setSort_28 rfl ?_
      refine s_getI F dX8_setSort_29 flX8_92 (lyW hs ((kdX4_walkerAt hs sb2 hv1) _ rfl)) (ltW hs ((kdX4_walkerAt hs sb2 hv1) _ rfl)) rfl ?_
      refine s_istore F dX8_setSort_32 (by decide) ?_
      refine s_aload_n F dX8_setSort_34 rfl ?_
      refine s_getR F dX8_setSort_35 flX8_19 (ly0 hs) (lt0 hs) rfl (p0_1 hs) ?_
      refine s_aload_n F dX8_setSort_38 rfl ?_
      refine s_getR F dX8_setSort_39 flX8_10 (ly0 hs) (lt0 hs) rfl (p0_0 hs) ?_
      refine s_getR F dX8_setSort_42 flX8_48 (ly1 hs) (lt1 hs) rfl (p1_0 hs) ?_
      obtain ⟨v5, hv5, h⟩ := bd_i h
      refine s_cV (ci := 1) F dX8_setSort_45 (c_X1_record hs sb2 hv5) lkX8_51 okX1_record (by decide) (ly21 hs) (lt21 hs) rfl rfl (Nat.le_of_ble_eq_true rfl) (by decide) ?_
      have hs := shX1_record hs sb2 hv5
      refine s_aload_n F dX8_setSort_48 rfl ?_
      refine s_iload_n F dX8_setSort_49 rfl ?_
      have h := bd_s h
      refine s_putI F dX8_setSort_50 flX8_92 (lyW hs ((kdX4_walkerAt hs sb2 hv1) _ rfl)) (ltW hs ((kdX4_walkerAt hs sb2 hv1) _ rfl)) rfl rfl ⟨rfl, rfl⟩ ?_
      refine s_iload F dX8_setSort_53 rfl ?_
      have h := Option.some.inj h
      subst h
      exact s_iret F hr dX8_setSort_55 rfl (Nat.le_refl _) (Nat.le_refl _) post
    · have h := if_f (not_not_intro c4) h
      refine s_bipush (v := (-2)) F dX8_setSort_25 (by decide) ?_
      have h := Option.some.inj h
      subst h
      exact s_iret F hr dX8_setSort_27 rfl (Nat.le_refl _) (Nat.le_refl _) post
set_option maxRecDepth 100000 in
set_option maxHeartbeats 4000000 in
theorem c_X8_setSort {n : Nat} {Ly : LL} {I : II} {P : PP} {r : Int32 × II × PP} (hs : ShC n Ly P) {x1 : Int32} {x2 : Int32} (h : fX8_setSort I P x1 x2 = some r) (l : Launch) (s0 : Nat) (D : va_G) (DA : Nat → ClassId) : Ct l s0 D DA mX8_setSort [.inr (some 0), .inl x1, .inl x2] 0 0 n Ly I P (PoD (some (.inl r.1)) n Ly r.2.1 r.2.2) := ct_of (by decide +kernel) (Nat.le_of_ble_eq_true rfl) (fun X F hr _ => bX8_setSort F hs hr ⟨rfl, rfl, rfl, rfl, rfl⟩ h)
-- ChipPilers.empty
def fX8_empty (I : II) (P : PP) (x1 : Int32) : Option (Int32 × II × PP) := (fX4_walkerAt I 2 x1).bind fun v1 => (match v1 with | none => some ((-1), I, P) | some a2 => (fX7_chipsUnder I a2).bind fun v3 => (if (v3 + (I a2 3)) ≤ 99 then (if ¬ (I a2 3) = 0 then (fX1_record I P 2).bind fun v6 => (fX7_pickUp v6.1 a2 (-(v6.1 a2 3))).bind fun v7 => (fX7_chipsUnder v7 a2).bind fun v8 => some (v8, v7, v6.2) else some ((-5), I, P)) else some ((-4), I, P)))
set_option maxRecDepth 100000 in
set_option maxHeartbeats 4000000 in
theorem bX8_empty {X : Cx} {n : Nat} {Ly : LL} {I : II} {P : PP} {Po : PQ} {r : Int32 × II × PP} (F : Fx X RX8 cX8_empty 3 4 0 0) (hs : ShC n Ly P) (hr : Fr X (some .int) Po 0 0) (post : Po (some (.inl r.1)) n Ly r.2.1 r.2.2) {x1 : Int32} (h : fX8_empty I P x1 = some r) : G X 3 0 0 n Ly 0 [some (.inr (some 0)), some (.inl x1), none] [] I P := by
  unfold fX8_empty at h
  refine s_aload_n F dX8_empty_0 rfl ?_
  refine s_getR F dX8_empty_1 flX8_10 (ly0 hs) (lt0 hs) rfl (p0_0 hs) ?_
  refine s_getR F dX8_empty_4 flX8_48 (ly1 hs) (lt1 hs) rfl (p1_0 hs) ?_
  refine s_iload_n F dX8_empty_7 rfl ?_
  obtain ⟨v1, hv1, h⟩ := bd_i h
  refine s_cV (ci := 4) F dX8_empty_8 (c_X4_walkerAt hs sb2 hv1) lkX8_82 okX4_walkerAt (by decide) (lyS hs sb2) (ltSb hs sb2) rfl rfl (Nat.le_of_ble_eq_true rfl) (by decide) ?_
  refine s_astore_n F dX8_empty_11 (by decide) ?_
  refine s_aload_n F dX8_empty_12 rfl ?_
  cases v1 with
  | none =>
    dsimp only at h
    refine s_ifnonnullN F dX8_empty_13 ?_
    refine s_iconst (v := (-1)) F dX8_empty_16 (by decide) ?_
    have h := Option.some.inj h
    subst h
    exact s_iret F hr dX8_empty_17 rfl (Nat.le_refl _) (Nat.le_refl _) post
  | some a2 =>
    dsimp only at h
    refine s_ifnonnull (tgt := 18) F dX8_empty_13 (by decide) ?_
    refine s_aload_n F dX8_empty_18 rfl ?_
    refine s_getR F dX8_empty_19 flX8_10 (ly0 hs) (lt0 hs) rfl (p0_0 hs) ?_
    refine s_aload_n F dX8_empty_22 rfl ?_
    obtain ⟨v3, hv3, h⟩ := bd_i h
    refine s_cV (ci := 7) F dX8_empty_23 (c_X7_chipsUnder hs ((kdX4_walkerAt hs sb2 hv1) _ rfl) hv3) lkX8_95 okX7_chipsUnder (by decide) (ly1 hs) (lt1 hs) rfl rfl (Nat.le_of_ble_eq_true rfl) (by decide) ?_
    refine s_aload_n F dX8_empty_26 rfl ?_
    refine s_getI F dX8_empty_27 flX8_99 (lyW hs ((kdX4_walkerAt hs sb2 hv1) _ rfl)) (ltW hs ((kdX4_walkerAt hs sb2 hv1) _ rfl)) rfl ?_
    refine s_iadd F dX8_empty_30 ?_
    refine s_bipush (v := 99) F dX8_empty_31 (by decide) ?_
    refine s_icmp_le (tgt := 39) F dX8_empty_33 (by decide) (fun c4 => ?_) (fun c4 => ?_)
    · have h := if_t c4 h
      refine s_aload_n F dX8_empty_39 rfl ?_
      refine s_getI F dX8_empty_40 flX8_99 (lyW hs ((kdX4_walkerAt hs sb2 hv1) _ rfl)) (ltW hs ((kdX4_walkerAt hs sb2 hv1) _ rfl)) rfl ?_
      refine s_if_ne (tgt := 49) F dX8_empty_43 (by decide) (fun c5 => ?_) (fun c5 => ?_)
      · have h := if_t c5 h
        refine s_aload_n F dX8_empty_49 rfl ?_
        refine s_getR F dX8_empty_50 flX8_19 (ly0 hs) (lt0 hs) rfl (p0_1 hs) ?_
        refine s_aload_n F dX8_empty_53 rfl ?_
        refine s_getR F dX8_empty_54 flX8_10 (ly0 hs) (lt0 hs) rfl (p0_0 hs) ?_
        refine s_getR F dX8_empty_57 flX8_48 (ly1 hs) (lt1 hs) rfl (p1_0 hs) ?_
        obtain ⟨v6, hv6, h⟩ := bd_i h
        refine s_cV (ci := 1) F dX8_empty_60 (c_X1_record hs sb2 hv6) lkX8_51 okX1_record (by decide) (ly21 hs) (lt21 hs) rfl rfl (Nat.le_of_ble_eq_true rfl) (by decide) ?_
        have hs := shX1_record hs sb2 hv6
        refine s_aload_n F dX8_empty_63 rfl ?_
        refine s_getR F dX8_empty_64 flX8_10 (ly0 hs) (lt0 hs) rfl (p0_0 hs) ?_
        refine s_aload_n F dX8_empty_67 rfl ?_
        refine s_aload_n F dX8_empty_68 rfl ?_
        refine s_getI F dX8_empty_69 flX8_99 (lyW hs ((kdX4_walkerAt hs sb2 hv1) _ rfl)) (ltW hs ((kdX4_walkerAt hs sb2 hv1) _ rfl)) rfl ?_
        refine s_ineg F dX8_empty_72 ?_
        obtain ⟨v7, hv7, h⟩ := bd_i h
        refine s_cV (ci := 7) F dX8_empty_73 (c_X7_pickUp hs ((kdX4_walkerAt hs sb2 hv1) _ rfl) hv7) lkX8_102 okX7_pickUp (by decide) (ly1 hs) (lt1 hs) rfl rfl (Nat.le_of_ble_eq_true rfl) (by decide) ?_
        refine s_aload_n F dX8_empty_76 rfl ?_
        refine s_getR F dX8_empty_77 flX8_10 (ly0 hs) (lt0 hs) rfl (p0_0 hs) ?_
        refine s_aload_n F dX8_empty_80 rfl ?_
        obtain ⟨v8, hv8, h⟩ := bd_i h
        refine s_cV (ci := 7) F dX8_empty_81 (c_X7_chipsUnder hs ((kdX4_walkerAt hs sb2 hv1) _ rfl) hv8) lkX8_95 okX7_chipsUnder (by decide) (ly1 hs) (lt1 hs) rfl rfl (Nat.le_of_ble_eq_true rfl) (by decide) ?_
        have h := Option.some.inj h
        subst h
        exact s_iret F hr dX8_empty_84 rfl (Nat.le_refl _) (Nat.le_refl _) post
      · have h := if_f (not_not_intro c5) h
        refine s_bipush (v := (-5)) F dX8_empty_46 (by decide) ?_
        have h := Option.some.inj h
        subst h
        exact s_iret F hr dX8_empty_48 rfl (Nat.le_refl _) (Nat.le_refl _) post
    · have h := if_f c4 h
      refine s_bipush (v := (-4)) F dX8_empty_36 (by decide) ?_
      have h := Option.some.inj h
      subst h
      exact s_iret F hr dX8_empty_38 rfl (Nat.le_refl _) (Nat.le_refl _) post
set_option maxRecDepth 100000 in
set_option maxHeartbeats 4000000 in
theorem c_X8_empty {n : Nat} {Ly : LL} {I : II} {P : PP} {r : Int32 × II × PP} (hs : ShC n Ly P) {x1 : Int32} (h : fX8_empty I P x1 = some r) (l : Launch) (s0 : Nat) (D : va_G) (DA : Nat → ClassId) : Ct l s0 D DA mX8_empty [.inr (some 0), .inl x1] 0 0 n Ly I P (PoD (some (.inl r.1)) n Ly r.2.1 r.2.2) := ct_of (by decide +kernel) (Nat.le_of_ble_eq_true rfl) (fun X F hr _ => bX8_empty F hs hr ⟨rfl, rfl, rfl, rfl, rfl⟩ h)
-- ChipPilers.addTurn
def fX8_addTurn (I : II) (P : PP) (x1 : Int32) : Option (Int32 × II × PP) := (fX8_isBetween x1 0 9).bind fun v1 => (if ¬ v1 = 0 then (if (I 5 1) < 30 then (fX1_record I P 2).bind fun v4 => (fX5_append v4.1 5 x1).bind fun v5 => some ((v5 5 1), v5, v4.2) else some ((-3), I, P)) else some ((-2), I, P))
set_option maxRecDepth 100000 in
set_option maxHeartbeats 4000000 in
theorem bX8_addTurn {X : Cx} {n : Nat} {Ly : LL} {I : II} {P : PP} {Po : PQ} {r : Int32 × II × PP} (F : Fx X RX8 cX8_addTurn 2 4 0 0) (hs : ShC n Ly P) (hr : Fr X (some .int) Po 0 0) (post : Po (some (.inl r.1)) n Ly r.2.1 r.2.2) {x1 : Int32} (h : fX8_addTurn I P x1 = some r) : G X 2 0 0 n Ly 0 [some (.inr (some 0)), some (.inl x1)] [] I P := by
  unfold fX8_addTurn at h
  refine s_iload_n F dX8_addTurn_0 rfl ?_
  refine s_iconst (v := 0) F dX8_addTurn_1 (by decide) ?_
  refine s_bipush (v := 9) F dX8_addTurn_2 (by decide) ?_
  obtain ⟨v1, hv1, h⟩ := bd_i h
  refine s_cS F dX8_addTurn_4 (c_X8_isBetween hs hv1) lkX8_44 okX8_isBetween rfl (Nat.le_of_ble_eq_true rfl) (by decide) ?_
  refine s_if_ne (tgt := 13) F dX8_addTurn_7 (by decide) (fun c2 => ?_) (fun c2 => ?_)
  · have h := if_t c2 h
    refine s_aload_n F dX8_addTurn_13 rfl ?_
    refine s_getR F dX8_addTurn_14 flX8_10 (ly0 hs) (lt0 hs) rfl (p0_0 hs) ?_
    refine s_getR F dX8_addTurn_17 flX8_48 (ly1 hs) (lt1 hs) rfl (p1_0 hs) ?_
    refine s_getR F dX8_addTurn_20 flX8_106 (lyS hs sb2) (ltSb hs sb2) rfl (pS5 hs sb2) ?_
    refine s_getI F dX8_addTurn_23 flX8_110 (lyT hs ⟨_, sb2, rfl⟩) (ltT hs ⟨_, sb2, rfl⟩) rfl ?_
    refine s_bipush (v := 30) F dX8_addTurn_26 (by decide) ?_
    refine s_icmp_lt (tgt := 34) F dX8_addTurn_28 (by decide) (fun c3 => ?_) (fun c3 => ?_)
    · have h := if_t c3 h
      refine s_aload_n F dX8_addTurn_34 rfl ?_
      refine s_getR F dX8_addTurn_35 flX8_19 (ly0 hs) (lt0 hs) rfl (p0_1 hs) ?_
      refine s_aload_n F dX8_addTurn_38 rfl ?_
      refine s_getR F dX8_addTurn_39 flX8_10 (ly0 hs) (lt0 hs) rfl (p0_0 hs) ?_
      refine s_getR F dX8_addTurn_42 flX8_48 (ly1 hs) (lt1 hs) rfl (p1_0 hs) ?_
      obtain ⟨v4, hv4, h⟩ := bd_i h
      refine s_cV (ci := 1) F dX8_addTurn_45 (c_X1_record hs sb2 hv4) lkX8_51 okX1_record (by decide) (ly21 hs) (lt21 hs) rfl rfl (Nat.le_of_ble_eq_true rfl) (by decide) ?_
      have hs := shX1_record hs sb2 hv4
      refine s_aload_n F dX8_addTurn_48 rfl ?_
      refine s_getR F dX8_addTurn_49 flX8_10 (ly0 hs) (lt0 hs) rfl (p0_0 hs) ?_
      refine s_getR F dX8_addTurn_52 flX8_48 (ly1 hs) (lt1 hs) rfl (p1_0 hs) ?_
      refine s_getR F dX8_addTurn_55 flX8_106 (lyS hs sb2) (ltSb hs sb2) rfl (pS5 hs sb2) ?_
      refine s_iload_n F dX8_addTurn_58 rfl ?_
      obtain ⟨v5, hv5, h⟩ := bd_i h
      refine s_cV (ci := 5) F dX8_addTurn_59 (c_X5_append hs ⟨_, sb2, rfl⟩ hv5) lkX8_115 okX5_append (by decide) (lyT hs ⟨_, sb2, rfl⟩) (ltT hs ⟨_, sb2, rfl⟩) rfl rfl (Nat.le_of_ble_eq_true rfl) (by decide) ?_
      refine s_aload_n F dX8_addTurn_62 rfl ?_
      refine s_getR F dX8_addTurn_63 flX8_10 (ly0 hs) (lt0 hs) rfl (p0_0 hs) ?_
      refine s_getR F dX8_addTurn_66 flX8_48 (ly1 hs) (lt1 hs) rfl (p1_0 hs) ?_
      refine s_getR F dX8_addTurn_69 flX8_106 (lyS hs sb2) (ltSb hs sb2) rfl (pS5 hs sb2) ?_
      refine s_getI F dX8_addTurn_72 flX8_110 (lyT hs ⟨_, sb2, rfl⟩) (ltT hs ⟨_, sb2, rfl⟩) rfl ?_
      have h := Option.some.inj h
      subst h
      exact s_iret F hr dX8_addTurn_75 rfl (Nat.le_refl _) (Nat.le_refl _) post
    · have h := if_f c3 h
      refine s_bipush (v := (-3)) F dX8_addTurn_31 (by decide) ?_
      have h := Option.some.inj h
      subst h
      exact s_iret F hr dX8_addTurn_33 rfl (Nat.le_refl _) (Nat.le_refl _) post
  · have h := if_f (not_not_intro c2) h
    refine s_bipush (v := (-2)) F dX8_addTurn_10 (by decide) ?_
    have h := Option.some.inj h
    subst h
    exact s_iret F hr dX8_addTurn_12 rfl (Nat.le_refl _) (Nat.le_refl _) post
set_option maxRecDepth 100000 in
set_option maxHeartbeats 4000000 in
theorem c_X8_addTurn {n : Nat} {Ly : LL} {I : II} {P : PP} {r : Int32 × II × PP} (hs : ShC n Ly P) {x1 : Int32} (h : fX8_addTurn I P x1 = some r) (l : Launch) (s0 : Nat) (D : va_G) (DA : Nat → ClassId) : Ct l s0 D DA mX8_addTurn [.inr (some 0), .inl x1] 0 0 n Ly I P (PoD (some (.inl r.1)) n Ly r.2.1 r.2.2) := ct_of (by decide +kernel) (Nat.le_of_ble_eq_true rfl) (fun X F hr _ => bX8_addTurn F hs hr ⟨rfl, rfl, rfl, rfl, rfl⟩ h)
-- ChipPilers.clearTurns
def fX8_clearTurns (I : II) (P : PP) : Option (Int32 × II × PP) := (fX1_record I P 2).bind fun v1 => (fX5_begin v1.1 5).bind fun v2 => some ((I 5 1), v2, v1.2)
set_option maxRecDepth 100000 in
set_option maxHeartbeats 4000000 in
theorem bX8_clearTurns {X : Cx} {n : Nat} {Ly : LL} {I : II} {P : PP} {Po : PQ} {r : Int32 × II × PP} (F : Fx X RX8 cX8_clearTurns 2 4 0 0) (hs : ShC n Ly P) (hr : Fr X (some .int) Po 0 0) (post : Po (some (.inl r.1)) n Ly r.2.1 r.2.2)  (h : fX8_clearTurns I P = some r) : G X 2 0 0 n Ly 0 [some (.inr (some 0)), none] [] I P := by
  unfold fX8_clearTurns at h
  refine s_aload_n F dX8_clearTurns_0 rfl ?_
  refine s_getR F dX8_clearTurns_1 flX8_10 (ly0 hs) (lt0 hs) rfl (p0_0 hs) ?_
  refine s_getR F dX8_clearTurns_4 flX8_48 (ly1 hs) (lt1 hs) rfl (p1_0 hs) ?_
  refine s_getR F dX8_clearTurns_7 flX8_106 (lyS hs sb2) (ltSb hs sb2) rfl (pS5 hs sb2) ?_
  refine s_getI F dX8_clearTurns_10 flX8_110 (lyT hs ⟨_, sb2, rfl⟩) (ltT hs ⟨_, sb2, rfl⟩) rfl ?_
  refine s_istore_n F dX8_clearTurns_13 (by decide) ?_
  refine s_aload_n F dX8_clearTurns_14 rfl ?_
  refine s_getR F dX8_clearTurns_15 flX8_19 (ly0 hs) (lt0 hs) rfl (p0_1 hs) ?_
  refine s_aload_n F dX8_clearTurns_18 rfl ?_
  refine s_getR F dX8_clearTurns_19 flX8_10 (ly0 hs) (lt0 hs) rfl (p0_0 hs) ?_
  refine s_getR F dX8_clearTurns_22 flX8_48 (ly1 hs) (lt1 hs) rfl (p1_0 hs) ?_
  obtain ⟨v1, hv1, h⟩ := bd_i h
  refine s_cV (ci := 1) F dX8_clearTurns_25 (c_X1_record hs sb2 hv1) lkX8_51 okX1_record (by decide) (ly21 hs) (lt21 hs) rfl rfl (Nat.le_of_ble_eq_true rfl) (by decide) ?_
  have hs := shX1_record hs sb2 hv1
  refine s_aload_n F dX8_clearTurns_28 rfl ?_
  refine s_getR F dX8_clearTurns_29 flX8_10 (ly0 hs) (lt0 hs) rfl (p0_0 hs) ?_
  refine s_getR F dX8_clearTurns_32 flX8_48 (ly1 hs) (lt1 hs) rfl (p1_0 hs) ?_
  refine s_getR F dX8_clearTurns_35 flX8_106 (lyS hs sb2) (ltSb hs sb2) rfl (pS5 hs sb2) ?_
  obtain ⟨v2, hv2, h⟩ := bd_i h
  refine s_cV (ci := 5) F dX8_clearTurns_38 (c_X5_begin hs ⟨_, sb2, rfl⟩ hv2) lkX8_119 okX5_begin (by decide) (lyT hs ⟨_, sb2, rfl⟩) (ltT hs ⟨_, sb2, rfl⟩) rfl rfl (Nat.le_of_ble_eq_true rfl) (by decide) ?_
  refine s_iload_n F dX8_clearTurns_41 rfl ?_
  have h := Option.some.inj h
  subst h
  exact s_iret F hr dX8_clearTurns_42 rfl (Nat.le_refl _) (Nat.le_refl _) post
set_option maxRecDepth 100000 in
set_option maxHeartbeats 4000000 in
theorem c_X8_clearTurns {n : Nat} {Ly : LL} {I : II} {P : PP} {r : Int32 × II × PP} (hs : ShC n Ly P)  (h : fX8_clearTurns I P = some r) (l : Launch) (s0 : Nat) (D : va_G) (DA : Nat → ClassId) : Ct l s0 D DA mX8_clearTurns [.inr (some 0)] 0 0 n Ly I P (PoD (some (.inl r.1)) n Ly r.2.1 r.2.2) := ct_of (by decide +kernel) (Nat.le_of_ble_eq_true rfl) (fun X F hr _ => bX8_clearTurns F hs hr ⟨rfl, rfl, rfl, rfl, rfl⟩ h)
-- ChipPilers.walk
def fX8_walk_L48 : Nat → (II → Option (Int32 × II × PP)) → Int32 → Nat → PP → Int32 → II → Option (Int32 × II × PP)
  | 0, _, _, _, _, _, _ => none
  | k + 1, ct, x2, b3, P, x4, I => (if x2 ≤ x4 then ct I else (fX7_makeStep I b3).bind fun v7 => fX8_walk_L48 k ct x2 b3 P (x4 + 1) v7)
def fX8_walk (I : II) (P : PP) (x1 : Int32) (x2 : Int32) : Option (Int32 × II × PP) := (fX4_walkerAt I 2 x1).bind fun v1 => (match v1 with | none => some ((-1), I, P) | some a2 => (fX8_isBetween x2 1 100).bind fun v3 => (if ¬ v3 = 0 then (fX1_record I P 2).bind fun v5 => fX8_walk_L48 2000 (fun I8 => some ((I8 a2 3), I8, v5.2)) x2 a2 v5.2 0 v5.1 else some ((-2), I, P)))
set_option maxRecDepth 100000 in
set_option maxHeartbeats 4000000 in
theorem lX8_walk_L48 {X : Cx} {n : Nat} {Ly : LL} {P : PP} {Po : PQ} {r : Int32 × II × PP} (F : Fx X RX8 cX8_walk 5 6 0 0) (hs : ShC n Ly P) (hr : Fr X (some .int) Po 0 0) (post : Po (some (.inl r.1)) n Ly r.2.1 r.2.2) {x2 : Int32} {b3 : Nat} (hb3 : WB b3) {ct : II → Option (Int32 × II × PP)} (hct : ∀  (I : II), ct  I = some r → G X 5 0 0 n Ly 68 [none, none, none, some (.inr (some b3)), none] [] I P) : ∀ (k : Nat) (x4 : Int32) (I : II), fX8_walk_L48 k ct x2 b3 P x4 I = some r → G X 5 0 0 n Ly 48 [some (.inr (some 0)), none, some (.inl x2), some (.inr (some b3)), some (.inl x4)] [] I P := by
  intro k
  induction k with
  | zero =>
    intro x4 I h
    cases h
  | succ k ih =>
    intro x4 I h
    rw [fX8_walk_L48] at h
    refine s_iload F dX8_walk_48 rfl ?_
    refine s_iload_n F dX8_walk_50 rfl ?_
    refine s_icmp_ge (tgt := 68) F dX8_walk_51 (by decide) (fun c6 => ?_) (fun c6 => ?_)
    · have h := if_t c6 h
      exact G.weak (by exact ⟨rfl, trivial⟩) (hct _ h)
    · have h := if_f c6 h
      refine s_aload_n F dX8_walk_54 rfl ?_
      refine s_getR F dX8_walk_55 flX8_10 (ly0 hs) (lt0 hs) rfl (p0_0 hs) ?_
      refine s_aload_n F dX8_walk_58 rfl ?_
      obtain ⟨v7, hv7, h⟩ := bd_i h
      refine s_cV (ci := 7) F dX8_walk_59 (c_X7_makeStep hs hb3 hv7) lkX8_121 okX7_makeStep (by decide) (ly1 hs) (lt1 hs) rfl rfl (Nat.le_of_ble_eq_true rfl) (by decide) ?_
      refine s_inc (c := 1) F dX8_walk_62 rfl (by decide) (by decide) ?_
      refine s_goto (tgt := 48) F dX8_walk_65 (by decide) ?_
      exact G.weak (by exact ⟨rfl, ⟨rfl, ⟨rfl, ⟨rfl, trivial⟩⟩⟩⟩) (ih _ _ h)
set_option maxRecDepth 100000 in
set_option maxHeartbeats 4000000 in
theorem bX8_walk {X : Cx} {n : Nat} {Ly : LL} {I : II} {P : PP} {Po : PQ} {r : Int32 × II × PP} (F : Fx X RX8 cX8_walk 5 6 0 0) (hs : ShC n Ly P) (hr : Fr X (some .int) Po 0 0) (post : Po (some (.inl r.1)) n Ly r.2.1 r.2.2) {x1 : Int32} {x2 : Int32} (h : fX8_walk I P x1 x2 = some r) : G X 5 0 0 n Ly 0 [some (.inr (some 0)), some (.inl x1), some (.inl x2), none, none] [] I P := by
  unfold fX8_walk at h
  refine s_aload_n F dX8_walk_0 rfl ?_
  refine s_getR F dX8_walk_1 flX8_10 (ly0 hs) (lt0 hs) rfl (p0_0 hs) ?_
  refine s_getR F dX8_walk_4 flX8_48 (ly1 hs) (lt1 hs) rfl (p1_0 hs) ?_
  refine s_iload_n F dX8_walk_7 rfl ?_
  obtain ⟨v1, hv1, h⟩ := bd_i h
  refine s_cV (ci := 4) F dX8_walk_8 (c_X4_walkerAt hs sb2 hv1) lkX8_82 okX4_walkerAt (by decide) (lyS hs sb2) (ltSb hs sb2) rfl rfl (Nat.le_of_ble_eq_true rfl) (by decide) ?_
  refine s_astore_n F dX8_walk_11 (by decide) ?_
  refine s_aload_n F dX8_walk_12 rfl ?_
  cases v1 with
  | none =>
    dsimp only at h
    refine s_ifnonnullN F dX8_walk_13 ?_
    refine s_iconst (v := (-1)) F dX8_walk_16 (by decide) ?_
    have h := Option.some.inj h
    subst h
    exact s_iret F hr dX8_walk_17 rfl (Nat.le_refl _) (Nat.le_refl _) post
  | some a2 =>
    dsimp only at h
    refine s_ifnonnull (tgt := 18) F dX8_walk_13 (by decide) ?_
    refine s_iload_n F dX8_walk_18 rfl ?_
    refine s_iconst (v := 1) F dX8_walk_19 (by decide) ?_
    refine s_bipush (v := 100) F dX8_walk_20 (by decide) ?_
    obtain ⟨v3, hv3, h⟩ := bd_i h
    refine s_cS F dX8_walk_22 (c_X8_isBetween hs hv3) lkX8_44 okX8_isBetween rfl (Nat.le_of_ble_eq_true rfl) (by decide) ?_
    refine s_if_ne (tgt := 31) F dX8_walk_25 (by decide) (fun c4 => ?_) (fun c4 => ?_)
    · have h := if_t c4 h
      refine s_aload_n F dX8_walk_31 rfl ?_
      refine s_getR F dX8_walk_32 flX8_19 (ly0 hs) (lt0 hs) rfl (p0_1 hs) ?_
      refine s_aload_n F dX8_walk_35 rfl ?_
      refine s_getR F dX8_walk_36 flX8_10 (ly0 hs) (lt0 hs) rfl (p0_0 hs) ?_
      refine s_getR F dX8_walk_39 flX8_48 (ly1 hs) (lt1 hs) rfl (p1_0 hs) ?_
      obtain ⟨v5, hv5, h⟩ := bd_i h
      refine s_cV (ci := 1) F dX8_walk_42 (c_X1_record hs sb2 hv5) lkX8_51 okX1_record (by decide) (ly21 hs) (lt21 hs) rfl rfl (Nat.le_of_ble_eq_true rfl) (by decide) ?_
      have hs := shX1_record hs sb2 hv5
      refine s_iconst (v := 0) F dX8_walk_45 (by decide) ?_
      refine s_istore F dX8_walk_46 (by decide) ?_
      refine G.weak (by exact ⟨rfl, ⟨rfl, ⟨rfl, ⟨rfl, trivial⟩⟩⟩⟩) (lX8_walk_L48 F hs hr post ((kdX4_walkerAt hs sb2 hv1) _ rfl) (fun I8 h => ?_) 2000 _ _ h)
      refine s_aload_n F dX8_walk_68 rfl ?_
      refine s_getI F dX8_walk_69 flX8_99 (lyW hs ((kdX4_walkerAt hs sb2 hv1) _ rfl)) (ltW hs ((kdX4_walkerAt hs sb2 hv1) _ rfl)) rfl ?_
      have h := Option.some.inj h
      subst h
      exact s_iret F hr dX8_walk_72 rfl (Nat.le_refl _) (Nat.le_refl _) post
    · have h := if_f (not_not_intro c4) h
      refine s_bipush (v := (-2)) F dX8_walk_28 (by decide) ?_
      have h := Option.some.inj h
      subst h
      exact s_iret F hr dX8_walk_30 rfl (Nat.le_refl _) (Nat.le_refl _) post
set_option maxRecDepth 100000 in
set_option maxHeartbeats 4000000 in
theorem c_X8_walk {n : Nat} {Ly : LL} {I : II} {P : PP} {r : Int32 × II × PP} (hs : ShC n Ly P) {x1 : Int32} {x2 : Int32} (h : fX8_walk I P x1 x2 = some r) (l : Launch) (s0 : Nat) (D : va_G) (DA : Nat → ClassId) : Ct l s0 D DA mX8_walk [.inr (some 0), .inl x1, .inl x2] 0 0 n Ly I P (PoD (some (.inl r.1)) n Ly r.2.1 r.2.2) := ct_of (by decide +kernel) (Nat.le_of_ble_eq_true rfl) (fun X F hr _ => bX8_walk F hs hr ⟨rfl, rfl, rfl, rfl, rfl⟩ h)
-- ChipPilers.rounds
def fX8_rounds (I : II) (P : PP) (x1 : Int32) : Option (Int32 × II × PP) := (fX8_isBetween x1 1 50).bind fun v1 => (if ¬ v1 = 0 then (if ¬ (I 2 4) = 0 then (fX1_record I P 2).bind fun v4 => (fX7_makeRounds v4.1 x1).bind fun v5 => (fX0_numberIn v5 3).bind fun v6 => some (v6.1, v6.2, v4.2) else some ((-5), I, P)) else some ((-2), I, P))
set_option maxRecDepth 100000 in
set_option maxHeartbeats 4000000 in
theorem bX8_rounds {X : Cx} {n : Nat} {Ly : LL} {I : II} {P : PP} {Po : PQ} {r : Int32 × II × PP} (F : Fx X RX8 cX8_rounds 2 7 0 0) (hs : ShC n Ly P) (hr : Fr X (some .int) Po 0 0) (post : Po (some (.inl r.1)) n Ly r.2.1 r.2.2) {x1 : Int32} (h : fX8_rounds I P x1 = some r) : G X 2 0 0 n Ly 0 [some (.inr (some 0)), some (.inl x1)] [] I P := by
  unfold fX8_rounds at h
  refine s_iload_n F dX8_rounds_0 rfl ?_
  refine s_iconst (v := 1) F dX8_rounds_1 (by decide) ?_
  refine s_bipush (v := 50) F dX8_rounds_2 (by decide) ?_
  obtain ⟨v1, hv1, h⟩ := bd_i h
  refine s_cS F dX8_rounds_4 (c_X8_isBetween hs hv1) lkX8_44 okX8_isBetween rfl (Nat.le_of_ble_eq_true rfl) (by decide) ?_
  refine s_if_ne (tgt := 13) F dX8_rounds_7 (by decide) (fun c2 => ?_) (fun c2 => ?_)
  · have h := if_t c2 h
    refine s_aload_n F dX8_rounds_13 rfl ?_
    refine s_getR F dX8_rounds_14 flX8_10 (ly0 hs) (lt0 hs) rfl (p0_0 hs) ?_
    refine s_getR F dX8_rounds_17 flX8_48 (ly1 hs) (lt1 hs) rfl (p1_0 hs) ?_
    refine s_getI F dX8_rounds_20 flX8_78 (lyS hs sb2) (ltSb hs sb2) rfl ?_
    refine s_if_ne (tgt := 29) F dX8_rounds_23 (by decide) (fun c3 => ?_) (fun c3 => ?_)
    · have h := if_t c3 h
      refine s_aload_n F dX8_rounds_29 rfl ?_
      refine s_getR F dX8_rounds_30 flX8_19 (ly0 hs) (lt0 hs) rfl (p0_1 hs) ?_
      refine s_aload_n F dX8_rounds_33 rfl ?_
      refine s_getR F dX8_rounds_34 flX8_10 (ly0 hs) (lt0 hs) rfl (p0_0 hs) ?_
      refine s_getR F dX8_rounds_37 flX8_48 (ly1 hs) (lt1 hs) rfl (p1_0 hs) ?_
      obtain ⟨v4, hv4, h⟩ := bd_i h
      refine s_cV (ci := 1) F dX8_rounds_40 (c_X1_record hs sb2 hv4) lkX8_51 okX1_record (by decide) (ly21 hs) (lt21 hs) rfl rfl (Nat.le_of_ble_eq_true rfl) (by decide) ?_
      have hs := shX1_record hs sb2 hv4
      refine s_aload_n F dX8_rounds_43 rfl ?_
      refine s_getR F dX8_rounds_44 flX8_10 (ly0 hs) (lt0 hs) rfl (p0_0 hs) ?_
      refine s_iload_n F dX8_rounds_47 rfl ?_
      obtain ⟨v5, hv5, h⟩ := bd_i h
      refine s_cV (ci := 7) F dX8_rounds_48 (c_X7_makeRounds hs hv5) lkX8_125 okX7_makeRounds (by decide) (ly1 hs) (lt1 hs) rfl rfl (Nat.le_of_ble_eq_true rfl) (by decide) ?_
      refine s_aload_n F dX8_rounds_51 rfl ?_
      refine s_getR F dX8_rounds_52 flX8_10 (ly0 hs) (lt0 hs) rfl (p0_0 hs) ?_
      refine s_getR F dX8_rounds_55 flX8_128 (ly1 hs) (lt1 hs) rfl (p1_1 hs) ?_
      refine s_aload_n F dX8_rounds_58 rfl ?_
      refine s_getR F dX8_rounds_59 flX8_10 (ly0 hs) (lt0 hs) rfl (p0_0 hs) ?_
      refine s_getR F dX8_rounds_62 flX8_48 (ly1 hs) (lt1 hs) rfl (p1_0 hs) ?_
      refine s_getR F dX8_rounds_65 flX8_132 (lyS hs sb2) (ltSb hs sb2) rfl (pS2 hs sb2) ?_
      obtain ⟨v6, hv6, h⟩ := bd_i h
      refine s_cV (ci := 0) F dX8_rounds_68 (c_X0_numberIn hs ⟨_, sb2, rfl⟩ hv6) lkX8_136 okX0_numberIn (by decide) (ly15 hs) (lt15 hs) rfl rfl (Nat.le_of_ble_eq_true rfl) (by decide) ?_
      have h := Option.some.inj h
      subst h
      exact s_iret F hr dX8_rounds_71 rfl (Nat.le_refl _) (Nat.le_refl _) post
    · have h := if_f (not_not_intro c3) h
      refine s_bipush (v := (-5)) F dX8_rounds_26 (by decide) ?_
      have h := Option.some.inj h
      subst h
      exact s_iret F hr dX8_rounds_28 rfl (Nat.le_refl _) (Nat.le_refl _) post
  · have h := if_f (not_not_intro c2) h
    refine s_bipush (v := (-2)) F dX8_rounds_10 (by decide) ?_
    have h := Option.some.inj h
    subst h
    exact s_iret F hr dX8_rounds_12 rfl (Nat.le_refl _) (Nat.le_refl _) post
set_option maxRecDepth 100000 in
set_option maxHeartbeats 4000000 in
theorem c_X8_rounds {n : Nat} {Ly : LL} {I : II} {P : PP} {r : Int32 × II × PP} (hs : ShC n Ly P) {x1 : Int32} (h : fX8_rounds I P x1 = some r) (l : Launch) (s0 : Nat) (D : va_G) (DA : Nat → ClassId) : Ct l s0 D DA mX8_rounds [.inr (some 0), .inl x1] 0 0 n Ly I P (PoD (some (.inl r.1)) n Ly r.2.1 r.2.2) := ct_of (by decide +kernel) (Nat.le_of_ble_eq_true rfl) (fun X F hr _ => bX8_rounds F hs hr ⟨rfl, rfl, rfl, rfl, rfl⟩ h)
-- ChipPilers.type
def fX8_type (I : II) (x1 : Int32) : Option (Int32 × II) := (fX2_append I x1).bind fun v1 => (if ¬ v1.1 = 0 then some ((v1.2 88 1), v1.2) else some ((-3), v1.2))
set_option maxRecDepth 100000 in
set_option maxHeartbeats 4000000 in
theorem bX8_type {X : Cx} {n : Nat} {Ly : LL} {I : II} {P : PP} {Po : PQ} {r : Int32 × II} (F : Fx X RX8 cX8_type 2 2 0 0) (hs : ShC n Ly P) (hr : Fr X (some .int) Po 0 0) (post : Po (some (.inl r.1)) n Ly r.2 P) {x1 : Int32} (h : fX8_type I x1 = some r) : G X 2 0 0 n Ly 0 [some (.inr (some 0)), some (.inl x1)] [] I P := by
  unfold fX8_type at h
  refine s_aload_n F dX8_type_0 rfl ?_
  refine s_getR F dX8_type_1 flX8_26 (ly0 hs) (lt0 hs) rfl (p0_2 hs) ?_
  refine s_iload_n F dX8_type_4 rfl ?_
  obtain ⟨v1, hv1, h⟩ := bd_i h
  refine s_cV (ci := 2) F dX8_type_5 (c_X2_append hs hv1) lkX8_142 okX2_append (by decide) (ly88 hs) (lt88 hs) rfl rfl (Nat.le_of_ble_eq_true rfl) (by decide) ?_
  refine s_if_ne (tgt := 14) F dX8_type_8 (by decide) (fun c2 => ?_) (fun c2 => ?_)
  · have h := if_t c2 h
    refine s_aload_n F dX8_type_14 rfl ?_
    refine s_getR F dX8_type_15 flX8_26 (ly0 hs) (lt0 hs) rfl (p0_2 hs) ?_
    refine s_getI F dX8_type_18 flX8_145 (ly88 hs) (lt88 hs) rfl ?_
    have h := Option.some.inj h
    subst h
    exact s_iret F hr dX8_type_21 rfl (Nat.le_refl _) (Nat.le_refl _) post
  · have h := if_f (not_not_intro c2) h
    refine s_bipush (v := (-3)) F dX8_type_11 (by decide) ?_
    have h := Option.some.inj h
    subst h
    exact s_iret F hr dX8_type_13 rfl (Nat.le_refl _) (Nat.le_refl _) post
set_option maxRecDepth 100000 in
set_option maxHeartbeats 4000000 in
theorem c_X8_type {n : Nat} {Ly : LL} {I : II} {P : PP} {r : Int32 × II} (hs : ShC n Ly P) {x1 : Int32} (h : fX8_type I x1 = some r) (l : Launch) (s0 : Nat) (D : va_G) (DA : Nat → ClassId) : Ct l s0 D DA mX8_type [.inr (some 0), .inl x1] 0 0 n Ly I P (PoD (some (.inl r.1)) n Ly r.2 P) := ct_of (by decide +kernel) (Nat.le_of_ble_eq_true rfl) (fun X F hr _ => bX8_type F hs hr ⟨rfl, rfl, rfl, rfl, rfl⟩ h)
-- ChipPilers.clearText
def fX8_clearText (I : II) : Option (Int32 × II) := (some (up2 I 88 1 0)).bind fun I1 => some ((I 88 1), I1)
set_option maxRecDepth 100000 in
set_option maxHeartbeats 4000000 in
theorem bX8_clearText {X : Cx} {n : Nat} {Ly : LL} {I : II} {P : PP} {Po : PQ} {r : Int32 × II} (F : Fx X RX8 cX8_clearText 2 1 0 0) (hs : ShC n Ly P) (hr : Fr X (some .int) Po 0 0) (post : Po (some (.inl r.1)) n Ly r.2 P)  (h : fX8_clearText I = some r) : G X 2 0 0 n Ly 0 [some (.inr (some 0)), none] [] I P := by
  unfold fX8_clearText at h
  refine s_aload_n F dX8_clearText_0 rfl ?_
  refine s_getR F dX8_clearText_1 flX8_26 (ly0 hs) (lt0 hs) rfl (p0_2 hs) ?_
  refine s_getI F dX8_clearText_4 flX8_145 (ly88 hs) (lt88 hs) rfl ?_
  refine s_istore_n F dX8_clearText_7 (by decide) ?_
  refine s_aload_n F dX8_clearText_8 rfl ?_
  refine s_getR F dX8_clearText_9 flX8_26 (ly0 hs) (lt0 hs) rfl (p0_2 hs) ?_
  refine s_iconst (v := 0) F dX8_clearText_12 (by decide) ?_
  have h := bd_s h
  refine s_putI F dX8_clearText_13 flX8_145 (ly88 hs) (lt88 hs) rfl rfl ⟨rfl, rfl⟩ ?_
  refine s_iload_n F dX8_clearText_16 rfl ?_
  have h := Option.some.inj h
  subst h
  exact s_iret F hr dX8_clearText_17 rfl (Nat.le_refl _) (Nat.le_refl _) post
set_option maxRecDepth 100000 in
set_option maxHeartbeats 4000000 in
theorem c_X8_clearText {n : Nat} {Ly : LL} {I : II} {P : PP} {r : Int32 × II} (hs : ShC n Ly P)  (h : fX8_clearText I = some r) (l : Launch) (s0 : Nat) (D : va_G) (DA : Nat → ClassId) : Ct l s0 D DA mX8_clearText [.inr (some 0)] 0 0 n Ly I P (PoD (some (.inl r.1)) n Ly r.2 P) := ct_of (by decide +kernel) (Nat.le_of_ble_eq_true rfl) (fun X F hr _ => bX8_clearText F hs hr ⟨rfl, rfl, rfl, rfl, rfl⟩ h)
-- ChipPilers.run
def fX8_run_L67 : Nat → (II → Option (Int32 × II × PP)) → Int32 → PP → Option Nat → Int32 → II → Option (Int32 × II × PP)
  | 0, _, _, _, _, _, _ => none
  | k + 1, ct, x2, P, o3, x4, I => (if (I 88 4) ≤ x4 then ct I else (fX2_letterOf I x4).bind fun v7 => (fX2_numberOf I x4).bind fun v8 => (if ¬ v7 = 35 then (if ¬ v7 = 114 then (match o3 with | none => fX8_run_L67 k ct x2 P none (x4 + 1) I | some a11 => (fX7_obey I a11 v7 v8).bind fun v12 => fX8_run_L67 k ct x2 P (some a11) (x4 + 1) v12) else (fX7_makeRounds I v8).bind fun v13 => fX8_run_L67 k ct x2 P o3 (x4 + 1) v13) else (fX4_walkerAt I 2 v8).bind fun v14 => fX8_run_L67 k ct x2 P v14 (x4 + 1) I))
def fX8_run (I : II) (P : PP) : Option (Int32 × II × PP) := (fX2_readOrders I (I 2 4)).bind fun v1 => (if v1.1 < 0 then (fX1_record v1.2 P 2).bind fun v3 => (fX4_allSteps v3.1 2).bind fun v4 => (fX4_walkerAt v3.1 2 0).bind fun v5 => fX8_run_L67 2000 (fun I15 => (fX4_allSteps I15 2).bind fun v16 => some ((v16 - v4), I15, v3.2)) v4 v3.2 v5 0 v3.1 else some (((-100) - v1.1), v1.2, P))
set_option maxRecDepth 100000 in
set_option maxHeartbeats 4000000 in
theorem lX8_run_L67 {X : Cx} {n : Nat} {Ly : LL} {P : PP} {Po : PQ} {r : Int32 × II × PP} (F : Fx X RX8 cX8_run 7 7 0 0) (hs : ShC n Ly P) (hr : Fr X (some .int) Po 0 0) (post : Po (some (.inl r.1)) n Ly r.2.1 r.2.2) {x2 : Int32} {ct : II → Option (Int32 × II × PP)} (hct : ∀  (I : II), ct  I = some r → G X 7 0 0 n Ly 165 [some (.inr (some 0)), none, some (.inl x2), none, none, none, none] [] I P) : ∀ (k : Nat) (o3 : Option Nat) (x4 : Int32) (I : II), fX8_run_L67 k ct x2 P o3 x4 I = some r → (∀ a, o3 = some a → WB a) → G X 7 0 0 n Ly 67 [some (.inr (some 0)), none, some (.inl x2), some (.inr o3), some (.inl x4), none, none] [] I P := by
  intro k
  induction k with
  | zero =>
    intro o3 x4 I h _
    cases h
  | succ k ih =>
    intro o3 x4 I h ho3
    rw [fX8_run_L67] at h
    refine s_iload F dX8_run_67 rfl ?_
    refine s_aload_n F dX8_run_69 rfl ?_
    refine s_getR F dX8_run_70 flX8_26 (ly0 hs) (lt0 hs) rfl (p0_2 hs) ?_
    refine s_getI F dX8_run_73 flX8_155 (ly88 hs) (lt88 hs) rfl ?_
    refine s_icmp_ge (tgt := 165) F dX8_run_76 (by decide) (fun c6 => ?_) (fun c6 => ?_)
    · have h := if_t c6 h
      exact G.weak (by exact ⟨rfl, ⟨rfl, trivial⟩⟩) (hct _ h)
    · have h := if_f c6 h
      refine s_aload_n F dX8_run_79 rfl ?_
      refine s_getR F dX8_run_80 flX8_26 (ly0 hs) (lt0 hs) rfl (p0_2 hs) ?_
      refine s_iload F dX8_run_83 rfl ?_
      obtain ⟨v7, hv7, h⟩ := bd_i h
      refine s_cV (ci := 2) F dX8_run_85 (c_X2_letterOf hs hv7) lkX8_158 okX2_letterOf (by decide) (ly88 hs) (lt88 hs) rfl rfl (Nat.le_of_ble_eq_true rfl) (by decide) ?_
      refine s_istore F dX8_run_88 (by decide) ?_
      refine s_aload_n F dX8_run_90 rfl ?_
      refine s_getR F dX8_run_91 flX8_26 (ly0 hs) (lt0 hs) rfl (p0_2 hs) ?_
      refine s_iload F dX8_run_94 rfl ?_
      obtain ⟨v8, hv8, h⟩ := bd_i h
      refine s_cV (ci := 2) F dX8_run_96 (c_X2_numberOf hs hv8) lkX8_162 okX2_numberOf (by decide) (ly88 hs) (lt88 hs) rfl rfl (Nat.le_of_ble_eq_true rfl) (by decide) ?_
      refine s_istore F dX8_run_99 (by decide) ?_
      refine s_iload F dX8_run_101 rfl ?_
      refine s_bipush (v := 35) F dX8_run_103 (by decide) ?_
      refine s_icmp_ne (tgt := 124) F dX8_run_105 (by decide) (fun c9 => ?_) (fun c9 => ?_)
      · have h := if_t c9 h
        refine s_iload F dX8_run_124 rfl ?_
        refine s_bipush (v := 114) F dX8_run_126 (by decide) ?_
        refine s_icmp_ne (tgt := 143) F dX8_run_128 (by decide) (fun c10 => ?_) (fun c10 => ?_)
        · have h := if_t c10 h
          refine s_aload_n F dX8_run_143 rfl ?_
          cases o3 with
          | none =>
            dsimp only at h
            refine s_ifnullN (tgt := 159) F dX8_run_144 (by decide) ?_
            refine s_inc (c := 1) F dX8_run_159 rfl (by decide) (by decide) ?_
            refine s_goto (tgt := 67) F dX8_run_162 (by decide) ?_
            exact G.weak (by exact ⟨rfl, ⟨rfl, ⟨rfl, ⟨rfl, trivial⟩⟩⟩⟩) (ih _ _ _ h (fun _ q => by cases q))
          | some a11 =>
            dsimp only at h
            refine s_ifnull F dX8_run_144 ?_
            refine s_aload_n F dX8_run_147 rfl ?_
            refine s_getR F dX8_run_148 flX8_10 (ly0 hs) (lt0 hs) rfl (p0_0 hs) ?_
            refine s_aload_n F dX8_run_151 rfl ?_
            refine s_iload F dX8_run_152 rfl ?_
            refine s_iload F dX8_run_154 rfl ?_
            obtain ⟨v12, hv12, h⟩ := bd_i h
            refine s_cV (ci := 7) F dX8_run_156 (c_X7_obey hs (ho3 _ rfl) hv12) lkX8_165 okX7_obey (by decide) (ly1 hs) (lt1 hs) rfl rfl (Nat.le_of_ble_eq_true rfl) (by decide) ?_
            refine s_inc (c := 1) F dX8_run_159 rfl (by decide) (by decide) ?_
            refine s_goto (tgt := 67) F dX8_run_162 (by decide) ?_
            exact G.weak (by exact ⟨rfl, ⟨rfl, ⟨rfl, ⟨rfl, trivial⟩⟩⟩⟩) (ih _ _ _ h (fun _ q => by cases q; exact (ho3 _ rfl)))
        · have h := if_f (not_not_intro c10) h
          refine s_aload_n F dX8_run_131 rfl ?_
          refine s_getR F dX8_run_132 flX8_10 (ly0 hs) (lt0 hs) rfl (p0_0 hs) ?_
          refine s_iload F dX8_run_135 rfl ?_
          obtain ⟨v13, hv13, h⟩ := bd_i h
          refine s_cV (ci := 7) F dX8_run_137 (c_X7_makeRounds hs hv13) lkX8_125 okX7_makeRounds (by decide) (ly1 hs) (lt1 hs) rfl rfl (Nat.le_of_ble_eq_true rfl) (by decide) ?_
          refine s_goto (tgt := 159) F dX8_run_140 (by decide) ?_
          refine s_inc (c := 1) F dX8_run_159 rfl (by decide) (by decide) ?_
          refine s_goto (tgt := 67) F dX8_run_162 (by decide) ?_
          exact G.weak (by exact ⟨rfl, ⟨rfl, ⟨rfl, ⟨rfl, trivial⟩⟩⟩⟩) (ih _ _ _ h ho3)
      · have h := if_f (not_not_intro c9) h
        refine s_aload_n F dX8_run_108 rfl ?_
        refine s_getR F dX8_run_109 flX8_10 (ly0 hs) (lt0 hs) rfl (p0_0 hs) ?_
        refine s_getR F dX8_run_112 flX8_48 (ly1 hs) (lt1 hs) rfl (p1_0 hs) ?_
        refine s_iload F dX8_run_115 rfl ?_
        obtain ⟨v14, hv14, h⟩ := bd_i h
        refine s_cV (ci := 4) F dX8_run_117 (c_X4_walkerAt hs sb2 hv14) lkX8_82 okX4_walkerAt (by decide) (lyS hs sb2) (ltSb hs sb2) rfl rfl (Nat.le_of_ble_eq_true rfl) (by decide) ?_
        refine s_astore_n F dX8_run_120 (by decide) ?_
        refine s_goto (tgt := 159) F dX8_run_121 (by decide) ?_
        refine s_inc (c := 1) F dX8_run_159 rfl (by decide) (by decide) ?_
        refine s_goto (tgt := 67) F dX8_run_162 (by decide) ?_
        exact G.weak (by exact ⟨rfl, ⟨rfl, ⟨rfl, ⟨rfl, trivial⟩⟩⟩⟩) (ih _ _ _ h (kdX4_walkerAt hs sb2 hv14))
set_option maxRecDepth 100000 in
set_option maxHeartbeats 4000000 in
theorem bX8_run {X : Cx} {n : Nat} {Ly : LL} {I : II} {P : PP} {Po : PQ} {r : Int32 × II × PP} (F : Fx X RX8 cX8_run 7 7 0 0) (hs : ShC n Ly P) (hr : Fr X (some .int) Po 0 0) (post : Po (some (.inl r.1)) n Ly r.2.1 r.2.2)  (h : fX8_run I P = some r) : G X 7 0 0 n Ly 0 [some (.inr (some 0)), none, none, none, none, none, none] [] I P := by
  unfold fX8_run at h
  refine s_aload_n F dX8_run_0 rfl ?_
  refine s_getR F dX8_run_1 flX8_26 (ly0 hs) (lt0 hs) rfl (p0_2 hs) ?_
  refine s_aload_n F dX8_run_4 rfl ?_
  refine s_getR F dX8_run_5 flX8_10 (ly0 hs) (lt0 hs) rfl (p0_0 hs) ?_
  refine s_getR F dX8_run_8 flX8_48 (ly1 hs) (lt1 hs) rfl (p1_0 hs) ?_
  refine s_getI F dX8_run_11 flX8_78 (lyS hs sb2) (ltSb hs sb2) rfl ?_
  obtain ⟨v1, hv1, h⟩ := bd_i h
  refine s_cV (ci := 2) F dX8_run_14 (c_X2_readOrders hs hv1) lkX8_148 okX2_readOrders (by decide) (ly88 hs) (lt88 hs) rfl rfl (Nat.le_of_ble_eq_true rfl) (by decide) ?_
  refine s_istore_n F dX8_run_17 (by decide) ?_
  refine s_iload_n F dX8_run_18 rfl ?_
  refine s_if_lt (tgt := 27) F dX8_run_19 (by decide) (fun c2 => ?_) (fun c2 => ?_)
  · have h := if_t c2 h
    refine s_aload_n F dX8_run_27 rfl ?_
    refine s_getR F dX8_run_28 flX8_19 (ly0 hs) (lt0 hs) rfl (p0_1 hs) ?_
    refine s_aload_n F dX8_run_31 rfl ?_
    refine s_getR F dX8_run_32 flX8_10 (ly0 hs) (lt0 hs) rfl (p0_0 hs) ?_
    refine s_getR F dX8_run_35 flX8_48 (ly1 hs) (lt1 hs) rfl (p1_0 hs) ?_
    obtain ⟨v3, hv3, h⟩ := bd_i h
    refine s_cV (ci := 1) F dX8_run_38 (c_X1_record hs sb2 hv3) lkX8_51 okX1_record (by decide) (ly21 hs) (lt21 hs) rfl rfl (Nat.le_of_ble_eq_true rfl) (by decide) ?_
    have hs := shX1_record hs sb2 hv3
    refine s_aload_n F dX8_run_41 rfl ?_
    refine s_getR F dX8_run_42 flX8_10 (ly0 hs) (lt0 hs) rfl (p0_0 hs) ?_
    refine s_getR F dX8_run_45 flX8_48 (ly1 hs) (lt1 hs) rfl (p1_0 hs) ?_
    obtain ⟨v4, hv4, h⟩ := bd_i h
    refine s_cV (ci := 4) F dX8_run_48 (c_X4_allSteps hs sb2 hv4) lkX8_151 okX4_allSteps (by decide) (lyS hs sb2) (ltSb hs sb2) rfl rfl (Nat.le_of_ble_eq_true rfl) (by decide) ?_
    refine s_istore_n F dX8_run_51 (by decide) ?_
    refine s_aload_n F dX8_run_52 rfl ?_
    refine s_getR F dX8_run_53 flX8_10 (ly0 hs) (lt0 hs) rfl (p0_0 hs) ?_
    refine s_getR F dX8_run_56 flX8_48 (ly1 hs) (lt1 hs) rfl (p1_0 hs) ?_
    refine s_iconst (v := 0) F dX8_run_59 (by decide) ?_
    obtain ⟨v5, hv5, h⟩ := bd_i h
    refine s_cV (ci := 4) F dX8_run_60 (c_X4_walkerAt hs sb2 hv5) lkX8_82 okX4_walkerAt (by decide) (lyS hs sb2) (ltSb hs sb2) rfl rfl (Nat.le_of_ble_eq_true rfl) (by decide) ?_
    refine s_astore_n F dX8_run_63 (by decide) ?_
    refine s_iconst (v := 0) F dX8_run_64 (by decide) ?_
    refine s_istore F dX8_run_65 (by decide) ?_
    refine G.weak (by exact ⟨rfl, ⟨rfl, ⟨rfl, ⟨rfl, trivial⟩⟩⟩⟩) (lX8_run_L67 F hs hr post (fun I15 h => ?_) 2000 _ _ _ h (kdX4_walkerAt hs sb2 hv5))
    refine s_aload_n F dX8_run_165 rfl ?_
    refine s_getR F dX8_run_166 flX8_10 (ly0 hs) (lt0 hs) rfl (p0_0 hs) ?_
    refine s_getR F dX8_run_169 flX8_48 (ly1 hs) (lt1 hs) rfl (p1_0 hs) ?_
    obtain ⟨v16, hv16, h⟩ := bd_i h
    refine s_cV (ci := 4) F dX8_run_172 (c_X4_allSteps hs sb2 hv16) lkX8_151 okX4_allSteps (by decide) (lyS hs sb2) (ltSb hs sb2) rfl rfl (Nat.le_of_ble_eq_true rfl) (by decide) ?_
    refine s_iload_n F dX8_run_175 rfl ?_
    refine s_isub F dX8_run_176 ?_
    have h := Option.some.inj h
    subst h
    exact s_iret F hr dX8_run_177 rfl (Nat.le_refl _) (Nat.le_refl _) post
  · have h := if_f c2 h
    refine s_bipush (v := (-100)) F dX8_run_22 (by decide) ?_
    refine s_iload_n F dX8_run_24 rfl ?_
    refine s_isub F dX8_run_25 ?_
    have h := Option.some.inj h
    subst h
    exact s_iret F hr dX8_run_26 rfl (Nat.le_refl _) (Nat.le_refl _) post
set_option maxRecDepth 100000 in
set_option maxHeartbeats 4000000 in
theorem c_X8_run {n : Nat} {Ly : LL} {I : II} {P : PP} {r : Int32 × II × PP} (hs : ShC n Ly P)  (h : fX8_run I P = some r) (l : Launch) (s0 : Nat) (D : va_G) (DA : Nat → ClassId) : Ct l s0 D DA mX8_run [.inr (some 0)] 0 0 n Ly I P (PoD (some (.inl r.1)) n Ly r.2.1 r.2.2) := ct_of (by decide +kernel) (Nat.le_of_ble_eq_true rfl) (fun X F hr _ => bX8_run F hs hr ⟨rfl, rfl, rfl, rfl, rfl⟩ h)
-- ChipPilers.undo
def fX8_undo (I : II) (P : PP) : Option (Int32 × II) := (fX1_takeLatest I P).bind fun v1 => (match v1.1 with | none => some ((-5), v1.2) | some a3 => (fX7_load v1.2 a3).bind fun v4 => some ((v4 21 1), v4))
set_option maxRecDepth 100000 in
set_option maxHeartbeats 4000000 in
theorem bX8_undo {X : Cx} {n : Nat} {Ly : LL} {I : II} {P : PP} {Po : PQ} {r : Int32 × II} (F : Fx X RX8 cX8_undo 2 4 0 0) (hs : ShC n Ly P) (hr : Fr X (some .int) Po 0 0) (post : Po (some (.inl r.1)) n Ly r.2 P)  (h : fX8_undo I P = some r) : G X 2 0 0 n Ly 0 [some (.inr (some 0)), none] [] I P := by
  unfold fX8_undo at h
  refine s_aload_n F dX8_undo_0 rfl ?_
  refine s_getR F dX8_undo_1 flX8_19 (ly0 hs) (lt0 hs) rfl (p0_1 hs) ?_
  obtain ⟨v1, hv1, h⟩ := bd_i h
  refine s_cV (ci := 1) F dX8_undo_4 (c_X1_takeLatest hs hv1) lkX8_169 okX1_takeLatest (by decide) (ly21 hs) (lt21 hs) rfl rfl (Nat.le_of_ble_eq_true rfl) (by decide) ?_
  obtain ⟨o2, v1m⟩ := v1
  dsimp only at h
  refine s_astore_n F dX8_undo_7 (by decide) ?_
  refine s_aload_n F dX8_undo_8 rfl ?_
  cases o2 with
  | none =>
    dsimp only at h
    refine s_ifnonnullN F dX8_undo_9 ?_
    refine s_bipush (v := (-5)) F dX8_undo_12 (by decide) ?_
    have h := Option.some.inj h
    subst h
    exact s_iret F hr dX8_undo_14 rfl (Nat.le_refl _) (Nat.le_refl _) post
  | some a3 =>
    dsimp only at h
    refine s_ifnonnull (tgt := 15) F dX8_undo_9 (by decide) ?_
    refine s_aload_n F dX8_undo_15 rfl ?_
    refine s_getR F dX8_undo_16 flX8_10 (ly0 hs) (lt0 hs) rfl (p0_0 hs) ?_
    refine s_aload_n F dX8_undo_19 rfl ?_
    obtain ⟨v4, hv4, h⟩ := bd_i h
    refine s_cV (ci := 7) F dX8_undo_20 (c_X7_load hs (HB.sb ((kdX1_takeLatest hs hv1) _ rfl)) hv4) lkX8_173 okX7_load (by decide) (ly1 hs) (lt1 hs) rfl rfl (Nat.le_of_ble_eq_true rfl) (by decide) ?_
    refine s_aload_n F dX8_undo_23 rfl ?_
    refine s_getR F dX8_undo_24 flX8_19 (ly0 hs) (lt0 hs) rfl (p0_1 hs) ?_
    refine s_getI F dX8_undo_27 flX8_176 (ly21 hs) (lt21 hs) rfl ?_
    have h := Option.some.inj h
    subst h
    exact s_iret F hr dX8_undo_30 rfl (Nat.le_refl _) (Nat.le_refl _) post
set_option maxRecDepth 100000 in
set_option maxHeartbeats 4000000 in
theorem c_X8_undo {n : Nat} {Ly : LL} {I : II} {P : PP} {r : Int32 × II} (hs : ShC n Ly P)  (h : fX8_undo I P = some r) (l : Launch) (s0 : Nat) (D : va_G) (DA : Nat → ClassId) : Ct l s0 D DA mX8_undo [.inr (some 0)] 0 0 n Ly I P (PoD (some (.inl r.1)) n Ly r.2 P) := ct_of (by decide +kernel) (Nat.le_of_ble_eq_true rfl) (fun X F hr _ => bX8_undo F hs hr ⟨rfl, rfl, rfl, rfl, rfl⟩ h)
-- ChipPilers.slotAt
def fX8_slotAt (x1 : Int32) : Option (Option Nat) := (if x1 < 0 then some none else (if x1 < 2 then ck (ix x1 2) (some (some (93 + 14 * x1.toNatClampNeg))) else some none))
set_option maxRecDepth 100000 in
set_option maxHeartbeats 4000000 in
theorem bX8_slotAt {X : Cx} {n : Nat} {Ly : LL} {I : II} {P : PP} {Po : PQ} {r : Option Nat} (F : Fx X RX8 cX8_slotAt 2 1 0 0) (hs : ShC n Ly P) (hr : Fr X (some (.object "ChipPilers$Slot")) Po 0 0) (post : Po (some (.inr r)) n Ly I P) {x1 : Int32} (h : fX8_slotAt x1 = some r) : G X 2 0 0 n Ly 0 [some (.inr (some 0)), some (.inl x1)] [] I P := by
  unfold fX8_slotAt at h
  refine s_iload_n F dX8_slotAt_0 rfl ?_
  refine s_if_lt (tgt := 13) F dX8_slotAt_1 (by decide) (fun c1 => ?_) (fun c1 => ?_)
  · have h := if_t c1 h
    refine s_null F dX8_slotAt_13 ?_
    have h := Option.some.inj h
    subst h
    exact s_aret F hr dX8_slotAt_14 (Nat.le_refl _) (Nat.le_refl _) post
  · have h := if_f c1 h
    refine s_iload_n F dX8_slotAt_4 rfl ?_
    refine s_aload_n F dX8_slotAt_5 rfl ?_
    refine s_getR F dX8_slotAt_6 flX8_32 (ly0 hs) (lt0 hs) rfl (p0_3 hs) ?_
    refine s_alen (v := 2) F dX8_slotAt_9 (ly92 hs) (by decide) (lt92 hs) (by decide) ?_
    refine s_icmp_lt (tgt := 15) F dX8_slotAt_10 (by decide) (fun c2 => ?_) (fun c2 => ?_)
    · have h := if_t c2 h
      refine s_aload_n F dX8_slotAt_15 rfl ?_
      refine s_getR F dX8_slotAt_16 flX8_32 (ly0 hs) (lt0 hs) rfl (p0_3 hs) ?_
      refine s_iload_n F dX8_slotAt_19 rfl ?_
      obtain ⟨hc3, h⟩ := ck_s h
      refine s_aald F dX8_slotAt_20 (ly92 hs) (Or.inr (Or.inr rfl)) (lt92 hs) (ix_s hc3) (pSl hs (vp_lt (ix_s hc3))) ?_
      have h := Option.some.inj h
      subst h
      exact s_aret F hr dX8_slotAt_21 (Nat.le_refl _) (Nat.le_refl _) post
    · have h := if_f c2 h
      refine s_null F dX8_slotAt_13 ?_
      have h := Option.some.inj h
      subst h
      exact s_aret F hr dX8_slotAt_14 (Nat.le_refl _) (Nat.le_refl _) post
set_option maxRecDepth 100000 in
set_option maxHeartbeats 4000000 in
theorem c_X8_slotAt {n : Nat} {Ly : LL} {I : II} {P : PP} {r : Option Nat} (hs : ShC n Ly P) {x1 : Int32} (h : fX8_slotAt x1 = some r) (l : Launch) (s0 : Nat) (D : va_G) (DA : Nat → ClassId) : Ct l s0 D DA mX8_slotAt [.inr (some 0), .inl x1] 0 0 n Ly I P (PoD (some (.inr r)) n Ly I P) := ct_of (by decide +kernel) (Nat.le_of_ble_eq_true rfl) (fun X F hr _ => bX8_slotAt F hs hr ⟨rfl, rfl, rfl, rfl, rfl⟩ h)
theorem kdX8_slotAt {n : Nat} {Ly : LL} {P : PP} (_hs : ShC n Ly P) {x1 : Int32} {r : Option Nat} (h : fX8_slotAt x1 = some r) : ∀ a, r = some a → LB a := by
  intro a ha
  subst ha
  unfold fX8_slotAt at h
  repeat' (split at h)
  all_goals first | (cases h; done) | (obtain ⟨hc, h⟩ := ck_s h; cases h; exact lbSl (vp_lt (ix_s hc)))
-- ChipPilers.keep
def fX8_keep (I : II) (x1 : Int32) : Option (Int32 × II) := (fX8_slotAt x1).bind fun v1 => (match v1 with | none => some ((-1), I) | some a2 => (fX4_copyFrom I (a2 + 1) 2).bind fun v3 => (some (up2 v3 a2 1 1)).bind fun I4 => (fX4_allChips I4 2).bind fun v5 => some (v5, I4))
set_option maxRecDepth 100000 in
set_option maxHeartbeats 4000000 in
theorem bX8_keep {X : Cx} {n : Nat} {Ly : LL} {I : II} {P : PP} {Po : PQ} {r : Int32 × II} (F : Fx X RX8 cX8_keep 3 3 0 0) (hs : ShC n Ly P) (hr : Fr X (some .int) Po 0 0) (post : Po (some (.inl r.1)) n Ly r.2 P) {x1 : Int32} (h : fX8_keep I x1 = some r) : G X 3 0 0 n Ly 0 [some (.inr (some 0)), some (.inl x1), none] [] I P := by
  unfold fX8_keep at h
  refine s_aload_n F dX8_keep_0 rfl ?_
  refine s_iload_n F dX8_keep_1 rfl ?_
  obtain ⟨v1, hv1, h⟩ := bd_i h
  refine s_cV (ci := 8) F dX8_keep_2 (c_X8_slotAt hs hv1) lkX8_177 okX8_slotAt (by decide) (ly0 hs) (lt0 hs) rfl rfl (Nat.le_of_ble_eq_true rfl) (by decide) ?_
  refine s_astore_n F dX8_keep_5 (by decide) ?_
  refine s_aload_n F dX8_keep_6 rfl ?_
  cases v1 with
  | none =>
    dsimp only at h
    refine s_ifnonnullN F dX8_keep_7 ?_
    refine s_iconst (v := (-1)) F dX8_keep_10 (by decide) ?_
    have h := Option.some.inj h
    subst h
    exact s_iret F hr dX8_keep_11 rfl (Nat.le_refl _) (Nat.le_refl _) post
  | some a2 =>
    dsimp only at h
    refine s_ifnonnull (tgt := 12) F dX8_keep_7 (by decide) ?_
    refine s_aload_n F dX8_keep_12 rfl ?_
    refine s_getR F dX8_keep_13 flX8_181 (lyL hs ((kdX8_slotAt hs hv1) _ rfl)) (ltL hs ((kdX8_slotAt hs hv1) _ rfl)) rfl (pL0 hs ((kdX8_slotAt hs hv1) _ rfl)) ?_
    refine s_aload_n F dX8_keep_16 rfl ?_
    refine s_getR F dX8_keep_17 flX8_10 (ly0 hs) (lt0 hs) rfl (p0_0 hs) ?_
    refine s_getR F dX8_keep_20 flX8_48 (ly1 hs) (lt1 hs) rfl (p1_0 hs) ?_
    obtain ⟨v3, hv3, h⟩ := bd_i h
    refine s_cV (ci := 4) F dX8_keep_23 (c_X4_copyFrom hs (LB.sb ((kdX8_slotAt hs hv1) _ rfl)) sb2 hv3) lkX8_184 okX4_copyFrom (by decide) (lyS hs (LB.sb ((kdX8_slotAt hs hv1) _ rfl))) (ltSb hs (LB.sb ((kdX8_slotAt hs hv1) _ rfl))) rfl rfl (Nat.le_of_ble_eq_true rfl) (by decide) ?_
    refine s_aload_n F dX8_keep_26 rfl ?_
    refine s_iconst (v := 1) F dX8_keep_27 (by decide) ?_
    have h := bd_s h
    refine s_putI F dX8_keep_28 flX8_187 (lyL hs ((kdX8_slotAt hs hv1) _ rfl)) (ltL hs ((kdX8_slotAt hs hv1) _ rfl)) rfl rfl (by exact ⟨rfl, rfl⟩) ?_
    refine s_aload_n F dX8_keep_31 rfl ?_
    refine s_getR F dX8_keep_32 flX8_10 (ly0 hs) (lt0 hs) rfl (p0_0 hs) ?_
    refine s_getR F dX8_keep_35 flX8_48 (ly1 hs) (lt1 hs) rfl (p1_0 hs) ?_
    obtain ⟨v5, hv5, h⟩ := bd_i h
    refine s_cV (ci := 4) F dX8_keep_38 (c_X4_allChips hs sb2 hv5) lkX8_191 okX4_allChips (by decide) (lyS hs sb2) (ltSb hs sb2) rfl rfl (Nat.le_of_ble_eq_true rfl) (by decide) ?_
    have h := Option.some.inj h
    subst h
    exact s_iret F hr dX8_keep_41 rfl (Nat.le_refl _) (Nat.le_refl _) post
set_option maxRecDepth 100000 in
set_option maxHeartbeats 4000000 in
theorem c_X8_keep {n : Nat} {Ly : LL} {I : II} {P : PP} {r : Int32 × II} (hs : ShC n Ly P) {x1 : Int32} (h : fX8_keep I x1 = some r) (l : Launch) (s0 : Nat) (D : va_G) (DA : Nat → ClassId) : Ct l s0 D DA mX8_keep [.inr (some 0), .inl x1] 0 0 n Ly I P (PoD (some (.inl r.1)) n Ly r.2 P) := ct_of (by decide +kernel) (Nat.le_of_ble_eq_true rfl) (fun X F hr _ => bX8_keep F hs hr ⟨rfl, rfl, rfl, rfl, rfl⟩ h)
-- ChipPilers.restore
def fX8_restore (I : II) (P : PP) (x1 : Int32) : Option (Int32 × II × PP) := (fX8_slotAt x1).bind fun v1 => (match v1 with | none => some ((-1), I, P) | some a2 => (if ¬ (I a2 1) = 0 then (fX1_record I P 2).bind fun v4 => (fX7_load v4.1 (a2 + 1)).bind fun v5 => (fX4_allChips v5 2).bind fun v6 => some (v6, v5, v4.2) else some ((-5), I, P)))
set_option maxRecDepth 100000 in
set_option maxHeartbeats 4000000 in
theorem bX8_restore {X : Cx} {n : Nat} {Ly : LL} {I : II} {P : PP} {Po : PQ} {r : Int32 × II × PP} (F : Fx X RX8 cX8_restore 3 4 0 0) (hs : ShC n Ly P) (hr : Fr X (some .int) Po 0 0) (post : Po (some (.inl r.1)) n Ly r.2.1 r.2.2) {x1 : Int32} (h : fX8_restore I P x1 = some r) : G X 3 0 0 n Ly 0 [some (.inr (some 0)), some (.inl x1), none] [] I P := by
  unfold fX8_restore at h
  refine s_aload_n F dX8_restore_0 rfl ?_
  refine s_iload_n F dX8_restore_1 rfl ?_
  obtain ⟨v1, hv1, h⟩ := bd_i h
  refine s_cV (ci := 8) F dX8_restore_2 (c_X8_slotAt hs hv1) lkX8_177 okX8_slotAt (by decide) (ly0 hs) (lt0 hs) rfl rfl (Nat.le_of_ble_eq_true rfl) (by decide) ?_
  refine s_astore_n F dX8_restore_5 (by decide) ?_
  refine s_aload_n F dX8_restore_6 rfl ?_
  cases v1 with
  | none =>
    dsimp only at h
    refine s_ifnonnullN F dX8_restore_7 ?_
    refine s_iconst (v := (-1)) F dX8_restore_10 (by decide) ?_
    have h := Option.some.inj h
    subst h
    exact s_iret F hr dX8_restore_11 rfl (Nat.le_refl _) (Nat.le_refl _) post
  | some a2 =>
    dsimp only at h
    refine s_ifnonnull (tgt := 12) F dX8_restore_7 (by decide) ?_
    refine s_aload_n F dX8_restore_12 rfl ?_
    refine s_getI F dX8_restore_13 flX8_187 (lyL hs ((kdX8_slotAt hs hv1) _ rfl)) (ltL hs ((kdX8_slotAt hs hv1) _ rfl)) rfl ?_
    refine s_if_ne (tgt := 22) F dX8_restore_16 (by decide) (fun c3 => ?_) (fun c3 => ?_)
    · have h := if_t c3 h
      refine s_aload_n F dX8_restore_22 rfl ?_
      refine s_getR F dX8_restore_23 flX8_19 (ly0 hs) (lt0 hs) rfl (p0_1 hs) ?_
      refine s_aload_n F dX8_restore_26 rfl ?_
      refine s_getR F dX8_restore_27 flX8_10 (ly0 hs) (lt0 hs) rfl (p0_0 hs) ?_
      refine s_getR F dX8_restore_30 flX8_48 (ly1 hs) (lt1 hs) rfl (p1_0 hs) ?_
      obtain ⟨v4, hv4, h⟩ := bd_i h
      refine s_cV (ci := 1) F dX8_restore_33 (c_X1_record hs sb2 hv4) lkX8_51 okX1_record (by decide) (ly21 hs) (lt21 hs) rfl rfl (Nat.le_of_ble_eq_true rfl) (by decide) ?_
      have hs := shX1_record hs sb2 hv4
      refine s_aload_n F dX8_restore_36 rfl ?_
      refine s_getR F dX8_restore_37 flX8_10 (ly0 hs) (lt0 hs) rfl (p0_0 hs) ?_
      refine s_aload_n F dX8_restore_40 rfl ?_
      refine s_getR F dX8_restore_41 flX8_181 (lyL hs ((kdX8_slotAt hs hv1) _ rfl)) (ltL hs ((kdX8_slotAt hs hv1) _ rfl)) rfl (pL0 hs ((kdX8_slotAt hs hv1) _ rfl)) ?_
      obtain ⟨v5, hv5, h⟩ := bd_i h
      refine s_cV (ci := 7) F dX8_restore_44 (c_X7_load hs (LB.sb ((kdX8_slotAt hs hv1) _ rfl)) hv5) lkX8_173 okX7_load (by decide) (ly1 hs) (lt1 hs) rfl rfl (Nat.le_of_ble_eq_true rfl) (by decide) ?_
      refine s_aload_n F dX8_restore_47 rfl ?_
      refine s_getR F dX8_restore_48 flX8_10 (ly0 hs) (lt0 hs) rfl (p0_0 hs) ?_
      refine s_getR F dX8_restore_51 flX8_48 (ly1 hs) (lt1 hs) rfl (p1_0 hs) ?_
      obtain ⟨v6, hv6, h⟩ := bd_i h
      refine s_cV (ci := 4) F dX8_restore_54 (c_X4_allChips hs sb2 hv6) lkX8_191 okX4_allChips (by decide) (lyS hs sb2) (ltSb hs sb2) rfl rfl (Nat.le_of_ble_eq_true rfl) (by decide) ?_
      have h := Option.some.inj h
      subst h
      exact s_iret F hr dX8_restore_57 rfl (Nat.le_refl _) (Nat.le_refl _) post
    · have h := if_f (not_not_intro c3) h
      refine s_bipush (v := (-5)) F dX8_restore_19 (by decide) ?_
      have h := Option.some.inj h
      subst h
      exact s_iret F hr dX8_restore_21 rfl (Nat.le_refl _) (Nat.le_refl _) post
set_option maxRecDepth 100000 in
set_option maxHeartbeats 4000000 in
theorem c_X8_restore {n : Nat} {Ly : LL} {I : II} {P : PP} {r : Int32 × II × PP} (hs : ShC n Ly P) {x1 : Int32} (h : fX8_restore I P x1 = some r) (l : Launch) (s0 : Nat) (D : va_G) (DA : Nat → ClassId) : Ct l s0 D DA mX8_restore [.inr (some 0), .inl x1] 0 0 n Ly I P (PoD (some (.inl r.1)) n Ly r.2.1 r.2.2) := ct_of (by decide +kernel) (Nat.le_of_ble_eq_true rfl) (fun X F hr _ => bX8_restore F hs hr ⟨rfl, rfl, rfl, rfl, rfl⟩ h)
-- ChipPilers.chips
def fX8_chips (I : II) (x1 : Int32) (x2 : Int32) : Option (Int32) := (fX4_cellAt I 2 x1 x2).bind fun v1 => (if 0 ≤ v1 then (fX4_chipsOf I 2 v1).bind fun v3 => some v3 else some (-1))
set_option maxRecDepth 100000 in
set_option maxHeartbeats 4000000 in
theorem bX8_chips {X : Cx} {n : Nat} {Ly : LL} {I : II} {P : PP} {Po : PQ} {r : Int32} (F : Fx X RX8 cX8_chips 4 3 0 0) (hs : ShC n Ly P) (hr : Fr X (some .int) Po 0 0) (post : Po (some (.inl r)) n Ly I P) {x1 : Int32} {x2 : Int32} (h : fX8_chips I x1 x2 = some r) : G X 4 0 0 n Ly 0 [some (.inr (some 0)), some (.inl x1), some (.inl x2), none] [] I P := by
  unfold fX8_chips at h
  refine s_aload_n F dX8_chips_0 rfl ?_
  refine s_getR F dX8_chips_1 flX8_10 (ly0 hs) (lt0 hs) rfl (p0_0 hs) ?_
  refine s_getR F dX8_chips_4 flX8_48 (ly1 hs) (lt1 hs) rfl (p1_0 hs) ?_
  refine s_iload_n F dX8_chips_7 rfl ?_
  refine s_iload_n F dX8_chips_8 rfl ?_
  obtain ⟨v1, hv1, h⟩ := bd_i h
  refine s_cV (ci := 4) F dX8_chips_9 (c_X4_cellAt hs sb2 hv1) lkX8_59 okX4_cellAt (by decide) (lyS hs sb2) (ltSb hs sb2) rfl rfl (Nat.le_of_ble_eq_true rfl) (by decide) ?_
  refine s_istore_n F dX8_chips_12 (by decide) ?_
  refine s_iload_n F dX8_chips_13 rfl ?_
  refine s_if_ge (tgt := 19) F dX8_chips_14 (by decide) (fun c2 => ?_) (fun c2 => ?_)
  · have h := if_t c2 h
    refine s_aload_n F dX8_chips_19 rfl ?_
    refine s_getR F dX8_chips_20 flX8_10 (ly0 hs) (lt0 hs) rfl (p0_0 hs) ?_
    refine s_getR F dX8_chips_23 flX8_48 (ly1 hs) (lt1 hs) rfl (p1_0 hs) ?_
    refine s_iload_n F dX8_chips_26 rfl ?_
    obtain ⟨v3, hv3, h⟩ := bd_i h
    refine s_cV (ci := 4) F dX8_chips_27 (c_X4_chipsOf hs sb2 hv3) lkX8_63 okX4_chipsOf (by decide) (lyS hs sb2) (ltSb hs sb2) rfl rfl (Nat.le_of_ble_eq_true rfl) (by decide) ?_
    have h := Option.some.inj h
    subst h
    exact s_iret F hr dX8_chips_30 rfl (Nat.le_refl _) (Nat.le_refl _) post
  · have h := if_f c2 h
    refine s_iconst (v := (-1)) F dX8_chips_17 (by decide) ?_
    have h := Option.some.inj h
    subst h
    exact s_iret F hr dX8_chips_18 rfl (Nat.le_refl _) (Nat.le_refl _) post
set_option maxRecDepth 100000 in
set_option maxHeartbeats 4000000 in
theorem c_X8_chips {n : Nat} {Ly : LL} {I : II} {P : PP} {r : Int32} (hs : ShC n Ly P) {x1 : Int32} {x2 : Int32} (h : fX8_chips I x1 x2 = some r) (l : Launch) (s0 : Nat) (D : va_G) (DA : Nat → ClassId) : Ct l s0 D DA mX8_chips [.inr (some 0), .inl x1, .inl x2] 0 0 n Ly I P (PoD (some (.inl r)) n Ly I P) := ct_of (by decide +kernel) (Nat.le_of_ble_eq_true rfl) (fun X F hr _ => bX8_chips F hs hr ⟨rfl, rfl, rfl, rfl, rfl⟩ h)
-- ChipPilers.walker
def fX8_walker (I : II) (x1 : Int32) (x2 : Int32) : Option (Int32) := (fX4_walkerAt I 2 x1).bind fun v1 => (match v1 with | none => some (-1) | some a2 => (if x2 = 0 then some (I a2 0) else if x2 = 1 then some (I a2 1) else if x2 = 2 then some (I a2 2) else if x2 = 3 then some (I a2 3) else if x2 = 4 then some (I a2 4) else if x2 = 5 then some (I a2 5) else if x2 = 6 then some (I a2 6) else if x2 = 7 then some (I a2 7) else if x2 = 8 then some (I a2 8) else some (-2)))
set_option maxRecDepth 100000 in
set_option maxHeartbeats 4000000 in
theorem bX8_walker {X : Cx} {n : Nat} {Ly : LL} {I : II} {P : PP} {Po : PQ} {r : Int32} (F : Fx X RX8 cX8_walker 4 2 0 0) (hs : ShC n Ly P) (hr : Fr X (some .int) Po 0 0) (post : Po (some (.inl r)) n Ly I P) {x1 : Int32} {x2 : Int32} (h : fX8_walker I x1 x2 = some r) : G X 4 0 0 n Ly 0 [some (.inr (some 0)), some (.inl x1), some (.inl x2), none] [] I P := by
  unfold fX8_walker at h
  refine s_aload_n F dX8_walker_0 rfl ?_
  refine s_getR F dX8_walker_1 flX8_10 (ly0 hs) (lt0 hs) rfl (p0_0 hs) ?_
  refine s_getR F dX8_walker_4 flX8_48 (ly1 hs) (lt1 hs) rfl (p1_0 hs) ?_
  refine s_iload_n F dX8_walker_7 rfl ?_
  obtain ⟨v1, hv1, h⟩ := bd_i h
  refine s_cV (ci := 4) F dX8_walker_8 (c_X4_walkerAt hs sb2 hv1) lkX8_82 okX4_walkerAt (by decide) (lyS hs sb2) (ltSb hs sb2) rfl rfl (Nat.le_of_ble_eq_true rfl) (by decide) ?_
  refine s_astore_n F dX8_walker_11 (by decide) ?_
  refine s_aload_n F dX8_walker_12 rfl ?_
  cases v1 with
  | none =>
    dsimp only at h
    refine s_ifnonnullN F dX8_walker_13 ?_
    refine s_iconst (v := (-1)) F dX8_walker_16 (by decide) ?_
    have h := Option.some.inj h
    subst h
    exact s_iret F hr dX8_walker_17 rfl (Nat.le_refl _) (Nat.le_refl _) post
  | some a2 =>
    dsimp only at h
    refine s_ifnonnull (tgt := 18) F dX8_walker_13 (by decide) ?_
    refine s_iload_n F dX8_walker_18 rfl ?_
    by_cases e3 : x2 = 0
    · have h := if_t e3 h
      refine s_swC (off := 49) (tgt := 68) F dX8_walker_19 e3 (by decide +kernel) ?_
      refine s_aload_n F dX8_walker_68 rfl ?_
      refine s_getI F dX8_walker_69 flX8_194 (lyW hs ((kdX4_walkerAt hs sb2 hv1) _ rfl)) (ltW hs ((kdX4_walkerAt hs sb2 hv1) _ rfl)) rfl ?_
      have h := Option.some.inj h
      subst h
      exact s_iret F hr dX8_walker_72 rfl (Nat.le_refl _) (Nat.le_refl _) post
    have h := if_f e3 h
    by_cases e4 : x2 = 1
    · have h := if_t e4 h
      refine s_swC (off := 54) (tgt := 73) F dX8_walker_19 e4 (by decide +kernel) ?_
      refine s_aload_n F dX8_walker_73 rfl ?_
      refine s_getI F dX8_walker_74 flX8_197 (lyW hs ((kdX4_walkerAt hs sb2 hv1) _ rfl)) (ltW hs ((kdX4_walkerAt hs sb2 hv1) _ rfl)) rfl ?_
      have h := Option.some.inj h
      subst h
      exact s_iret F hr dX8_walker_77 rfl (Nat.le_refl _) (Nat.le_refl _) post
    have h := if_f e4 h
    by_cases e5 : x2 = 2
    · have h := if_t e5 h
      refine s_swC (off := 59) (tgt := 78) F dX8_walker_19 e5 (by decide +kernel) ?_
      refine s_aload_n F dX8_walker_78 rfl ?_
      refine s_getI F dX8_walker_79 flX8_200 (lyW hs ((kdX4_walkerAt hs sb2 hv1) _ rfl)) (ltW hs ((kdX4_walkerAt hs sb2 hv1) _ rfl)) rfl ?_
      have h := Option.some.inj h
      subst h
      exact s_iret F hr dX8_walker_82 rfl (Nat.le_refl _) (Nat.le_refl _) post
    have h := if_f e5 h
    by_cases e6 : x2 = 3
    · have h := if_t e6 h
      refine s_swC (off := 64) (tgt := 83) F dX8_walker_19 e6 (by decide +kernel) ?_
      refine s_aload_n F dX8_walker_83 rfl ?_
      refine s_getI F dX8_walker_84 flX8_99 (lyW hs ((kdX4_walkerAt hs sb2 hv1) _ rfl)) (ltW hs ((kdX4_walkerAt hs sb2 hv1) _ rfl)) rfl ?_
      have h := Option.some.inj h
      subst h
      exact s_iret F hr dX8_walker_87 rfl (Nat.le_refl _) (Nat.le_refl _) post
    have h := if_f e6 h
    by_cases e7 : x2 = 4
    · have h := if_t e7 h
      refine s_swC (off := 69) (tgt := 88) F dX8_walker_19 e7 (by decide +kernel) ?_
      refine s_aload_n F dX8_walker_88 rfl ?_
      refine s_getI F dX8_walker_89 flX8_203 (lyW hs ((kdX4_walkerAt hs sb2 hv1) _ rfl)) (ltW hs ((kdX4_walkerAt hs sb2 hv1) _ rfl)) rfl ?_
      have h := Option.some.inj h
      subst h
      exact s_iret F hr dX8_walker_92 rfl (Nat.le_refl _) (Nat.le_refl _) post
    have h := if_f e7 h
    by_cases e8 : x2 = 5
    · have h := if_t e8 h
      refine s_swC (off := 74) (tgt := 93) F dX8_walker_19 e8 (by decide +kernel) ?_
      refine s_aload_n F dX8_walker_93 rfl ?_
      refine s_getI F dX8_walker_94 flX8_92 (lyW hs ((kdX4_walkerAt hs sb2 hv1) _ rfl)) (ltW hs ((kdX4_walkerAt hs sb2 hv1) _ rfl)) rfl ?_
      have h := Option.some.inj h
      subst h
      exact s_iret F hr dX8_walker_97 rfl (Nat.le_refl _) (Nat.le_refl _) post
    have h := if_f e8 h
    by_cases e9 : x2 = 6
    · have h := if_t e9 h
      refine s_swC (off := 79) (tgt := 98) F dX8_walker_19 e9 (by decide +kernel) ?_
      refine s_aload_n F dX8_walker_98 rfl ?_
      refine s_getI F dX8_walker_99 flX8_206 (lyW hs ((kdX4_walkerAt hs sb2 hv1) _ rfl)) (ltW hs ((kdX4_walkerAt hs sb2 hv1) _ rfl)) rfl ?_
      have h := Option.some.inj h
      subst h
      exact s_iret F hr dX8_walker_102 rfl (Nat.le_refl _) (Nat.le_refl _) post
    have h := if_f e9 h
    by_cases e10 : x2 = 7
    · have h := if_t e10 h
      refine s_swC (off := 84) (tgt := 103) F dX8_walker_19 e10 (by decide +kernel) ?_
      refine s_aload_n F dX8_walker_103 rfl ?_
      refine s_getI F dX8_walker_104 flX8_209 (lyW hs ((kdX4_walkerAt hs sb2 hv1) _ rfl)) (ltW hs ((kdX4_walkerAt hs sb2 hv1) _ rfl)) rfl ?_
      have h := Option.some.inj h
      subst h
      exact s_iret F hr dX8_walker_107 rfl (Nat.le_refl _) (Nat.le_refl _) post
    have h := if_f e10 h
    by_cases e11 : x2 = 8
    · have h := if_t e11 h
      refine s_swC (off := 89) (tgt := 108) F dX8_walker_19 e11 (by decide +kernel) ?_
      refine s_aload_n F dX8_walker_108 rfl ?_
      refine s_getI F dX8_walker_109 flX8_212 (lyW hs ((kdX4_walkerAt hs sb2 hv1) _ rfl)) (ltW hs ((kdX4_walkerAt hs sb2 hv1) _ rfl)) rfl ?_
      have h := Option.some.inj h
      subst h
      exact s_iret F hr dX8_walker_112 rfl (Nat.le_refl _) (Nat.le_refl _) post
    have h := if_f e11 h
    refine s_swOut (tgt := 113) F dX8_walker_19 (by have q0 := lv_neT (a := 0) e3 (by decide); have q1 := lv_neT (a := 1) e4 (by decide); have q2 := lv_neT (a := 2) e5 (by decide); have q3 := lv_neT (a := 3) e6 (by decide); have q4 := lv_neT (a := 4) e7 (by decide); have q5 := lv_neT (a := 5) e8 (by decide); have q6 := lv_neT (a := 6) e9 (by decide); have q7 := lv_neT (a := 7) e10 (by decide); have q8 := lv_neT (a := 8) e11 (by decide); omega) (by decide) ?_
    refine s_bipush (v := (-2)) F dX8_walker_113 (by decide) ?_
    have h := Option.some.inj h
    subst h
    exact s_iret F hr dX8_walker_115 rfl (Nat.le_refl _) (Nat.le_refl _) post
set_option maxRecDepth 100000 in
set_option maxHeartbeats 4000000 in
theorem c_X8_walker {n : Nat} {Ly : LL} {I : II} {P : PP} {r : Int32} (hs : ShC n Ly P) {x1 : Int32} {x2 : Int32} (h : fX8_walker I x1 x2 = some r) (l : Launch) (s0 : Nat) (D : va_G) (DA : Nat → ClassId) : Ct l s0 D DA mX8_walker [.inr (some 0), .inl x1, .inl x2] 0 0 n Ly I P (PoD (some (.inl r)) n Ly I P) := ct_of (by decide +kernel) (Nat.le_of_ble_eq_true rfl) (fun X F hr _ => bX8_walker F hs hr ⟨rfl, rfl, rfl, rfl, rfl⟩ h)
-- ChipPilers.heap
def fX8_heap (I : II) (x1 : Int32) (x2 : Int32) : Option (Int32 × II) := (if x1 < 0 then some ((-2), I) else (fX8_isBetween x2 0 4).bind fun v2 => (if ¬ v2 = 0 then (fX0_numberIn I 3).bind fun v4 => (if x1 < v4.1 then (fX0_heapAt v4.2 x1).bind fun v6 => (if v6 < 0 then some ((-5), v4.2) else (if v6 < 128 then (if x2 = 0 then ck (ix v6 128) (some ((v4.2 16 v6.toNatClampNeg), v4.2)) else if x2 = 1 then ck (ix v6 128) (some ((v4.2 17 v6.toNatClampNeg), v4.2)) else if x2 = 2 then ck (ix v6 128) (some (((v4.2 18 v6.toNatClampNeg) / 16), v4.2)) else if x2 = 3 then ck (ix v6 128) (some ((rm (v4.2 18 v6.toNatClampNeg) 16), v4.2)) else (fX0_mostChips v4.2 3 v6).bind fun v17 => some (v17, v4.2)) else some ((-5), v4.2))) else some ((-5), v4.2)) else some ((-2), I)))
set_option maxRecDepth 100000 in
set_option maxHeartbeats 4000000 in
theorem bX8_heap {X : Cx} {n : Nat} {Ly : LL} {I : II} {P : PP} {Po : PQ} {r : Int32 × II} (F : Fx X RX8 cX8_heap 5 4 0 0) (hs : ShC n Ly P) (hr : Fr X (some .int) Po 0 0) (post : Po (some (.inl r.1)) n Ly r.2 P) {x1 : Int32} {x2 : Int32} (h : fX8_heap I x1 x2 = some r) : G X 5 0 0 n Ly 0 [some (.inr (some 0)), some (.inl x1), some (.inl x2), none, none] [] I P := by
  unfold fX8_heap at h
  refine s_iload_n F dX8_heap_0 rfl ?_
  refine s_if_lt (tgt := 13) F dX8_heap_1 (by decide) (fun c1 => ?_) (fun c1 => ?_)
  · have h := if_t c1 h
    refine s_bipush (v := (-2)) F dX8_heap_13 (by decide) ?_
    have h := Option.some.inj h
    subst h
    exact s_iret F hr dX8_heap_15 rfl (Nat.le_refl _) (Nat.le_refl _) post
  · have h := if_f c1 h
    refine s_iload_n F dX8_heap_4 rfl ?_
    refine s_iconst (v := 0) F dX8_heap_5 (by decide) ?_
    refine s_iconst (v := 4) F dX8_heap_6 (by decide) ?_
    obtain ⟨v2, hv2, h⟩ := bd_i h
    refine s_cS F dX8_heap_7 (c_X8_isBetween hs hv2) lkX8_44 okX8_isBetween rfl (Nat.le_of_ble_eq_true rfl) (by decide) ?_
    refine s_if_ne (tgt := 16) F dX8_heap_10 (by decide) (fun c3 => ?_) (fun c3 => ?_)
    · have h := if_t c3 h
      refine s_aload_n F dX8_heap_16 rfl ?_
      refine s_getR F dX8_heap_17 flX8_10 (ly0 hs) (lt0 hs) rfl (p0_0 hs) ?_
      refine s_getR F dX8_heap_20 flX8_128 (ly1 hs) (lt1 hs) rfl (p1_1 hs) ?_
      refine s_astore_n F dX8_heap_23 (by decide) ?_
      refine s_iload_n F dX8_heap_24 rfl ?_
      refine s_aload_n F dX8_heap_25 rfl ?_
      refine s_aload_n F dX8_heap_26 rfl ?_
      refine s_getR F dX8_heap_27 flX8_10 (ly0 hs) (lt0 hs) rfl (p0_0 hs) ?_
      refine s_getR F dX8_heap_30 flX8_48 (ly1 hs) (lt1 hs) rfl (p1_0 hs) ?_
      refine s_getR F dX8_heap_33 flX8_132 (lyS hs sb2) (ltSb hs sb2) rfl (pS2 hs sb2) ?_
      obtain ⟨v4, hv4, h⟩ := bd_i h
      refine s_cV (ci := 0) F dX8_heap_36 (c_X0_numberIn hs ⟨_, sb2, rfl⟩ hv4) lkX8_136 okX0_numberIn (by decide) (ly15 hs) (lt15 hs) rfl rfl (Nat.le_of_ble_eq_true rfl) (by decide) ?_
      refine s_icmp_lt (tgt := 45) F dX8_heap_39 (by decide) (fun c5 => ?_) (fun c5 => ?_)
      · have h := if_t c5 h
        refine s_aload_n F dX8_heap_45 rfl ?_
        refine s_iload_n F dX8_heap_46 rfl ?_
        obtain ⟨v6, hv6, h⟩ := bd_i h
        refine s_cV (ci := 0) F dX8_heap_47 (c_X0_heapAt hs hv6) lkX8_215 okX0_heapAt (by decide) (ly15 hs) (lt15 hs) rfl rfl (Nat.le_of_ble_eq_true rfl) (by decide) ?_
        refine s_istore F dX8_heap_50 (by decide) ?_
        refine s_iload F dX8_heap_52 rfl ?_
        refine s_if_lt (tgt := 65) F dX8_heap_54 (by decide) (fun c7 => ?_) (fun c7 => ?_)
        · have h := if_t c7 h
          refine s_bipush (v := (-5)) F dX8_heap_65 (by decide) ?_
          have h := Option.some.inj h
          subst h
          exact s_iret F hr dX8_heap_67 rfl (Nat.le_refl _) (Nat.le_refl _) post
        · have h := if_f c7 h
          refine s_iload F dX8_heap_57 rfl ?_
          refine s_sipush (v := 128) F dX8_heap_59 (by decide) ?_
          refine s_icmp_lt (tgt := 68) F dX8_heap_62 (by decide) (fun c8 => ?_) (fun c8 => ?_)
          · have h := if_t c8 h
            refine s_iload_n F dX8_heap_68 rfl ?_
            by_cases e9 : x2 = 0
            · have h := if_t e9 h
              refine s_swC (off := 31) (tgt := 100) F dX8_heap_69 e9 (by decide +kernel) ?_
              refine s_aload_n F dX8_heap_100 rfl ?_
              refine s_getR F dX8_heap_101 flX8_218 (ly15 hs) (lt15 hs) rfl (p15_0 hs) ?_
              refine s_iload F dX8_heap_104 rfl ?_
              obtain ⟨hc10, h⟩ := ck_s h
              refine s_iald F dX8_heap_106 (ly16 hs) (lt16 hs) (ix_s hc10) ?_
              have h := Option.some.inj h
              subst h
              exact s_iret F hr dX8_heap_107 rfl (Nat.le_refl _) (Nat.le_refl _) post
            have h := if_f e9 h
            by_cases e11 : x2 = 1
            · have h := if_t e11 h
              refine s_swC (off := 39) (tgt := 108) F dX8_heap_69 e11 (by decide +kernel) ?_
              refine s_aload_n F dX8_heap_108 rfl ?_
              refine s_getR F dX8_heap_109 flX8_221 (ly15 hs) (lt15 hs) rfl (p15_1 hs) ?_
              refine s_iload F dX8_heap_112 rfl ?_
              obtain ⟨hc12, h⟩ := ck_s h
              refine s_iald F dX8_heap_114 (ly17 hs) (lt17 hs) (ix_s hc12) ?_
              have h := Option.some.inj h
              subst h
              exact s_iret F hr dX8_heap_115 rfl (Nat.le_refl _) (Nat.le_refl _) post
            have h := if_f e11 h
            by_cases e13 : x2 = 2
            · have h := if_t e13 h
              refine s_swC (off := 47) (tgt := 116) F dX8_heap_69 e13 (by decide +kernel) ?_
              refine s_aload_n F dX8_heap_116 rfl ?_
              refine s_getR F dX8_heap_117 flX8_224 (ly15 hs) (lt15 hs) rfl (p15_2 hs) ?_
              refine s_iload F dX8_heap_120 rfl ?_
              obtain ⟨hc14, h⟩ := ck_s h
              refine s_iald F dX8_heap_122 (ly18 hs) (lt18 hs) (ix_s hc14) ?_
              refine s_bipush (v := 16) F dX8_heap_123 (by decide) ?_
              refine s_idiv F dX8_heap_125 (by decide) ?_
              have h := Option.some.inj h
              subst h
              exact s_iret F hr dX8_heap_126 rfl (Nat.le_refl _) (Nat.le_refl _) post
            have h := if_f e13 h
            by_cases e15 : x2 = 3
            · have h := if_t e15 h
              refine s_swC (off := 58) (tgt := 127) F dX8_heap_69 e15 (by decide +kernel) ?_
              refine s_aload_n F dX8_heap_127 rfl ?_
              refine s_getR F dX8_heap_128 flX8_224 (ly15 hs) (lt15 hs) rfl (p15_2 hs) ?_
              refine s_iload F dX8_heap_131 rfl ?_
              obtain ⟨hc16, h⟩ := ck_s h
              refine s_iald F dX8_heap_133 (ly18 hs) (lt18 hs) (ix_s hc16) ?_
              refine s_bipush (v := 16) F dX8_heap_134 (by decide) ?_
              refine s_rem F dX8_heap_136 (by decide) ?_
              have h := Option.some.inj h
              subst h
              exact s_iret F hr dX8_heap_137 rfl (Nat.le_refl _) (Nat.le_refl _) post
            have h := if_f e15 h
            refine s_swOut (tgt := 138) F dX8_heap_69 (by have q0 := lv_neT (a := 0) e9 (by decide); have q1 := lv_neT (a := 1) e11 (by decide); have q2 := lv_neT (a := 2) e13 (by decide); have q3 := lv_neT (a := 3) e15 (by decide); omega) (by decide) ?_
            refine s_aload_n F dX8_heap_138 rfl ?_
            refine s_aload_n F dX8_heap_139 rfl ?_
            refine s_getR F dX8_heap_140 flX8_10 (ly0 hs) (lt0 hs) rfl (p0_0 hs) ?_
            refine s_getR F dX8_heap_143 flX8_48 (ly1 hs) (lt1 hs) rfl (p1_0 hs) ?_
            refine s_getR F dX8_heap_146 flX8_132 (lyS hs sb2) (ltSb hs sb2) rfl (pS2 hs sb2) ?_
            refine s_iload F dX8_heap_149 rfl ?_
            obtain ⟨v17, hv17, h⟩ := bd_i h
            refine s_cV (ci := 0) F dX8_heap_151 (c_X0_mostChips hs ⟨_, sb2, rfl⟩ hv17) lkX8_227 okX0_mostChips (by decide) (ly15 hs) (lt15 hs) rfl rfl (Nat.le_of_ble_eq_true rfl) (by decide) ?_
            have h := Option.some.inj h
            subst h
            exact s_iret F hr dX8_heap_154 rfl (Nat.le_refl _) (Nat.le_refl _) post
          · have h := if_f c8 h
            refine s_bipush (v := (-5)) F dX8_heap_65 (by decide) ?_
            have h := Option.some.inj h
            subst h
            exact s_iret F hr dX8_heap_67 rfl (Nat.le_refl _) (Nat.le_refl _) post
      · have h := if_f c5 h
        refine s_bipush (v := (-5)) F dX8_heap_42 (by decide) ?_
        have h := Option.some.inj h
        subst h
        exact s_iret F hr dX8_heap_44 rfl (Nat.le_refl _) (Nat.le_refl _) post
    · have h := if_f (not_not_intro c3) h
      refine s_bipush (v := (-2)) F dX8_heap_13 (by decide) ?_
      have h := Option.some.inj h
      subst h
      exact s_iret F hr dX8_heap_15 rfl (Nat.le_refl _) (Nat.le_refl _) post
set_option maxRecDepth 100000 in
set_option maxHeartbeats 4000000 in
theorem c_X8_heap {n : Nat} {Ly : LL} {I : II} {P : PP} {r : Int32 × II} (hs : ShC n Ly P) {x1 : Int32} {x2 : Int32} (h : fX8_heap I x1 x2 = some r) (l : Launch) (s0 : Nat) (D : va_G) (DA : Nat → ClassId) : Ct l s0 D DA mX8_heap [.inr (some 0), .inl x1, .inl x2] 0 0 n Ly I P (PoD (some (.inl r.1)) n Ly r.2 P) := ct_of (by decide +kernel) (Nat.le_of_ble_eq_true rfl) (fun X F hr _ => bX8_heap F hs hr ⟨rfl, rfl, rfl, rfl, rfl⟩ h)
-- ChipPilers.heapOf
def fX8_heapOf (I : II) (x1 : Int32) (x2 : Int32) : Option (Int32 × II) := (fX4_cellAt I 2 x1 x2).bind fun v1 => (if 0 ≤ v1 then (fX4_chipsOf I 2 v1).bind fun v3 => (if ¬ v3 = 0 then (fX0_numberIn I 3).bind fun v5 => (fX0_heapWith v5.2 v1).bind fun v6 => (fX0_placeOf v5.2 v6).bind fun v7 => some (v7, v5.2) else some ((-5), I)) else some ((-1), I))
set_option maxRecDepth 100000 in
set_option maxHeartbeats 4000000 in
theorem bX8_heapOf {X : Cx} {n : Nat} {Ly : LL} {I : II} {P : PP} {Po : PQ} {r : Int32 × II} (F : Fx X RX8 cX8_heapOf 4 4 0 0) (hs : ShC n Ly P) (hr : Fr X (some .int) Po 0 0) (post : Po (some (.inl r.1)) n Ly r.2 P) {x1 : Int32} {x2 : Int32} (h : fX8_heapOf I x1 x2 = some r) : G X 4 0 0 n Ly 0 [some (.inr (some 0)), some (.inl x1), some (.inl x2), none] [] I P := by
  unfold fX8_heapOf at h
  refine s_aload_n F dX8_heapOf_0 rfl ?_
  refine s_getR F dX8_heapOf_1 flX8_10 (ly0 hs) (lt0 hs) rfl (p0_0 hs) ?_
  refine s_getR F dX8_heapOf_4 flX8_48 (ly1 hs) (lt1 hs) rfl (p1_0 hs) ?_
  refine s_iload_n F dX8_heapOf_7 rfl ?_
  refine s_iload_n F dX8_heapOf_8 rfl ?_
  obtain ⟨v1, hv1, h⟩ := bd_i h
  refine s_cV (ci := 4) F dX8_heapOf_9 (c_X4_cellAt hs sb2 hv1) lkX8_59 okX4_cellAt (by decide) (lyS hs sb2) (ltSb hs sb2) rfl rfl (Nat.le_of_ble_eq_true rfl) (by decide) ?_
  refine s_istore_n F dX8_heapOf_12 (by decide) ?_
  refine s_iload_n F dX8_heapOf_13 rfl ?_
  refine s_if_ge (tgt := 19) F dX8_heapOf_14 (by decide) (fun c2 => ?_) (fun c2 => ?_)
  · have h := if_t c2 h
    refine s_aload_n F dX8_heapOf_19 rfl ?_
    refine s_getR F dX8_heapOf_20 flX8_10 (ly0 hs) (lt0 hs) rfl (p0_0 hs) ?_
    refine s_getR F dX8_heapOf_23 flX8_48 (ly1 hs) (lt1 hs) rfl (p1_0 hs) ?_
    refine s_iload_n F dX8_heapOf_26 rfl ?_
    obtain ⟨v3, hv3, h⟩ := bd_i h
    refine s_cV (ci := 4) F dX8_heapOf_27 (c_X4_chipsOf hs sb2 hv3) lkX8_63 okX4_chipsOf (by decide) (lyS hs sb2) (ltSb hs sb2) rfl rfl (Nat.le_of_ble_eq_true rfl) (by decide) ?_
    refine s_if_ne (tgt := 36) F dX8_heapOf_30 (by decide) (fun c4 => ?_) (fun c4 => ?_)
    · have h := if_t c4 h
      refine s_aload_n F dX8_heapOf_36 rfl ?_
      refine s_getR F dX8_heapOf_37 flX8_10 (ly0 hs) (lt0 hs) rfl (p0_0 hs) ?_
      refine s_getR F dX8_heapOf_40 flX8_128 (ly1 hs) (lt1 hs) rfl (p1_1 hs) ?_
      refine s_aload_n F dX8_heapOf_43 rfl ?_
      refine s_getR F dX8_heapOf_44 flX8_10 (ly0 hs) (lt0 hs) rfl (p0_0 hs) ?_
      refine s_getR F dX8_heapOf_47 flX8_48 (ly1 hs) (lt1 hs) rfl (p1_0 hs) ?_
      refine s_getR F dX8_heapOf_50 flX8_132 (lyS hs sb2) (ltSb hs sb2) rfl (pS2 hs sb2) ?_
      obtain ⟨v5, hv5, h⟩ := bd_i h
      refine s_cV (ci := 0) F dX8_heapOf_53 (c_X0_numberIn hs ⟨_, sb2, rfl⟩ hv5) lkX8_136 okX0_numberIn (by decide) (ly15 hs) (lt15 hs) rfl rfl (Nat.le_of_ble_eq_true rfl) (by decide) ?_
      refine s_pop F dX8_heapOf_56 ?_
      refine s_aload_n F dX8_heapOf_57 rfl ?_
      refine s_getR F dX8_heapOf_58 flX8_10 (ly0 hs) (lt0 hs) rfl (p0_0 hs) ?_
      refine s_getR F dX8_heapOf_61 flX8_128 (ly1 hs) (lt1 hs) rfl (p1_1 hs) ?_
      refine s_aload_n F dX8_heapOf_64 rfl ?_
      refine s_getR F dX8_heapOf_65 flX8_10 (ly0 hs) (lt0 hs) rfl (p0_0 hs) ?_
      refine s_getR F dX8_heapOf_68 flX8_128 (ly1 hs) (lt1 hs) rfl (p1_1 hs) ?_
      refine s_iload_n F dX8_heapOf_71 rfl ?_
      obtain ⟨v6, hv6, h⟩ := bd_i h
      refine s_cV (ci := 0) F dX8_heapOf_72 (c_X0_heapWith hs hv6) lkX8_231 okX0_heapWith (by decide) (ly15 hs) (lt15 hs) rfl rfl (Nat.le_of_ble_eq_true rfl) (by decide) ?_
      obtain ⟨v7, hv7, h⟩ := bd_i h
      refine s_cV (ci := 0) F dX8_heapOf_75 (c_X0_placeOf hs hv7) lkX8_234 okX0_placeOf (by decide) (ly15 hs) (lt15 hs) rfl rfl (Nat.le_of_ble_eq_true rfl) (by decide) ?_
      have h := Option.some.inj h
      subst h
      exact s_iret F hr dX8_heapOf_78 rfl (Nat.le_refl _) (Nat.le_refl _) post
    · have h := if_f (not_not_intro c4) h
      refine s_bipush (v := (-5)) F dX8_heapOf_33 (by decide) ?_
      have h := Option.some.inj h
      subst h
      exact s_iret F hr dX8_heapOf_35 rfl (Nat.le_refl _) (Nat.le_refl _) post
  · have h := if_f c2 h
    refine s_iconst (v := (-1)) F dX8_heapOf_17 (by decide) ?_
    have h := Option.some.inj h
    subst h
    exact s_iret F hr dX8_heapOf_18 rfl (Nat.le_refl _) (Nat.le_refl _) post
set_option maxRecDepth 100000 in
set_option maxHeartbeats 4000000 in
theorem c_X8_heapOf {n : Nat} {Ly : LL} {I : II} {P : PP} {r : Int32 × II} (hs : ShC n Ly P) {x1 : Int32} {x2 : Int32} (h : fX8_heapOf I x1 x2 = some r) (l : Launch) (s0 : Nat) (D : va_G) (DA : Nat → ClassId) : Ct l s0 D DA mX8_heapOf [.inr (some 0), .inl x1, .inl x2] 0 0 n Ly I P (PoD (some (.inl r.1)) n Ly r.2 P) := ct_of (by decide +kernel) (Nat.le_of_ble_eq_true rfl) (fun X F hr _ => bX8_heapOf F hs hr ⟨rfl, rfl, rfl, rfl, rfl⟩ h)
-- ChipPilers.roundsUntil
def fX8_roundsUntil_L75 : Nat → (Int32 → II → Option (Int32 × II)) → Int32 → Int32 → Int32 → II → Option (Int32 × II)
  | 0, _, _, _, _, _ => none
  | k + 1, ct, x1, x2, x3, I => (if 200 < x3 then ct x2 I else (if ¬ x2 = (-5) then ct x2 I else (fX7_makeRounds I 1).bind fun v9 => (fX0_numberIn v9 3).bind fun v10 => (if x1 < v10.1 then fX8_roundsUntil_L75 k ct x1 x2 (x3 + 1) v10.2 else fX8_roundsUntil_L75 k ct x1 x3 (x3 + 1) v10.2)))
def fX8_roundsUntil (I : II) (x1 : Int32) : Option (Int32 × II) := (fX8_isBetween x1 0 256).bind fun v1 => (if ¬ v1 = 0 then (fX0_numberIn I 3).bind fun v3 => (if x1 < v3.1 then (if ¬ (v3.2 2 4) = 0 then (fX4_copyFrom v3.2 121 2).bind fun v6 => fX8_roundsUntil_L75 2000 (fun z12 I13 => (fX7_load I13 121).bind fun v14 => some (z12, v14)) x1 (-5) 1 v6 else some ((-5), v3.2)) else some (0, v3.2)) else some ((-2), I))
set_option maxRecDepth 100000 in
set_option maxHeartbeats 4000000 in
theorem lX8_roundsUntil_L75 {X : Cx} {n : Nat} {Ly : LL} {P : PP} {Po : PQ} {r : Int32 × II} (F : Fx X RX8 cX8_roundsUntil 4 7 0 0) (hs : ShC n Ly P) (hr : Fr X (some .int) Po 0 0) (post : Po (some (.inl r.1)) n Ly r.2 P) {x1 : Int32} {ct : Int32 → II → Option (Int32 × II)} (hct : ∀ (x2 : Int32) (I : II), ct x2 I = some r → G X 4 0 0 n Ly 128 [some (.inr (some 0)), none, some (.inl x2), none] [] I P) : ∀ (k : Nat) (x2 : Int32) (x3 : Int32) (I : II), fX8_roundsUntil_L75 k ct x1 x2 x3 I = some r → G X 4 0 0 n Ly 75 [some (.inr (some 0)), some (.inl x1), some (.inl x2), some (.inl x3)] [] I P := by
  intro k
  induction k with
  | zero =>
    intro x2 x3 I h
    cases h
  | succ k ih =>
    intro x2 x3 I h
    rw [fX8_roundsUntil_L75] at h
    refine s_iload_n F dX8_roundsUntil_75 rfl ?_
    refine s_sipush (v := 200) F dX8_roundsUntil_76 (by decide) ?_
    refine s_icmp_gt (tgt := 128) F dX8_roundsUntil_79 (by decide) (fun c7 => ?_) (fun c7 => ?_)
    · have h := if_t c7 h
      exact G.weak (by exact ⟨rfl, ⟨rfl, trivial⟩⟩) (hct _ _ h)
    · have h := if_f c7 h
      refine s_iload_n F dX8_roundsUntil_82 rfl ?_
      refine s_bipush (v := (-5)) F dX8_roundsUntil_83 (by decide) ?_
      refine s_icmp_ne (tgt := 128) F dX8_roundsUntil_85 (by decide) (fun c8 => ?_) (fun c8 => ?_)
      · have h := if_t c8 h
        exact G.weak (by exact ⟨rfl, ⟨rfl, trivial⟩⟩) (hct _ _ h)
      · have h := if_f (not_not_intro c8) h
        refine s_aload_n F dX8_roundsUntil_88 rfl ?_
        refine s_getR F dX8_roundsUntil_89 flX8_10 (ly0 hs) (lt0 hs) rfl (p0_0 hs) ?_
        refine s_iconst (v := 1) F dX8_roundsUntil_92 (by decide) ?_
        obtain ⟨v9, hv9, h⟩ := bd_i h
        refine s_cV (ci := 7) F dX8_roundsUntil_93 (c_X7_makeRounds hs hv9) lkX8_125 okX7_makeRounds (by decide) (ly1 hs) (lt1 hs) rfl rfl (Nat.le_of_ble_eq_true rfl) (by decide) ?_
        refine s_aload_n F dX8_roundsUntil_96 rfl ?_
        refine s_getR F dX8_roundsUntil_97 flX8_10 (ly0 hs) (lt0 hs) rfl (p0_0 hs) ?_
        refine s_getR F dX8_roundsUntil_100 flX8_128 (ly1 hs) (lt1 hs) rfl (p1_1 hs) ?_
        refine s_aload_n F dX8_roundsUntil_103 rfl ?_
        refine s_getR F dX8_roundsUntil_104 flX8_10 (ly0 hs) (lt0 hs) rfl (p0_0 hs) ?_
        refine s_getR F dX8_roundsUntil_107 flX8_48 (ly1 hs) (lt1 hs) rfl (p1_0 hs) ?_
        refine s_getR F dX8_roundsUntil_110 flX8_132 (lyS hs sb2) (ltSb hs sb2) rfl (pS2 hs sb2) ?_
        obtain ⟨v10, hv10, h⟩ := bd_i h
        refine s_cV (ci := 0) F dX8_roundsUntil_113 (c_X0_numberIn hs ⟨_, sb2, rfl⟩ hv10) lkX8_136 okX0_numberIn (by decide) (ly15 hs) (lt15 hs) rfl rfl (Nat.le_of_ble_eq_true rfl) (by decide) ?_
        refine s_iload_n F dX8_roundsUntil_116 rfl ?_
        refine s_icmp_gt (tgt := 122) F dX8_roundsUntil_117 (by decide) (fun c11 => ?_) (fun c11 => ?_)
        · have h := if_t c11 h
          refine s_inc (c := 1) F dX8_roundsUntil_122 rfl (by decide) (by decide) ?_
          refine s_goto (tgt := 75) F dX8_roundsUntil_125 (by decide) ?_
          exact G.weak (by exact ⟨rfl, ⟨rfl, ⟨rfl, ⟨rfl, trivial⟩⟩⟩⟩) (ih _ _ _ h)
        · have h := if_f c11 h
          refine s_iload_n F dX8_roundsUntil_120 rfl ?_
          refine s_istore_n F dX8_roundsUntil_121 (by decide) ?_
          refine s_inc (c := 1) F dX8_roundsUntil_122 rfl (by decide) (by decide) ?_
          refine s_goto (tgt := 75) F dX8_roundsUntil_125 (by decide) ?_
          exact G.weak (by exact ⟨rfl, ⟨rfl, ⟨rfl, ⟨rfl, trivial⟩⟩⟩⟩) (ih _ _ _ h)
set_option maxRecDepth 100000 in
set_option maxHeartbeats 4000000 in
theorem bX8_roundsUntil {X : Cx} {n : Nat} {Ly : LL} {I : II} {P : PP} {Po : PQ} {r : Int32 × II} (F : Fx X RX8 cX8_roundsUntil 4 7 0 0) (hs : ShC n Ly P) (hr : Fr X (some .int) Po 0 0) (post : Po (some (.inl r.1)) n Ly r.2 P) {x1 : Int32} (h : fX8_roundsUntil I x1 = some r) : G X 4 0 0 n Ly 0 [some (.inr (some 0)), some (.inl x1), none, none] [] I P := by
  unfold fX8_roundsUntil at h
  refine s_iload_n F dX8_roundsUntil_0 rfl ?_
  refine s_iconst (v := 0) F dX8_roundsUntil_1 (by decide) ?_
  refine s_sipush (v := 256) F dX8_roundsUntil_2 (by decide) ?_
  obtain ⟨v1, hv1, h⟩ := bd_i h
  refine s_cS F dX8_roundsUntil_5 (c_X8_isBetween hs hv1) lkX8_44 okX8_isBetween rfl (Nat.le_of_ble_eq_true rfl) (by decide) ?_
  refine s_if_ne (tgt := 14) F dX8_roundsUntil_8 (by decide) (fun c2 => ?_) (fun c2 => ?_)
  · have h := if_t c2 h
    refine s_aload_n F dX8_roundsUntil_14 rfl ?_
    refine s_getR F dX8_roundsUntil_15 flX8_10 (ly0 hs) (lt0 hs) rfl (p0_0 hs) ?_
    refine s_getR F dX8_roundsUntil_18 flX8_128 (ly1 hs) (lt1 hs) rfl (p1_1 hs) ?_
    refine s_aload_n F dX8_roundsUntil_21 rfl ?_
    refine s_getR F dX8_roundsUntil_22 flX8_10 (ly0 hs) (lt0 hs) rfl (p0_0 hs) ?_
    refine s_getR F dX8_roundsUntil_25 flX8_48 (ly1 hs) (lt1 hs) rfl (p1_0 hs) ?_
    refine s_getR F dX8_roundsUntil_28 flX8_132 (lyS hs sb2) (ltSb hs sb2) rfl (pS2 hs sb2) ?_
    obtain ⟨v3, hv3, h⟩ := bd_i h
    refine s_cV (ci := 0) F dX8_roundsUntil_31 (c_X0_numberIn hs ⟨_, sb2, rfl⟩ hv3) lkX8_136 okX0_numberIn (by decide) (ly15 hs) (lt15 hs) rfl rfl (Nat.le_of_ble_eq_true rfl) (by decide) ?_
    refine s_iload_n F dX8_roundsUntil_34 rfl ?_
    refine s_icmp_gt (tgt := 40) F dX8_roundsUntil_35 (by decide) (fun c4 => ?_) (fun c4 => ?_)
    · have h := if_t c4 h
      refine s_aload_n F dX8_roundsUntil_40 rfl ?_
      refine s_getR F dX8_roundsUntil_41 flX8_10 (ly0 hs) (lt0 hs) rfl (p0_0 hs) ?_
      refine s_getR F dX8_roundsUntil_44 flX8_48 (ly1 hs) (lt1 hs) rfl (p1_0 hs) ?_
      refine s_getI F dX8_roundsUntil_47 flX8_78 (lyS hs sb2) (ltSb hs sb2) rfl ?_
      refine s_if_ne (tgt := 56) F dX8_roundsUntil_50 (by decide) (fun c5 => ?_) (fun c5 => ?_)
      · have h := if_t c5 h
        refine s_aload_n F dX8_roundsUntil_56 rfl ?_
        refine s_getR F dX8_roundsUntil_57 flX8_40 (ly0 hs) (lt0 hs) rfl (p0_4 hs) ?_
        refine s_aload_n F dX8_roundsUntil_60 rfl ?_
        refine s_getR F dX8_roundsUntil_61 flX8_10 (ly0 hs) (lt0 hs) rfl (p0_0 hs) ?_
        refine s_getR F dX8_roundsUntil_64 flX8_48 (ly1 hs) (lt1 hs) rfl (p1_0 hs) ?_
        obtain ⟨v6, hv6, h⟩ := bd_i h
        refine s_cV (ci := 4) F dX8_roundsUntil_67 (c_X4_copyFrom hs sb121 sb2 hv6) lkX8_184 okX4_copyFrom (by decide) (lyS hs sb121) (ltSb hs sb121) rfl rfl (Nat.le_of_ble_eq_true rfl) (by decide) ?_
        refine s_bipush (v := (-5)) F dX8_roundsUntil_70 (by decide) ?_
        refine s_istore_n F dX8_roundsUntil_72 (by decide) ?_
        refine s_iconst (v := 1) F dX8_roundsUntil_73 (by decide) ?_
        refine s_istore_n F dX8_roundsUntil_74 (by decide) ?_
        refine G.weak (by exact ⟨rfl, ⟨rfl, ⟨rfl, ⟨rfl, trivial⟩⟩⟩⟩) (lX8_roundsUntil_L75 F hs hr post (fun z12 I13 h => ?_) 2000 _ _ _ h)
        refine s_aload_n F dX8_roundsUntil_128 rfl ?_
        refine s_getR F dX8_roundsUntil_129 flX8_10 (ly0 hs) (lt0 hs) rfl (p0_0 hs) ?_
        refine s_aload_n F dX8_roundsUntil_132 rfl ?_
        refine s_getR F dX8_roundsUntil_133 flX8_40 (ly0 hs) (lt0 hs) rfl (p0_4 hs) ?_
        obtain ⟨v14, hv14, h⟩ := bd_i h
        refine s_cV (ci := 7) F dX8_roundsUntil_136 (c_X7_load hs sb121 hv14) lkX8_173 okX7_load (by decide) (ly1 hs) (lt1 hs) rfl rfl (Nat.le_of_ble_eq_true rfl) (by decide) ?_
        refine s_iload_n F dX8_roundsUntil_139 rfl ?_
        have h := Option.some.inj h
        subst h
        exact s_iret F hr dX8_roundsUntil_140 rfl (Nat.le_refl _) (Nat.le_refl _) post
      · have h := if_f (not_not_intro c5) h
        refine s_bipush (v := (-5)) F dX8_roundsUntil_53 (by decide) ?_
        have h := Option.some.inj h
        subst h
        exact s_iret F hr dX8_roundsUntil_55 rfl (Nat.le_refl _) (Nat.le_refl _) post
    · have h := if_f c4 h
      refine s_iconst (v := 0) F dX8_roundsUntil_38 (by decide) ?_
      have h := Option.some.inj h
      subst h
      exact s_iret F hr dX8_roundsUntil_39 rfl (Nat.le_refl _) (Nat.le_refl _) post
  · have h := if_f (not_not_intro c2) h
    refine s_bipush (v := (-2)) F dX8_roundsUntil_11 (by decide) ?_
    have h := Option.some.inj h
    subst h
    exact s_iret F hr dX8_roundsUntil_13 rfl (Nat.le_refl _) (Nat.le_refl _) post
set_option maxRecDepth 100000 in
set_option maxHeartbeats 4000000 in
theorem c_X8_roundsUntil {n : Nat} {Ly : LL} {I : II} {P : PP} {r : Int32 × II} (hs : ShC n Ly P) {x1 : Int32} (h : fX8_roundsUntil I x1 = some r) (l : Launch) (s0 : Nat) (D : va_G) (DA : Nat → ClassId) : Ct l s0 D DA mX8_roundsUntil [.inr (some 0), .inl x1] 0 0 n Ly I P (PoD (some (.inl r.1)) n Ly r.2 P) := ct_of (by decide +kernel) (Nat.le_of_ble_eq_true rfl) (fun X F hr _ => bX8_roundsUntil F hs hr ⟨rfl, rfl, rfl, rfl, rfl⟩ h)
-- ChipPilers.turn
def fX8_turn (I : II) (x1 : Int32) : Option (Int32) := (if 0 ≤ x1 then (if (I 5 1) ≤ x1 then some (-5) else (if x1 < 30 then ck (ix x1 30) (some (I 6 x1.toNatClampNeg)) else some (-5))) else some (-2))
set_option maxRecDepth 100000 in
set_option maxHeartbeats 4000000 in
theorem bX8_turn {X : Cx} {n : Nat} {Ly : LL} {I : II} {P : PP} {Po : PQ} {r : Int32} (F : Fx X RX8 cX8_turn 3 1 0 0) (hs : ShC n Ly P) (hr : Fr X (some .int) Po 0 0) (post : Po (some (.inl r)) n Ly I P) {x1 : Int32} (h : fX8_turn I x1 = some r) : G X 3 0 0 n Ly 0 [some (.inr (some 0)), some (.inl x1), none] [] I P := by
  unfold fX8_turn at h
  refine s_iload_n F dX8_turn_0 rfl ?_
  refine s_if_ge (tgt := 7) F dX8_turn_1 (by decide) (fun c1 => ?_) (fun c1 => ?_)
  · have h := if_t c1 h
    refine s_aload_n F dX8_turn_7 rfl ?_
    refine s_getR F dX8_turn_8 flX8_10 (ly0 hs) (lt0 hs) rfl (p0_0 hs) ?_
    refine s_getR F dX8_turn_11 flX8_48 (ly1 hs) (lt1 hs) rfl (p1_0 hs) ?_
    refine s_getR F dX8_turn_14 flX8_106 (lyS hs sb2) (ltSb hs sb2) rfl (pS5 hs sb2) ?_
    refine s_astore_n F dX8_turn_17 (by decide) ?_
    refine s_iload_n F dX8_turn_18 rfl ?_
    refine s_aload_n F dX8_turn_19 rfl ?_
    refine s_getI F dX8_turn_20 flX8_110 (lyT hs ⟨_, sb2, rfl⟩) (ltT hs ⟨_, sb2, rfl⟩) rfl ?_
    refine s_icmp_ge (tgt := 32) F dX8_turn_23 (by decide) (fun c2 => ?_) (fun c2 => ?_)
    · have h := if_t c2 h
      refine s_bipush (v := (-5)) F dX8_turn_32 (by decide) ?_
      have h := Option.some.inj h
      subst h
      exact s_iret F hr dX8_turn_34 rfl (Nat.le_refl _) (Nat.le_refl _) post
    · have h := if_f c2 h
      refine s_iload_n F dX8_turn_26 rfl ?_
      refine s_bipush (v := 30) F dX8_turn_27 (by decide) ?_
      refine s_icmp_lt (tgt := 35) F dX8_turn_29 (by decide) (fun c3 => ?_) (fun c3 => ?_)
      · have h := if_t c3 h
        refine s_aload_n F dX8_turn_35 rfl ?_
        refine s_getR F dX8_turn_36 flX8_237 (lyT hs ⟨_, sb2, rfl⟩) (ltT hs ⟨_, sb2, rfl⟩) rfl (pT0 hs ⟨_, sb2, rfl⟩) ?_
        refine s_iload_n F dX8_turn_39 rfl ?_
        obtain ⟨hc4, h⟩ := ck_s h
        refine s_iald F dX8_turn_40 (lyT1 hs ⟨_, sb2, rfl⟩) (ltT1 hs ⟨_, sb2, rfl⟩) (ix_s hc4) ?_
        have h := Option.some.inj h
        subst h
        exact s_iret F hr dX8_turn_41 rfl (Nat.le_refl _) (Nat.le_refl _) post
      · have h := if_f c3 h
        refine s_bipush (v := (-5)) F dX8_turn_32 (by decide) ?_
        have h := Option.some.inj h
        subst h
        exact s_iret F hr dX8_turn_34 rfl (Nat.le_refl _) (Nat.le_refl _) post
  · have h := if_f c1 h
    refine s_bipush (v := (-2)) F dX8_turn_4 (by decide) ?_
    have h := Option.some.inj h
    subst h
    exact s_iret F hr dX8_turn_6 rfl (Nat.le_refl _) (Nat.le_refl _) post
set_option maxRecDepth 100000 in
set_option maxHeartbeats 4000000 in
theorem c_X8_turn {n : Nat} {Ly : LL} {I : II} {P : PP} {r : Int32} (hs : ShC n Ly P) {x1 : Int32} (h : fX8_turn I x1 = some r) (l : Launch) (s0 : Nat) (D : va_G) (DA : Nat → ClassId) : Ct l s0 D DA mX8_turn [.inr (some 0), .inl x1] 0 0 n Ly I P (PoD (some (.inl r)) n Ly I P) := ct_of (by decide +kernel) (Nat.le_of_ble_eq_true rfl) (fun X F hr _ => bX8_turn F hs hr ⟨rfl, rfl, rfl, rfl, rfl⟩ h)
-- ChipPilers.count
def fX8_count (I : II) (x1 : Int32) : Option (Int32 × II) := (if x1 = 0 then some ((I 2 0), I) else if x1 = 1 then some ((I 2 1), I) else if x1 = 2 then some ((I 2 4), I) else if x1 = 3 then (fX4_allChips I 2).bind fun v5 => some (v5, I) else if x1 = 4 then (fX4_allPockets I 2).bind fun v7 => some (v7, I) else if x1 = 5 then (fX0_numberIn I 3).bind fun v9 => some (v9.1, v9.2) else if x1 = 6 then some ((I 2 6), I) else if x1 = 7 then some ((I 2 7), I) else if x1 = 8 then (fX4_allSteps I 2).bind fun v13 => some (v13, I) else if x1 = 9 then some ((I 5 2), I) else if x1 = 10 then some ((I 5 1), I) else if x1 = 11 then some ((I 21 1), I) else if x1 = 12 then some ((I 88 1), I) else some ((-2), I))
set_option maxRecDepth 100000 in
set_option maxHeartbeats 4000000 in
theorem bX8_count {X : Cx} {n : Nat} {Ly : LL} {I : II} {P : PP} {Po : PQ} {r : Int32 × II} (F : Fx X RX8 cX8_count 3 4 0 0) (hs : ShC n Ly P) (hr : Fr X (some .int) Po 0 0) (post : Po (some (.inl r.1)) n Ly r.2 P) {x1 : Int32} (h : fX8_count I x1 = some r) : G X 3 0 0 n Ly 0 [some (.inr (some 0)), some (.inl x1), none] [] I P := by
  unfold fX8_count at h
  refine s_aload_n F dX8_count_0 rfl ?_
  refine s_getR F dX8_count_1 flX8_10 (ly0 hs) (lt0 hs) rfl (p0_0 hs) ?_
  refine s_getR F dX8_count_4 flX8_48 (ly1 hs) (lt1 hs) rfl (p1_0 hs) ?_
  refine s_astore_n F dX8_count_7 (by decide) ?_
  refine s_iload_n F dX8_count_8 rfl ?_
  by_cases e1 : x1 = 0
  · have h := if_t e1 h
    refine s_swC (off := 67) (tgt := 76) F dX8_count_9 e1 (by decide +kernel) ?_
    refine s_aload_n F dX8_count_76 rfl ?_
    refine s_getI F dX8_count_77 flX8_240 (lyS hs sb2) (ltSb hs sb2) rfl ?_
    have h := Option.some.inj h
    subst h
    exact s_iret F hr dX8_count_80 rfl (Nat.le_refl _) (Nat.le_refl _) post
  have h := if_f e1 h
  by_cases e2 : x1 = 1
  · have h := if_t e2 h
    refine s_swC (off := 72) (tgt := 81) F dX8_count_9 e2 (by decide +kernel) ?_
    refine s_aload_n F dX8_count_81 rfl ?_
    refine s_getI F dX8_count_82 flX8_243 (lyS hs sb2) (ltSb hs sb2) rfl ?_
    have h := Option.some.inj h
    subst h
    exact s_iret F hr dX8_count_85 rfl (Nat.le_refl _) (Nat.le_refl _) post
  have h := if_f e2 h
  by_cases e3 : x1 = 2
  · have h := if_t e3 h
    refine s_swC (off := 77) (tgt := 86) F dX8_count_9 e3 (by decide +kernel) ?_
    refine s_aload_n F dX8_count_86 rfl ?_
    refine s_getI F dX8_count_87 flX8_78 (lyS hs sb2) (ltSb hs sb2) rfl ?_
    have h := Option.some.inj h
    subst h
    exact s_iret F hr dX8_count_90 rfl (Nat.le_refl _) (Nat.le_refl _) post
  have h := if_f e3 h
  by_cases e4 : x1 = 3
  · have h := if_t e4 h
    refine s_swC (off := 82) (tgt := 91) F dX8_count_9 e4 (by decide +kernel) ?_
    refine s_aload_n F dX8_count_91 rfl ?_
    obtain ⟨v5, hv5, h⟩ := bd_i h
    refine s_cV (ci := 4) F dX8_count_92 (c_X4_allChips hs sb2 hv5) lkX8_191 okX4_allChips (by decide) (lyS hs sb2) (ltSb hs sb2) rfl rfl (Nat.le_of_ble_eq_true rfl) (by decide) ?_
    have h := Option.some.inj h
    subst h
    exact s_iret F hr dX8_count_95 rfl (Nat.le_refl _) (Nat.le_refl _) post
  have h := if_f e4 h
  by_cases e6 : x1 = 4
  · have h := if_t e6 h
    refine s_swC (off := 87) (tgt := 96) F dX8_count_9 e6 (by decide +kernel) ?_
    refine s_aload_n F dX8_count_96 rfl ?_
    obtain ⟨v7, hv7, h⟩ := bd_i h
    refine s_cV (ci := 4) F dX8_count_97 (c_X4_allPockets hs sb2 hv7) lkX8_246 okX4_allPockets (by decide) (lyS hs sb2) (ltSb hs sb2) rfl rfl (Nat.le_of_ble_eq_true rfl) (by decide) ?_
    have h := Option.some.inj h
    subst h
    exact s_iret F hr dX8_count_100 rfl (Nat.le_refl _) (Nat.le_refl _) post
  have h := if_f e6 h
  by_cases e8 : x1 = 5
  · have h := if_t e8 h
    refine s_swC (off := 92) (tgt := 101) F dX8_count_9 e8 (by decide +kernel) ?_
    refine s_aload_n F dX8_count_101 rfl ?_
    refine s_getR F dX8_count_102 flX8_10 (ly0 hs) (lt0 hs) rfl (p0_0 hs) ?_
    refine s_getR F dX8_count_105 flX8_128 (ly1 hs) (lt1 hs) rfl (p1_1 hs) ?_
    refine s_aload_n F dX8_count_108 rfl ?_
    refine s_getR F dX8_count_109 flX8_132 (lyS hs sb2) (ltSb hs sb2) rfl (pS2 hs sb2) ?_
    obtain ⟨v9, hv9, h⟩ := bd_i h
    refine s_cV (ci := 0) F dX8_count_112 (c_X0_numberIn hs ⟨_, sb2, rfl⟩ hv9) lkX8_136 okX0_numberIn (by decide) (ly15 hs) (lt15 hs) rfl rfl (Nat.le_of_ble_eq_true rfl) (by decide) ?_
    have h := Option.some.inj h
    subst h
    exact s_iret F hr dX8_count_115 rfl (Nat.le_refl _) (Nat.le_refl _) post
  have h := if_f e8 h
  by_cases e10 : x1 = 6
  · have h := if_t e10 h
    refine s_swC (off := 107) (tgt := 116) F dX8_count_9 e10 (by decide +kernel) ?_
    refine s_aload_n F dX8_count_116 rfl ?_
    refine s_getI F dX8_count_117 flX8_249 (lyS hs sb2) (ltSb hs sb2) rfl ?_
    have h := Option.some.inj h
    subst h
    exact s_iret F hr dX8_count_120 rfl (Nat.le_refl _) (Nat.le_refl _) post
  have h := if_f e10 h
  by_cases e11 : x1 = 7
  · have h := if_t e11 h
    refine s_swC (off := 112) (tgt := 121) F dX8_count_9 e11 (by decide +kernel) ?_
    refine s_aload_n F dX8_count_121 rfl ?_
    refine s_getI F dX8_count_122 flX8_252 (lyS hs sb2) (ltSb hs sb2) rfl ?_
    have h := Option.some.inj h
    subst h
    exact s_iret F hr dX8_count_125 rfl (Nat.le_refl _) (Nat.le_refl _) post
  have h := if_f e11 h
  by_cases e12 : x1 = 8
  · have h := if_t e12 h
    refine s_swC (off := 117) (tgt := 126) F dX8_count_9 e12 (by decide +kernel) ?_
    refine s_aload_n F dX8_count_126 rfl ?_
    obtain ⟨v13, hv13, h⟩ := bd_i h
    refine s_cV (ci := 4) F dX8_count_127 (c_X4_allSteps hs sb2 hv13) lkX8_151 okX4_allSteps (by decide) (lyS hs sb2) (ltSb hs sb2) rfl rfl (Nat.le_of_ble_eq_true rfl) (by decide) ?_
    have h := Option.some.inj h
    subst h
    exact s_iret F hr dX8_count_130 rfl (Nat.le_refl _) (Nat.le_refl _) post
  have h := if_f e12 h
  by_cases e14 : x1 = 9
  · have h := if_t e14 h
    refine s_swC (off := 122) (tgt := 131) F dX8_count_9 e14 (by decide +kernel) ?_
    refine s_aload_n F dX8_count_131 rfl ?_
    refine s_getR F dX8_count_132 flX8_106 (lyS hs sb2) (ltSb hs sb2) rfl (pS5 hs sb2) ?_
    refine s_getI F dX8_count_135 flX8_255 (lyT hs ⟨_, sb2, rfl⟩) (ltT hs ⟨_, sb2, rfl⟩) rfl ?_
    have h := Option.some.inj h
    subst h
    exact s_iret F hr dX8_count_138 rfl (Nat.le_refl _) (Nat.le_refl _) post
  have h := if_f e14 h
  by_cases e15 : x1 = 10
  · have h := if_t e15 h
    refine s_swC (off := 130) (tgt := 139) F dX8_count_9 e15 (by decide +kernel) ?_
    refine s_aload_n F dX8_count_139 rfl ?_
    refine s_getR F dX8_count_140 flX8_106 (lyS hs sb2) (ltSb hs sb2) rfl (pS5 hs sb2) ?_
    refine s_getI F dX8_count_143 flX8_110 (lyT hs ⟨_, sb2, rfl⟩) (ltT hs ⟨_, sb2, rfl⟩) rfl ?_
    have h := Option.some.inj h
    subst h
    exact s_iret F hr dX8_count_146 rfl (Nat.le_refl _) (Nat.le_refl _) post
  have h := if_f e15 h
  by_cases e16 : x1 = 11
  · have h := if_t e16 h
    refine s_swC (off := 138) (tgt := 147) F dX8_count_9 e16 (by decide +kernel) ?_
    refine s_aload_n F dX8_count_147 rfl ?_
    refine s_getR F dX8_count_148 flX8_19 (ly0 hs) (lt0 hs) rfl (p0_1 hs) ?_
    refine s_getI F dX8_count_151 flX8_176 (ly21 hs) (lt21 hs) rfl ?_
    have h := Option.some.inj h
    subst h
    exact s_iret F hr dX8_count_154 rfl (Nat.le_refl _) (Nat.le_refl _) post
  have h := if_f e16 h
  by_cases e17 : x1 = 12
  · have h := if_t e17 h
    refine s_swC (off := 146) (tgt := 155) F dX8_count_9 e17 (by decide +kernel) ?_
    refine s_aload_n F dX8_count_155 rfl ?_
    refine s_getR F dX8_count_156 flX8_26 (ly0 hs) (lt0 hs) rfl (p0_2 hs) ?_
    refine s_getI F dX8_count_159 flX8_145 (ly88 hs) (lt88 hs) rfl ?_
    have h := Option.some.inj h
    subst h
    exact s_iret F hr dX8_count_162 rfl (Nat.le_refl _) (Nat.le_refl _) post
  have h := if_f e17 h
  refine s_swOut (tgt := 163) F dX8_count_9 (by have q0 := lv_neT (a := 0) e1 (by decide); have q1 := lv_neT (a := 1) e2 (by decide); have q2 := lv_neT (a := 2) e3 (by decide); have q3 := lv_neT (a := 3) e4 (by decide); have q4 := lv_neT (a := 4) e6 (by decide); have q5 := lv_neT (a := 5) e8 (by decide); have q6 := lv_neT (a := 6) e10 (by decide); have q7 := lv_neT (a := 7) e11 (by decide); have q8 := lv_neT (a := 8) e12 (by decide); have q9 := lv_neT (a := 9) e14 (by decide); have q10 := lv_neT (a := 10) e15 (by decide); have q11 := lv_neT (a := 11) e16 (by decide); have q12 := lv_neT (a := 12) e17 (by decide); omega) (by decide) ?_
  refine s_bipush (v := (-2)) F dX8_count_163 (by decide) ?_
  have h := Option.some.inj h
  subst h
  exact s_iret F hr dX8_count_165 rfl (Nat.le_refl _) (Nat.le_refl _) post
set_option maxRecDepth 100000 in
set_option maxHeartbeats 4000000 in
theorem c_X8_count {n : Nat} {Ly : LL} {I : II} {P : PP} {r : Int32 × II} (hs : ShC n Ly P) {x1 : Int32} (h : fX8_count I x1 = some r) (l : Launch) (s0 : Nat) (D : va_G) (DA : Nat → ClassId) : Ct l s0 D DA mX8_count [.inr (some 0), .inl x1] 0 0 n Ly I P (PoD (some (.inl r.1)) n Ly r.2 P) := ct_of (by decide +kernel) (Nat.le_of_ble_eq_true rfl) (fun X F hr _ => bX8_count F hs hr ⟨rfl, rfl, rfl, rfl, rfl⟩ h)
