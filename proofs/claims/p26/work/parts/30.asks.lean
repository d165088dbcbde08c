/-! the calls that ask, and the small ones -/
theorem e_chips {A : AbS} {I : II} {P : PP} (hG : GI A) (hC : CI I P A) (x y : Int32) : fX8_chips I x y = some (qChips A x y) := by
  have b1 := hG.1.1.1.2
  have b2 := hG.1.1.2.1.2
  unfold fX8_chips qChips
  rcases cellsX hC.1.1 hG.1.1 x y with ⟨r, c, hr, hc, rfl, rfl, o, e1⟩ | ⟨o, e1⟩
  · rw [e1, bd1, ifp (nI_nneg (by omega)), if_pos o, ceN (by omega) (by omega), chipsOf_C (by omega), bd1, show I (2 + 1) (16 * r + c) = _ from hC.1.1.2.1 _ (by omega)]
  · rw [e1, bd1, ifn (by decide), if_neg o]
theorem e_walker {A : AbS} {I : II} {P : PP} (hG : GI A) (hC : CI I P A) (x y : Int32) : fX8_walker I x y = some (qWalker A x y) := by
  have g2 := hG.1.2.1
  unfold fX8_walker qWalker
  rcases walkersX hC.1.1.1.2.2.1 g2 x with ⟨w, hw, rfl, o, e1⟩ | ⟨o, e1⟩
  · rw [e1, bd1, if_pos o, tnN (by omega)]
    simp only []
    rcases rngX y 0 8 (by omega) (by omega) with ⟨f, -, hf, rfl, g, e3⟩ | ⟨g, hn, e3⟩
    · have h := hC.1.fl hw (f := f) (by omega)
      have hf' : f = 0 ∨ f = 1 ∨ f = 2 ∨ f = 3 ∨ f = 4 ∨ f = 5 ∨ f = 6 ∨ f = 7 ∨ f = 8 := by omega
      rw [if_pos g, tnN (by omega), ← h]
      rcases hf' with e | e | e | e | e | e | e | e | e <;> subst e <;> rfl
    · have hh : ∀ k, k ≤ 8 → y ≠ nI k := fun k hk => hn k hk (by omega)
      rw [ifn (show ¬ y = (0 : Int32) from hh 0 (by omega)), ifn (show ¬ y = (1 : Int32) from hh 1 (by omega)), ifn (show ¬ y = (2 : Int32) from hh 2 (by omega)), ifn (show ¬ y = (3 : Int32) from hh 3 (by omega)), ifn (show ¬ y = (4 : Int32) from hh 4 (by omega)), ifn (show ¬ y = (5 : Int32) from hh 5 (by omega)), ifn (show ¬ y = (6 : Int32) from hh 6 (by omega)), ifn (show ¬ y = (7 : Int32) from hh 7 (by omega)), ifn (show ¬ y = (8 : Int32) from hh 8 (by omega)), if_neg g]
  · rw [e1, bd1, if_neg o]
theorem e_turn {A : AbS} {I : II} {P : PP} (hG : GI A) (hC : CI I P A) (x : Int32) : fX8_turn I x = some (qTurn A x) := by
  have g3 := hG.1.2.2.1
  unfold fX8_turn qTurn
  rw [show I 5 1 = _ from hC.1.1.2.2.1.1]
  by_cases q : 0 ≤ x
  · have q0 : ¬ x < 0 := fun z => by
      rw [Int32.lt_iff_toInt_lt] at z
      rw [Int32.le_iff_toInt_le] at q
      omega
    rw [ifp q, if_neg q0]
    obtain ⟨m, hm, rfl⟩ := nnI (x := x) (by rw [Int32.le_iff_toInt_le] at q; exact q)
    rw [nI_toInt hm]
    by_cases q2 : A.1 3 ≤ m
    · rw [ifp (yle (by omega) (by omega) q2), if_neg (by omega)]
    · rw [ifn (nle (by omega) (by omega) (by omega)), ifp (show nI m < (30 : Int32) from (nI_ltI (b := 30) (by omega) (by omega)).mpr (by omega)), ckN (show m < 30 by omega) (by omega), tnN hm, show I 6 m = _ from hC.1.1.2.2.2.1 m (by omega), if_pos (by omega)]
  · have q0 : x < 0 := by
      rw [Int32.lt_iff_toInt_lt]
      rw [Int32.le_iff_toInt_le] at q
      omega
    rw [ifn q, if_pos q0]
theorem k_type {A : AbS} {I : II} {P : PP} (hG : GI A) (hC : CI I P A) (x : Int32) (hx : bC x = true) : Rt (fX8_type I x) I P (aType A x) := by
  obtain ⟨c1, ⟨c2, c3, c4⟩, c5, c6, c7⟩ := id hC
  obtain ⟨g1, ⟨g2, g3⟩, g4, g5, g6⟩ := id hG
  unfold fX8_type fX2_append aType
  rw [c6, ifn (show ¬ nI A.2.2.2.1 < (0 : Int32) from fun z => by have := (nI_ltI (b := 0) (by omega) (by omega)).mp z; omega)]
  by_cases q : A.2.2.2.1 = 40
  · rw [ifn (show ¬ nI A.2.2.2.1 < (40 : Int32) from fun z => by have := (nI_ltI (b := 40) (by omega) (by omega)).mp z; omega), bd1, if0, if_neg (by omega)]
    exact noT hG hC _
  · rw [ifp (show nI A.2.2.2.1 < (40 : Int32) from (nI_ltI (b := 40) (by omega) (by omega)).mpr (by omega)), ckN (show A.2.2.2.1 < 40 by omega) (by omega), ck_t hx, tnN (show A.2.2.2.1 < 2 ^ 31 by omega), if_pos (by omega)]
    simp only [bd1, up2_n (show (88 : Nat) ≠ 89 by omega), c6, nI_1, if1, up2_a]
    refine ⟨up2 (up2 I 89 A.2.2.2.1 x) 88 1 (nI (A.2.2.2.1 + 1)), rfl, ⟨g1, ⟨g2, g3⟩, g4, by show A.2.2.2.1 + 1 ≤ 40; omega, fun j hj => ?_⟩, ⟨⟨c1.1.fm g1.2.1 (fun a _ _ => by rw [up2_n (by omega), up2_n (by omega)]), c1.2.fm (fun a _ _ => by rw [up2_n (by omega), up2_n (by omega)])⟩, ⟨c2, by rw [up2_n (by omega), up2_n (by omega)]; exact c3, fun i hi => ?_⟩, fun s hs => ⟨by rw [up2_n (by omega), up2_n (by omega)]; exact (c5 s hs).1, fun hk => ((c5 s hs).2 hk).fm ((g4 s hs).2 hk).2.1 (fun a _ _ => by rw [up2_n (by omega), up2_n (by omega)])⟩, up2_a, fun j hj => ?_⟩, fun a ha => by rw [up2_n (by omega), up2_n (by omega)]⟩
    · have hj' : j < A.2.2.2.1 + 1 := hj
      show bC (if j = A.2.2.2.1 then x else A.2.2.2.2 j) = true
      by_cases e : j = A.2.2.2.1
      · rw [if_pos e]; exact hx
      · rw [if_neg e]; exact g6 j (by omega)
    · have hi5 : i < 5 := Nat.lt_of_lt_of_le hi g2
      have hbi := HB_n (c2.1 i hi5)
      exact (c4 i hi).fm (g3 i hi).2.1 (fun a _ _ => by rw [up2_n (by omega), up2_n (by omega)])
    · have hj' : j < A.2.2.2.1 + 1 := hj
      show _ = (if j = A.2.2.2.1 then x else A.2.2.2.2 j)
      rw [up2_n (by omega), up2_at]
      by_cases e : j = A.2.2.2.1
      · rw [if_pos e, if_pos e]
      · rw [if_neg e, if_neg e]; exact c7 j (by omega)
theorem k_clearText {A : AbS} {I : II} {P : PP} (hG : GI A) (hC : CI I P A) : Rt (fX8_clearText I) I P (aClearText A) := by
  obtain ⟨c1, ⟨c2, c3, c4⟩, c5, c6, c7⟩ := id hC
  obtain ⟨g1, ⟨g2, g3⟩, g4, g5, g6⟩ := id hG
  unfold fX8_clearText aClearText
  rw [c6, bd1]
  refine ⟨up2 I 88 1 0, rfl, ⟨g1, ⟨g2, g3⟩, g4, by show 0 ≤ 40; omega, fun j hj => by have : j < 0 := hj; omega⟩, ⟨⟨c1.1.fm g1.2.1 (fun a _ _ => by rw [up2_n (by omega)]), c1.2.fm (fun a _ _ => by rw [up2_n (by omega)])⟩, ⟨c2, by rw [up2_n (by omega)]; exact c3, fun i hi => ?_⟩, fun s hs => ⟨by rw [up2_n (by omega)]; exact (c5 s hs).1, fun hk => ((c5 s hs).2 hk).fm ((g4 s hs).2 hk).2.1 (fun a _ _ => by rw [up2_n (by omega)])⟩, up2_a, fun j hj => by have : j < 0 := hj; omega⟩, fun a ha => by rw [up2_n (by omega)]⟩
  have hi5 : i < 5 := Nat.lt_of_lt_of_le hi g2
  have hbi := HB_n (c2.1 i hi5)
  exact (c4 i hi).fm (g3 i hi).2.1 (fun a _ _ => by rw [up2_n (by omega)])
theorem k_heapOf {A : AbS} {I : II} {P : PP} (hG : GI A) (hC : CI I P A) (x y : Int32) : Rt (fX8_heapOf I x y) I P (qHeapOf A x y, A) := by
  have b1 := hG.1.1.1.2
  have b2 := hG.1.1.2.1.2
  have hb := hG.1.1.2.2.1
  unfold fX8_heapOf qHeapOf
  rcases cellsX hC.1.1 hG.1.1 x y with ⟨r, c, hr, hc, rfl, rfl, o, e1⟩ | ⟨o, e1⟩
  · have hgc := hb (16 * r + c) (by omega)
    rw [e1, bd1, ifp (nI_nneg (by omega)), chipsOf_C (by omega), bd1, show I (2 + 1) (16 * r + c) = _ from hC.1.1.2.1 _ (by omega), if_pos o, ceN (by omega) (by omega)]
    by_cases q : gR A.1 (16 * r + c) = 0
    · rw [ifn (show ¬ ¬ nI (gR A.1 (16 * r + c)) = (0 : Int32) from fun z => z (by rw [q]; rfl)), if_pos q]
      exact noT hG hC _
    · have hlab := labF_lt (show 16 * r + c < 256 by omega) (show 0 < gR A.1 (16 * r + c) by omega)
      have hm := mF_le (gR A.1)
      obtain ⟨I2, n1, n2, n3, n4⟩ := hC.num hG
      have hh : fX0_heapWith I2 (nI (16 * r + c)) = some (nI (labF (gR A.1) (16 * r + c))) := by
        unfold fX0_heapWith
        rw [ifn (fun z => by have := (nI_ltI (b := 0) (by omega) (by omega)).mp z; omega), ifn (fun z => by have := (leN (a := 256) (by omega) (by omega)).mp z; omega), ckN (show 16 * r + c < 256 by omega) (by omega), tnN (show 16 * r + c < 2 ^ 31 by omega), n3.2.1 _ (by omega), lb_full (by omega) (by omega)]
      rw [ifp (show ¬ nI (gR A.1 (16 * r + c)) = (0 : Int32) from fun z => q ((eqN (b := 0) (by omega) (by omega)).mp z)), n1, bd1, if_neg q]
      simp only []
      rw [hh, bd1, place_C hb n3 hlab, bd1]
      exact ⟨I2, rfl, hG, n2, n4.w⟩
  · rw [e1, bd1, ifn (by decide), if_neg o]
    exact noT hG hC _
theorem AH_as {g : Nat → Nat} {x h : Nat} (h1 : AH g x h) : ¬ AH g h x := by unfold AH at *; omega
theorem AH_tr {g : Nat → Nat} {x y h : Nat} (h1 : AH g x y) (h2 : AH g y h) : AH g x h := by unfold AH at *; omega
theorem AH_to {g : Nat → Nat} {x h : Nat} (hn : x ≠ h) : AH g x h ∨ AH g h x := by unfold AH; omega
theorem Plc_mono {g : Nat → Nat} {x h : Nat} (hx : x < mF g) (h1 : AH g x h) : Plc g x < Plc g h := by
  unfold Plc
  have e := cnt_ins (p := fun y => AH g y x) hx (by unfold AH; omega)
  have l := cnt_mono (n := mF g) (p := fun i => AH g i x ∨ i = x) (q := fun y => AH g y h) (fun i _ hi => by
    rcases hi with hi | hi
    · exact AH_tr hi h1
    · rw [hi]; exact h1)
  omega
theorem Plc_inj {g : Nat → Nat} {x h : Nat} (hx : x < mF g) (hh : h < mF g) (e : Plc g x = Plc g h) : x = h := by
  by_cases q : x = h
  · exact q
  · rcases AH_to (g := g) q with z | z
    · have := Plc_mono hx z; omega
    · have := Plc_mono hh z; omega
theorem pigeon : ∀ (n : Nat) (f : Nat → Nat), (∀ i, i < n → f i < n) → (∀ i j, i < n → j < n → f i = f j → i = j) → ∀ k, k < n → ∃ i, i < n ∧ f i = k
  | 0, _, _, _, k, hk => absurd hk (by omega)
  | n + 1, f, h1, h2, k, hk => by
    by_cases q : f n = k
    · exact ⟨n, by omega, q⟩
    -- swap the greatest value with the last one's
    have h3 : ∀ i, i < n → (if f i = n then f n else f i) < n := fun i hi => by
      have a := h1 i (by omega)
      have b := h1 n (by omega)
      by_cases e : f i = n
      · rw [if_pos e]
        have : f n ≠ n := fun z => by have := h2 i n (by omega) (by omega) (e.trans z.symm); omega
        omega
      · rw [if_neg e]; omega
    have h4 : ∀ i j, i < n → j < n → (if f i = n then f n else f i) = (if f j = n then f n else f j) → i = j := fun i j hi hj e => by
      by_cases e1 : f i = n
      · by_cases e2 : f j = n
        · exact h2 i j (by omega) (by omega) (e1.trans e2.symm)
        · rw [if_pos e1, if_neg e2] at e
          have := h2 n j (by omega) (by omega) e
          omega
      · by_cases e2 : f j = n
        · rw [if_neg e1, if_pos e2] at e
          have := h2 i n (by omega) (by omega) e
          omega
        · rw [if_neg e1, if_neg e2] at e
          exact h2 i j (by omega) (by omega) e
    by_cases qk : k = n
    · obtain ⟨i, hi, he⟩ := pigeon n (fun i => if f i = n then f n else f i) h3 h4 (f n) (by have := h1 n (by omega); omega)
      by_cases e1 : f i = n
      · exact ⟨i, by omega, by omega⟩
      · have he' : f i = f n := by have := he; simp only [if_neg e1] at this; exact this
        have := h2 i n (by omega) (by omega) he'
        omega
    · obtain ⟨i, hi, he⟩ := pigeon n (fun i => if f i = n then f n else f i) h3 h4 k (by omega)
      by_cases e1 : f i = n
      · simp only [if_pos e1] at he
        exact absurd he q
      · simp only [if_neg e1] at he
        exact ⟨i, by omega, he⟩
theorem hpAt_sp {g : Nat → Nat} {p : Nat} (h : p < mF g) : hpAt g p < mF g ∧ Plc g (hpAt g p) = p := by
  have hex : ∃ h, h < mF g ∧ Plc g h = p := pigeon (mF g) (Plc g) (fun i hi => Plc_lt hi) (fun i j hi hj e => Plc_inj hi hj e) p h
  unfold hpAt
  rw [dif_pos hex]
  exact hex.choose_spec
theorem heapAt_C {g : Nat → Nat} {I : II} (hb : ∀ c, c < 256 → g c ≤ 99) (hC : CH I g) {m : Nat} (hm : m < mF g) : fX0_heapAt I (nI m) = some (nI (hpAt g m)) := by
  have hmF := mF_le g
  obtain ⟨p1, p2⟩ := hpAt_sp hm
  have lp : ∀ (n x : Nat) (fu : Nat), x + n = mF g → n < fu → x ≤ hpAt g m → fX0_heapAt_L2 fu (fun _ => some (-1)) (nI m) I (nI x) = some (nI (hpAt g m)) := by
    intro n
    induction n with
    | zero =>
      intro x fu hx hf hp
      omega
    | succ n ih =>
      intro x fu hx hf hp
      obtain ⟨fu, rfl⟩ : ∃ m, fu = m + 1 := ⟨fu - 1, by omega⟩
      have hxm : x < mF g := by omega
      have hP := Plc_lt hxm
      show (if (I 15 5) ≤ nI x then _ else (fX0_placeOf I (nI x)).bind fun v2 => (if ¬ v2 = nI m then fX0_heapAt_L2 fu (fun _ => some (-1)) (nI m) I (nI x + 1) else some (nI x))) = _
      rw [hC.1, ifn (nle (by omega) (by omega) hxm), place_C hb hC hxm, bd1, nI_1]
      by_cases q : Plc g x = m
      · have e : x = hpAt g m := Plc_inj hxm p1 (q.trans p2.symm)
        rw [ifn (fun z => z (by rw [q])), ← e]
      · rw [ifp (fun z => q ((nI_eq (by omega) (by omega)).mp z))]
        refine ih (x + 1) fu (by omega) (by omega) ?_
        have : x ≠ hpAt g m := fun e => q (by rw [e]; exact p2)
        omega
  exact lp (mF g) 0 2000 (by omega) (by omega) (by omega)
theorem k_heap {A : AbS} {I : II} {P : PP} (hG : GI A) (hC : CI I P A) (x y : Int32) : Rt (fX8_heap I x y) I P (qHeap A x y, A) := by
  have hb := hG.1.1.2.2.1
  unfold fX8_heap qHeap
  by_cases q : x < 0
  · rw [ifp q, if_pos q]
    exact noT hG hC _
  · have q' : 0 ≤ x.toInt := by
      rw [Int32.lt_iff_toInt_lt, show (0 : Int32).toInt = 0 from by decide] at q
      omega
    obtain ⟨m, hm, rfl⟩ := nnI q'
    rw [ifn q, if_neg q, nI_toInt hm, tnN hm]
    rcases rngX y 0 4 (by omega) (by omega) with ⟨f, -, hf, rfl, g, e3⟩ | ⟨g, hn, e3⟩
    · obtain ⟨I2, n1, n2, n3, n4⟩ := hC.num hG
      have hmF := mF_le (gR A.1)
      rw [show fX8_isBetween (nI f) 0 4 = _ from e3, bd1, if1, n1, bd1, if_pos g]
      simp only []
      by_cases q2 : m < mF (gR A.1)
      · obtain ⟨h1, h2⟩ := hpAt_sp q2
        generalize hh : hpAt (gR A.1) m = h at h1 h2
        have h3 := heapAt_C hb n3 q2
        rw [hh] at h3
        have c1 : ∀ {α : Type} {k : Option α}, ck (ix (nI h) 128) k = k := ckN (show h < 128 by omega) (by omega)
        obtain ⟨s1, s2, s3⟩ := n3.2.2 h h1
        have hr : rtAt (gR A.1) h < 256 := by
          obtain ⟨x, hx1, hx2, hx3⟩ := rk_ex 256 (show h < rk (gR A.1) 256 from h1)
          rw [← hx3, rtAt_eq hx2]
          exact hx1
        have d16 : nI (rtAt (gR A.1) h) / 16 = nI (rtAt (gR A.1) h / 16) := pk_div (d := 16) (by omega) (by omega) (by omega)
        have r16 : rm (nI (rtAt (gR A.1) h)) 16 = nI (rtAt (gR A.1) h % 16) := rmN (d := 16) (by omega) (by omega) (by omega)
        rw [ifp ((nI_ltI (by omega) (by omega)).mpr q2), h3, bd1, ifn (show ¬ nI h < (0 : Int32) from fun z => by have := (nI_ltI (b := 0) (by omega) (by omega)).mp z; omega), ifp (show nI h < (128 : Int32) from (nI_ltI (b := 128) (by omega) (by omega)).mpr (by omega)), most_C hb n2.1.1.2.1 n3 h1, tnN (show h < 2 ^ 31 by omega), s1, s2, s3, if_pos (show (m : Int) < (mF (gR A.1) : Int) by omega), d16, r16]
        simp only [c1]
        unfold hpV
        have hf' : f = 0 ∨ f = 1 ∨ f = 2 ∨ f = 3 ∨ f = 4 := by omega
        rcases hf' with e | e | e | e | e <;> subst e <;> exact ⟨I2, rfl, hG, n2, n4.w⟩
      · rw [ifn (fun z => q2 ((nI_ltI (by omega) (by omega)).mp z)), if_neg (show ¬ (m : Int) < (mF (gR A.1) : Int) by omega)]
        exact ⟨I2, rfl, hG, n2, n4.w⟩
    · rw [show fX8_isBetween y 0 4 = _ from e3, bd1, if0, if_neg g]
      exact noT hG hC _
theorem k_count {A : AbS} {I : II} {P : PP} (hG : GI A) (hC : CI I P A) (x : Int32) : Rt (fX8_count I x) I P (qCount A x, A) := by
  have g2 := hG.1.2.1
  obtain ⟨⟨a0, a1, a4, a6, a7⟩, c2, ⟨t1, t2, t3⟩, -, -⟩ := hC.1.1
  obtain ⟨I2, n1, n2, n3, n4⟩ := hC.num hG
  unfold fX8_count qCount
  rw [sumC (g := gR A.1) c2, pocC hC.1.1 g2, n1, stpC hC.1.1 g2, a0, a1, a4, a6, a7, show I 5 1 = _ from t1, show I 5 2 = _ from t2, hC.2.1.2.1, hC.2.2.2.1]
  have R := fun v => noT hG hC v
  by_cases q0 : x = 0
  · rw [ifp q0, ifp q0]; exact R _
  rw [ifn q0, ifn q0]
  by_cases q1 : x = 1
  · rw [ifp q1, ifp q1]; exact R _
  rw [ifn q1, ifn q1]
  by_cases q2 : x = 2
  · rw [ifp q2, ifp q2]; exact R _
  rw [ifn q2, ifn q2]
  by_cases q3 : x = 3
  · rw [ifp q3, ifp q3, bd1]; exact R _
  rw [ifn q3, ifn q3]
  by_cases q4 : x = 4
  · rw [ifp q4, ifp q4, bd1]; exact R _
  rw [ifn q4, ifn q4]
  by_cases q5 : x = 5
  · rw [ifp q5, ifp q5, bd1]
    exact ⟨I2, rfl, hG, n2, n4.w⟩
  rw [ifn q5, ifn q5]
  by_cases q6 : x = 6
  · rw [ifp q6, ifp q6]; exact R _
  rw [ifn q6, ifn q6]
  by_cases q7 : x = 7
  · rw [ifp q7, ifp q7]; exact R _
  rw [ifn q7, ifn q7]
  by_cases q8 : x = 8
  · rw [ifp q8, ifp q8, bd1]; exact R _
  rw [ifn q8, ifn q8]
  by_cases q9 : x = 9
  · rw [ifp q9, ifp q9]; exact R _
  rw [ifn q9, ifn q9]
  by_cases q10 : x = 10
  · rw [ifp q10, ifp q10]; exact R _
  rw [ifn q10, ifn q10]
  by_cases q11 : x = 11
  · rw [ifp q11, ifp q11]; exact R _
  rw [ifn q11, ifn q11]
  by_cases q12 : x = 12
  · rw [ifp q12, ifp q12]; exact R _
  rw [ifn q12, ifn q12]
  exact R _
theorem unC_lp {ρ : Nat → Nat} (hG : Good ρ) {t : Nat} (ht : t ≤ 256) (ctC : Int32 → II → Option (Int32 × II)) (K0 : II) : ∀ (n k fu : Nat) (K : II), k + n = 200 → n + 2 < fu → CR K (rds ρ k) → FC K0 K →
    ∃ K', fX8_roundsUntil_L75 fu ctC (nI t) (-5) (nI (k + 1)) K = ctC (unR ρ t n (k + 1)) K' ∧ FC K0 K' := by
  intro n
  induction n with
  | zero =>
    intro k fu K hk hfu c1 c2
    obtain ⟨fu, rfl⟩ : ∃ m, fu = m + 1 := ⟨fu - 1, by omega⟩
    refine ⟨K, ?_, c2⟩
    show (if (200 : Int32) < nI (k + 1) then ctC (-5) K else _) = _
    rw [ifp (show (200 : Int32) < nI (k + 1) from (nI_ltI (a := 200) (by omega) (by omega)).mpr (by omega))]
    rfl
  | succ n ih =>
    intro k fu K hk hfu c1 c2
    obtain ⟨fu, rfl⟩ : ∃ m, fu = m + 1 := ⟨fu - 1, by omega⟩
    have hm' := mF_le (gR (rds ρ (k + 1)))
    have g := rds_g hG k
    have g' := rds_g hG (k + 1)
    obtain ⟨K1, a1, a2, a3⟩ := makeRounds_C c1 g.1 (k := 1) (by omega)
    change CR K1 (rds ρ (k + 1)) at a2
    obtain ⟨K2, b1, b2, b3, b4⟩ := a2.num g'.1
    have e1 : fX8_roundsUntil_L75 (fu + 1) ctC (nI t) (-5) (nI (k + 1)) K = (if nI t < nI (mF (gR (rds ρ (k + 1)))) then fX8_roundsUntil_L75 fu ctC (nI t) (-5) (nI (k + 1 + 1)) K2 else fX8_roundsUntil_L75 fu ctC (nI t) (nI (k + 1)) (nI (k + 1 + 1)) K2) := by
      show (if (200 : Int32) < nI (k + 1) then ctC (-5) K else (if ¬ (-5 : Int32) = (-5) then ctC (-5) K else (fX7_makeRounds K 1).bind fun v9 => (fX0_numberIn v9 3).bind fun v10 => (if nI t < v10.1 then fX8_roundsUntil_L75 fu ctC (nI t) (-5) (nI (k + 1) + 1) v10.2 else fX8_roundsUntil_L75 fu ctC (nI t) (nI (k + 1)) (nI (k + 1) + 1) v10.2))) = _
      rw [ifn (show ¬ (200 : Int32) < nI (k + 1) from fun z => by have := (nI_ltI (a := 200) (by omega) (by omega)).mp z; omega), ifn (fun z => z rfl), show fX7_makeRounds K 1 = _ from a1, bd1, b1, bd1, nI_1]
    have hF : FC K0 K2 := c2.tr (a3.tr b4)
    show ∃ K', fX8_roundsUntil_L75 (fu + 1) ctC (nI t) (-5) (nI (k + 1)) K = ctC (if mF (gR (rds ρ (k + 1))) ≤ t then nI (k + 1) else unR ρ t n (k + 1 + 1)) K' ∧ FC K0 K'
    rw [e1]
    by_cases q : t < mF (gR (rds ρ (k + 1)))
    · rw [ifp ((nI_ltI (by omega) (by omega)).mpr q), if_neg (by omega)]
      exact ih (k + 1) fu K2 (by omega) (by omega) b2 hF
    · rw [ifn (fun z => q ((nI_ltI (by omega) (by omega)).mp z)), if_pos (by omega)]
      obtain ⟨fu, rfl⟩ : ∃ m, fu = m + 1 := ⟨fu - 1, by omega⟩
      refine ⟨K2, ?_, hF⟩
      show (if (200 : Int32) < nI (k + 1 + 1) then ctC (nI (k + 1)) K2 else (if ¬ nI (k + 1) = (-5) then ctC (nI (k + 1)) K2 else _)) = _
      by_cases r : (200 : Int32) < nI (k + 1 + 1)
      · rw [ifp r]
      · rw [ifn r, ifp (n5 (by omega))]
theorem k_roundsUntil {A : AbS} {I : II} {P : PP} (hG : GI A) (hC : CI I P A) (x : Int32) : Rt (fX8_roundsUntil I x) I P (qUntil A x, A) := by
  have g2 := hG.1.2.1
  have hmF := mF_le (gR A.1)
  unfold fX8_roundsUntil qUntil
  rcases rngX x 0 256 (by omega) (by omega) with ⟨t, -, ht, rfl, g, e3⟩ | ⟨g, -, e3⟩
  · obtain ⟨I2, n1, n2, n3, n4⟩ := hC.num hG
    have w2 : nI (A.1 2) = (0 : Int32) ↔ A.1 2 = 0 := eqN (b := 0) (by omega) (by omega)
    rw [show fX8_isBetween (nI t) 0 256 = _ from e3, bd1, if1, n1, bd1, if_pos g, tnN (by omega)]
    simp only []
    rw [show I2 2 4 = _ from n2.1.1.1.2.2.1]
    by_cases q1 : mF (gR A.1) ≤ t
    · rw [ifn (fun z => by have := (nI_ltI (by omega) (by omega)).mp z; omega), if_pos q1]
      exact ⟨I2, rfl, hG, n2, n4.w⟩
    · rw [ifp ((nI_ltI (by omega) (by omega)).mpr (by omega)), if_neg q1]
      by_cases q2 : A.1 2 = 0
      · rw [ifn (fun z => z (w2.mpr q2)), if_pos q2]
        exact ⟨I2, rfl, hG, n2, n4.w⟩
      · rw [ifp (fun z => q2 (w2.mp z)), if_neg q2]
        obtain ⟨K0, k1, k2, k3⟩ := copy_G (I := I2) (a := 121) (b := 2) (by omega) n2.1.1 hG.1
        have hK0 := n2.as hG (I' := K0) (fun a ha => k3 a (by omega))
        rw [k1, bd1]
        obtain ⟨K', u1, u3⟩ := unC_lp hG.1 ht (fun z12 I13 => (fX7_load I13 121).bind fun v14 => some (z12, v14)) K0 200 0 2000 K0 (by omega) (by omega) hK0.1 FC.rf
        rw [show fX8_roundsUntil_L75 2000 (fun z12 I13 => (fX7_load I13 121).bind fun v14 => some (z12, v14)) (nI t) (-5) 1 K0 = _ from u1]
        obtain ⟨K2, l1, l2, l3⟩ := load_C (I := K') (b := 121) (by omega) (k2.fm hG.1.2.1 (fun a _ _ => u3 a (by omega))) hG.1
        have hCI : CI K2 P A := hK0.fc hG (u3.tr l3) l2
        have hFr : FrC I K2 := fun a ha => by rw [l3 a (by omega), u3 a (by omega), k3 a (by omega), n4 a (by omega)]
        rw [l1, bd1]
        exact ⟨K2, rfl, hG, hCI, hFr⟩
  · rw [show fX8_isBetween x 0 256 = _ from e3, bd1, if0, if_neg g]
    exact noT hG hC _
theorem k_undo {A : AbS} {I : II} {P : PP} (hG : GI A) (hC : CI I P A) : Rt (fX8_undo I P) I P (aUndo A) := by
  obtain ⟨c1, ⟨c2, c3, c4⟩, c5, c6⟩ := id hC
  obtain ⟨g1, ⟨g2, g3⟩, g4, g5⟩ := id hG
  unfold fX8_undo fX1_takeLatest aUndo
  rw [c3]
  by_cases q : A.2.1.1 = 0
  · have e : fX1_stateAt P (nI A.2.1.1 - 1) = some none := by
      rw [q]
      exact ifp (by decide)
    rw [e, bd1, bd1, if_pos q]
    exact noT hG hC _
  · rw [if_neg q]
    obtain ⟨h, hh⟩ : ∃ h, A.2.1.1 = h + 1 := ⟨A.2.1.1 - 1, by omega⟩
    rw [hh] at c3 c4 g2 g3 ⊢
    have hb := HB_n (c2.1 h (by omega))
    rw [show nI (h + 1) - 1 = nI h from pk_sub (a := h + 1) (b := 1) (by omega), stateAt_C (show h < 5 by omega), bd1]
    simp only []
    rw [bd1, bd1]
    simp only []
    obtain ⟨I2, l1, l2, l3⟩ := load_C (I := up2 I 21 1 (nI h)) (b := hq P h) (ρ := A.2.1.2 h) (by omega) ((c4 h (by omega)).fm (g3 h (by omega)).2.1 (fun a _ _ => up2_n (by omega))) (g3 h (by omega))
    rw [l1, bd1, l3 21 (by omega), up2_a, show h + 1 - 1 = h by omega]
    have hA : GI (A.2.1.2 h, (h, A.2.1.2), A.2.2) := ⟨g3 h (by omega), ⟨by show h ≤ 5; omega, fun i hi => g3 i (by have : i < h := hi; omega)⟩, g4, g5⟩
    refine ⟨I2, rfl, hA, ⟨l2, ⟨c2, by rw [l3 21 (by omega)]; exact up2_a, fun i hi => ?_⟩, fun s hs => ⟨by rw [l3 _ (by omega), up2_n (by omega)]; exact (c5 s hs).1, fun hk => ((c5 s hs).2 hk).fm ((g4 s hs).2 hk).2.1 (fun a _ _ => by rw [l3 a (by omega), up2_n (by omega)])⟩, by rw [l3 88 (by omega), l3 89 (by omega), up2_n (by omega), up2_n (by omega)]; exact c6⟩, fun a ha => by rw [l3 a (by omega), up2_n (by omega)]⟩
    have hi' : i < h := hi
    have hbi := HB_n (c2.1 i (by omega))
    exact (c4 i (by omega)).fm (g3 i (by omega)).2.1 (fun a _ _ => by rw [l3 a (by omega), up2_n (by omega)])
theorem k_keep2 {I : II} : fX8_keep I 2 = some (-1, I) := by
  unfold fX8_keep fX8_slotAt
  rw [ifn (by decide), ifn (by decide), bd1]
theorem k_restore2 {I : II} {P : PP} : fX8_restore I P 2 = some (-1, I, P) := by
  unfold fX8_restore fX8_slotAt
  rw [ifn (by decide), ifn (by decide), bd1]
