/-! heaps as the law counts them -/
/-- a cell of the heap at the place h -/
def iH (g : Nat → Nat) (h i : Nat) : Prop := 0 < g i ∧ Plc g (labF g i) = h
theorem lab_nb {g : Nat → Nat} {i d : Nat} (hi : i < 256) (hd : d < 4) (hg : 0 < g i) (hn : nbr i d < 256) (hgn : 0 < g (nbr i d)) : labF g (nbr i d) = labF g i := by
  obtain ⟨r1, r2⟩ := rtOf_sp hi hg
  have := rtOf_eq r1 (r2.tr (Conn.st hi hd hn hgn))
  unfold labF
  rw [this]
theorem sm_addf {a b : Nat → Nat} : ∀ n, sm (fun h => a h + b h) n = sm a n + sm b n
  | 0 => rfl
  | n + 1 => by
    show sm (fun h => a h + b h) n + (a n + b n) = (sm a n + a n) + (sm b n + b n)
    rw [sm_addf n]
    omega
theorem sm_one1 {p : Prop} {c : Nat} : ∀ n, sm (fun h => dd (p ∧ c = h)) n = if c < n then dd p else 0
  | 0 => by rw [if_neg (by omega)]; rfl
  | n + 1 => by
    show sm (fun h => dd (p ∧ c = h)) n + dd (p ∧ c = n) = _
    rw [sm_one1 n]
    by_cases e : c = n
    · rw [if_neg (by omega), if_pos (by omega), dd_c (p := p ∧ c = n) (q := p) ⟨fun z => z.1, fun z => ⟨z, e⟩⟩]
      omega
    · rw [dd_f (p := p ∧ c = n) (fun z => e z.2)]
      by_cases q : c < n
      · rw [if_pos q, if_pos (by omega)]
        exact Nat.add_zero _
      · rw [if_neg q, if_neg (by omega)]
theorem cnt_parts {g : Nat → Nat} : ∀ X, X ≤ 256 → sm (fun h => cnt (iH g h) X) (mF g) = cnt (fun i => 0 < g i) X
  | 0, _ => by
    show sm (fun _ => 0) (mF g) = 0
    exact sm_zero _
  | X + 1, hX => by
    show sm (fun h => cnt (iH g h) X + dd (iH g h X)) (mF g) = cnt (fun i => 0 < g i) X + dd (0 < g X)
    rw [sm_addf, cnt_parts X (by omega)]
    congr 1
    show sm (fun h => dd (0 < g X ∧ Plc g (labF g X) = h)) (mF g) = _
    rw [sm_one1]
    by_cases q : 0 < g X
    · rw [if_pos (Plc_lt (labF_lt (by omega) q))]
    · rw [dd_f q]
      split <;> rfl
/-- the row that the law fills for the place h -/
def HE (g : Nat → Nat) (q : II) (X h : Nat) : Prop := q 0 h = nI (cnt (iH g h) X) ∧ q 3 h = nI (sme g (iH g h) X) ∧ q 1 h = nI (mxe g (iH g h) X) ∧ (cnt (iH g h) X = 0 ∨ ∃ i, i < X ∧ iH g h i ∧ (∀ j, j < i → ¬ iH g h j) ∧ q 2 h = nI (100 * (i / 16) + i % 16))
def HI (g : Nat → Nat) (q : II) (X : Nat) : Prop := ∀ h, h < 64 → h < mF g → HE g q X h
theorem mxe_le99 {g : Nat → Nat} {p : Nat → Prop} {n : Nat} (hb : ∀ c, c < 256 → g c ≤ 99) (hn : n ≤ 256) : mxe g p n ≤ 99 := (mxe_le n).mpr (fun i hi _ => hb i (by omega))
theorem cnt0 {p : Nat → Prop} : ∀ n, cnt p n = 0 → ∀ i, i < n → ¬ p i
  | 0, _, i, hi => by omega
  | n + 1, h, i, hi => by
    have h : cnt p n + dd (p n) = 0 := h
    by_cases e : i = n
    · rw [e]
      intro z
      rw [dd_t z] at h
      omega
    · exact cnt0 n (by omega) i (by omega)
theorem HE.skip {g : Nat → Nat} {q : II} {X h : Nat} (he : HE g q X h) (hn : ¬ iH g h X) : HE g q (X + 1) h := by
  obtain ⟨a, b, c, d⟩ := he
  refine ⟨?_, ?_, ?_, ?_⟩
  · show q 0 h = nI (cnt (iH g h) X + dd (iH g h X))
    rw [dd_f hn]; exact a
  · show q 3 h = nI (sme g (iH g h) X + dd (iH g h X) * g X)
    rw [dd_f hn, Nat.zero_mul]; exact b
  · show q 1 h = nI (Nat.max (mxe g (iH g h) X) (dd (iH g h X) * g X))
    rw [dd_f hn, Nat.zero_mul, show Nat.max (mxe g (iH g h) X) 0 = mxe g (iH g h) X from Nat.max_zero _]; exact c
  · rcases d with d | ⟨i, i1, i2⟩
    · left
      show cnt (iH g h) X + dd (iH g h X) = 0
      rw [dd_f hn]; exact d
    · exact Or.inr ⟨i, by omega, i2⟩
theorem HI.skip {g : Nat → Nat} {q : II} {X : Nat} (h : HI g q X) (hn : g X = 0) : HI g q (X + 1) := fun k h1 h2 => (h k h1 h2).skip (fun z => by have := z.1; omega)
theorem HI.skips {g : Nat → Nat} {q : II} {X : Nat} (h : HI g q X) : ∀ n, (∀ i, X ≤ i → i < X + n → g i = 0) → HI g q (X + n)
  | 0, _ => h
  | n + 1, hz => (HI.skips h n (fun i h1 h2 => hz i h1 (by omega))).skip (hz _ (by omega) (by omega))
theorem HI.far {g : Nat → Nat} {q : II} {X : Nat} (h : HI g q X) (hn : 64 ≤ Plc g (labF g X)) : HI g q (X + 1) := fun k h1 h2 => (h k h1 h2).skip (fun z => by have := z.2; omega)
/-- the heap's row behind one cell more -/
def hQ (q : II) (h : Nat) (v2 : Int32) (gx : Nat) (v1 : Int32) : II := up2 (up2 (up2 (up2 q 2 h v2) 0 h (q 0 h + 1)) 3 h (q 3 h + nI gx)) 1 h v1
theorem HI.put {g : Nat → Nat} {q : II} {X : Nat} {v1 v2 : Int32} (h : HI g q X) (hg : 0 < g X) (h64 : Plc g (labF g X) < 64) (hm : Plc g (labF g X) < mF g)
    (e2 : v2 = if cnt (iH g (Plc g (labF g X))) X = 0 then nI (100 * (X / 16) + X % 16) else q 2 (Plc g (labF g X))) (e1 : v1 = nI (Nat.max (mxe g (iH g (Plc g (labF g X))) X) (g X))) : HI g (hQ q (Plc g (labF g X)) v2 (g X) v1) (X + 1) := by
  intro k h1 h2
  have he := h k h1 h2
  unfold hQ
  by_cases e : k = Plc g (labF g X)
  · have hp : iH g k X := ⟨hg, e.symm⟩
    rw [← e] at e1 e2 ⊢
    obtain ⟨a, b, c, d⟩ := he
    refine ⟨?_, ?_, ?_, ?_⟩
    · show _ = nI (cnt (iH g k) X + dd (iH g k X))
      rw [dd_t hp, up2_n (by omega), up2_n (by omega), up2_a, a, nI_1]
    · show _ = nI (sme g (iH g k) X + dd (iH g k X) * g X)
      rw [dd_t hp, Nat.one_mul, up2_n (by omega), up2_a, b, nI_add]
    · show _ = nI (Nat.max (mxe g (iH g k) X) (dd (iH g k X) * g X))
      rw [dd_t hp, Nat.one_mul, up2_a, e1]
    · right
      rw [up2_n (by omega), up2_n (by omega), up2_n (by omega), up2_a, e2]
      rcases d with d | ⟨i, i1, i2, i3, i4⟩
      · rw [if_pos d]
        exact ⟨X, by omega, hp, cnt0 X d, rfl⟩
      · rw [if_neg (fun z => cnt0 X z i i1 i2)]
        exact ⟨i, by omega, i2, i3, i4⟩
  · have he' := he.skip (fun z => e z.2.symm)
    obtain ⟨a, b, c, d⟩ := he'
    unfold HE
    have o : ∀ r, up2 (up2 (up2 (up2 q 2 (Plc g (labF g X)) v2) 0 (Plc g (labF g X)) (q 0 (Plc g (labF g X)) + 1)) 3 (Plc g (labF g X)) (q 3 (Plc g (labF g X)) + nI (g X))) 1 (Plc g (labF g X)) v1 r k = q r k := by
      intro r
      have go : ∀ (I : II) (a : Nat) (v : Int32), up2 I a (Plc g (labF g X)) v r k = I r k := fun I a v => by
        by_cases z : r = a
        · rw [z, up2_b e]
        · rw [up2_n z]
      rw [go, go, go, go]
    rw [o 0, o 1, o 2, o 3]
    exact ⟨a, b, c, d⟩
section HB
variable {A : AbS}
theorem nb_right {g : Nat → Nat} {A : AbS} (hG : GI A) (hg : g = gR A.1) {r c : Nat} (hr : r < A.1 0) (hc : c < A.1 1) (h0 : 0 < g (16 * r + c)) : qChips A (nI r) (nI c + 1) ≤ 0 ∨ (¬ qChips A (nI r) (nI c + 1) ≤ 0 ∧ qHeapOf A (nI r) (nI c + 1) = nI (Plc g (labF g (16 * r + c)))) := by
  subst hg
  have b1 := hG.1.1.1
  have b2 := hG.1.1.2.1
  rw [nI_1]
  by_cases q : c + 1 < A.1 1
  · rw [qC hr q hG, qH hr q hG]
    have h99 := hG.1.1.2.2.1 (16 * r + (c + 1)) (by omega)
    by_cases z : gR A.1 (16 * r + (c + 1)) = 0
    · left
      rw [z]
      decide
    · right
      have e : nbr (16 * r + c) 1 = 16 * r + (c + 1) := by
        unfold nbr
        rw [if_neg (by omega), if_pos rfl, if_neg (by omega)]
        omega
      refine ⟨nle (b := 0) (by omega) (by omega) (by omega), ?_⟩
      rw [if_neg z, ← e, lab_nb (by omega) (by omega) h0 (by rw [e]; omega) (by rw [e]; omega)]
  · left
    have : qChips A (nI r) (nI (c + 1)) = -1 := if_neg (fun z => by have := z.2.2; rw [nI_toInt (by omega)] at this; omega)
    rw [this]
    decide
theorem nb_down {g : Nat → Nat} {A : AbS} (hG : GI A) (hg : g = gR A.1) {r c : Nat} (hr : r < A.1 0) (hc : c < A.1 1) (h0 : 0 < g (16 * r + c)) : qChips A (nI r + 1) (nI c) ≤ 0 ∨ (¬ qChips A (nI r + 1) (nI c) ≤ 0 ∧ qHeapOf A (nI r + 1) (nI c) = nI (Plc g (labF g (16 * r + c)))) := by
  subst hg
  have b1 := hG.1.1.1
  have b2 := hG.1.1.2.1
  rw [nI_1]
  by_cases q : r + 1 < A.1 0
  · rw [qC q hc hG, qH q hc hG]
    have h99 := hG.1.1.2.2.1 (16 * (r + 1) + c) (by omega)
    by_cases z : gR A.1 (16 * (r + 1) + c) = 0
    · left
      rw [z]
      decide
    · right
      have e : nbr (16 * r + c) 2 = 16 * (r + 1) + c := by
        unfold nbr
        rw [if_neg (by omega), if_neg (by omega), if_pos rfl, if_neg (by omega)]
        omega
      refine ⟨nle (b := 0) (by omega) (by omega) (by omega), ?_⟩
      rw [if_neg z, ← e, lab_nb (by omega) (by omega) h0 (by rw [e]; omega) (by rw [e]; omega)]
  · left
    have : qChips A (nI (r + 1)) (nI c) = -1 := if_neg (fun z => by have := z.1.2; rw [nI_toInt (by omega)] at this; omega)
    rw [this]
    decide
/-- one cell -/
theorem cell_sp {g : Nat → Nat} (hG : GI A) (hg : g = gR A.1) {r c : Nat} (hr : r < A.1 0) (hc : c < A.1 1) (k : Nat) (ct : Int32 → Int32 → II → Option Int32) {q : II} (hI : HI g q (16 * r + c)) :
    ∃ q', HI g q' (16 * r + c + 1) ∧ hL_heaps_L50 (k + 1) ct (nI (mF g)) (nI r) A (nI (sm g (16 * r + c))) (nI (cnt (fun i => 0 < g i) (16 * r + c))) (nI c) q = hL_heaps_L50 k ct (nI (mF g)) (nI r) A (nI (sm g (16 * r + c + 1))) (nI (cnt (fun i => 0 < g i) (16 * r + c + 1))) (nI (c + 1)) q' := by
  have hg' := hg
  subst hg
  have b1 := hG.1.1.1
  have b2 := hG.1.1.2.1
  have hb := hG.1.1.2.2.1
  have hX : 16 * r + c < 256 := by omega
  have hmF := mF_le (gR A.1)
  have eL : hL_heaps_L50 (k + 1) ct (nI (mF (gR A.1))) (nI r) A (nI (sm (gR A.1) (16 * r + c))) (nI (cnt (fun i => 0 < gR A.1 i) (16 * r + c))) (nI c) q = (if (qCount A 1) ≤ nI c then ct _ _ q else (if (qChips A (nI r) (nI c)) < 0 then some 0 else (if 99 < (qChips A (nI r) (nI c)) then some 0 else (if ¬ (qChips A (nI r) (nI c)) = 0 then hL_heaps_J102 (hL_heaps_L50 k ct (nI (mF (gR A.1))) (nI r) A) ct A q (nI (mF (gR A.1))) (nI (sm (gR A.1) (16 * r + c))) (nI (cnt (fun i => 0 < gR A.1 i) (16 * r + c))) (nI r) (nI c) (qChips A (nI r) (nI c)) (qHeapOf A (nI r) (nI c)) 0 else hL_heaps_J102 (hL_heaps_L50 k ct (nI (mF (gR A.1))) (nI r) A) ct A q (nI (mF (gR A.1))) (nI (sm (gR A.1) (16 * r + c))) (nI (cnt (fun i => 0 < gR A.1 i) (16 * r + c))) (nI r) (nI c) (qChips A (nI r) (nI c)) (qHeapOf A (nI r) (nI c)) 1)))) := rfl
  rw [eL, qc1, if_neg (nle (by omega) (by omega) hc), qC hr hc hG, qH hr hc hG]
  have hgx := hb _ hX
  have hr' := nb_right hG hg' hr hc
  have hd' := nb_down hG hg' hr hc
  generalize hXX : 16 * r + c = X at *
  generalize hgg : gR A.1 = g at *
  have sm1 : sm g (X + 1) = sm g X + g X := rfl
  have cn1 : cnt (fun i => 0 < g i) (X + 1) = cnt (fun i => 0 < g i) X + dd (0 < g X) := rfl
  have a0 : ∀ x : Int32, x + 0 = x := fun x => Int32.add_zero x
  rw [if_neg (nI_pos (by omega)), if_neg (show ¬ (99 : Int32) < nI (g X) from fun z => by have := (ltN (a := 99) (by omega) (by omega)).mp z; omega)]
  by_cases q0 : g X = 0
  · refine ⟨q, hI.skip q0, ?_⟩
    unfold hL_heaps_J102 hL_heaps_J114 hL_heaps_J268
    rw [sm1, cn1, dd_f (by omega), q0, if_neg (show ¬ ¬ nI 0 = (0 : Int32) from fun z => z rfl), if_pos rfl, if_neg (show ¬ ¬ (-5 : Int32) = -5 from fun z => z rfl), if_neg (show ¬ ¬ (1 : Int32) = 1 from fun z => z rfl), if_pos (show (-5 : Int32) < nI (mF g) by rw [Int32.lt_iff_toInt_lt, nI_toInt (by omega), show (-5 : Int32).toInt = -5 by decide]; omega), if_pos (show nI 0 ≤ (0 : Int32) by decide), if_pos (show nI 0 ≤ (0 : Int32) by decide), nI_add, a0, nI_1]
    rfl
  · have h0 : 0 < g X := by omega
    have hpl := Plc_lt (labF_lt hX h0)
    have hnr := hr' h0
    have hnd := hd' h0
    have n5 : ¬ nI (Plc g (labF g X)) = (-5 : Int32) := n5 (by omega)
    have fin : ∀ q', hL_heaps_J268 (hL_heaps_L50 k ct (nI (mF g)) (nI r) A) ct A q' (nI (mF g)) (nI (sm g X)) (nI (cnt (fun i => 0 < g i) X)) (nI r) (nI c) (nI (g X)) = hL_heaps_L50 k ct (nI (mF g)) (nI r) A (nI (sm g (X + 1))) (nI (cnt (fun i => 0 < g i) (X + 1))) (nI (c + 1)) q' := by
      intro q'
      unfold hL_heaps_J268
      rw [if_neg (show ¬ nI (g X) ≤ (0 : Int32) from nle (b := 0) (by omega) (by omega) h0), sm1, cn1, dd_t h0, nI_add, nI_1, nI_1]
    have z1 : ¬ nI (g X) ≤ (0 : Int32) := nle (b := 0) (by omega) (by omega) h0
    rw [if_pos (show ¬ nI (g X) = (0 : Int32) from fun z => q0 ((eqN (b := 0) (by omega) (by omega)).mp z)), if_neg q0]
    unfold hL_heaps_J102 hL_heaps_J114
    rw [if_pos n5, if_neg (show ¬ ¬ (0 : Int32) = 0 from fun z => z rfl), if_pos ((ltN (by omega) (by omega)).mpr hpl), if_neg z1]
    generalize hh : Plc g (labF g X) = h at *
    by_cases q64 : 64 ≤ h
    · rw [if_pos (show (64 : Int32) ≤ nI h from yle (a := 64) (by omega) (by omega) q64)]
      exact ⟨q, hI.far (by rw [hh]; exact q64), fin q⟩
    · have h64 : h < 64 := by omega
      have ckh : ∀ {α : Type} {k : Option α}, ck (ix (nI h) 64) k = k := ckN h64 (by omega)
      obtain ⟨a, b, cc, d⟩ := hI h h64 hpl
      have hcl := cnt_le (iH g h) X
      have hmx := mxe_le99 (p := iH g h) (n := X) hb (by omega)
      have e100 : (100 : Int32) * nI r + nI c = nI (100 * (X / 16) + X % 16) := by
        rw [show (100 : Int32) = nI 100 from rfl, pk_mul, nI_add]
        exact congrArg nI (by omega)
      rw [if_neg (show ¬ (64 : Int32) ≤ nI h from nle (a := 64) (by omega) (by omega) h64)]
      simp only [ckh, tnN (show h < 2 ^ 31 by omega), e100]
      -- from the first cell on
      have j165 : ∀ v2, v2 = (if cnt (iH g h) X = 0 then nI (100 * (X / 16) + X % 16) else q 2 h) → ∃ q', HI g q' (X + 1) ∧ hL_heaps_J165 (hL_heaps_L50 k ct (nI (mF g)) (nI r) A) ct A q (nI (mF g)) (nI (sm g X)) (nI (cnt (fun i => 0 < g i) X)) (nI r) (nI c) (nI (g X)) (nI h) (nI h) v2 = hL_heaps_L50 k ct (nI (mF g)) (nI r) A (nI (sm g (X + 1))) (nI (cnt (fun i => 0 < g i) (X + 1))) (nI (c + 1)) q' := by
        intro v2 hv2
        have hput := fun (v1 : Int32) (hv1 : v1 = nI (Nat.max (mxe g (iH g h) X) (g X))) => HI.put (v1 := v1) (v2 := v2) hI h0 (by rw [hh]; exact h64) (by rw [hh]; exact hpl) (by rw [hh]; exact hv2) (by rw [hh]; exact hv1)
        rw [hh] at hput
        refine ⟨hQ q h v2 (g X) (nI (Nat.max (mxe g (iH g h) X) (g X))), hput _ rfl, ?_⟩
        unfold hL_heaps_J165 hL_heaps_J209 hL_heaps_J238
        simp only [ckh, tnN (show h < 2 ^ 31 by omega), bd1]
        have m0 : up2 q 2 h v2 0 h = q 0 h := by rw [up2_n (by omega)]
        have m3 : up2 (up2 q 2 h v2) 0 h (q 0 h + 1) 3 h = q 3 h := by rw [up2_n (by omega), up2_n (by omega)]
        have m1 : up2 (up2 (up2 q 2 h v2) 0 h (q 0 h + 1)) 3 h (q 3 h + nI (g X)) 1 h = nI (mxe g (iH g h) X) := by rw [up2_n (by omega), up2_n (by omega), up2_n (by omega)]; exact cc
        rw [m0, m3, m1]
        have tail : ∀ v1, v1 = nI (Nat.max (mxe g (iH g h) X) (g X)) → (if (qChips A (nI r) (nI c + 1)) ≤ 0 then (if (qChips A (nI r + 1) (nI c)) ≤ 0 then hL_heaps_J268 (hL_heaps_L50 k ct (nI (mF g)) (nI r) A) ct A (up2 (up2 (up2 (up2 q 2 h v2) 0 h (q 0 h + 1)) 3 h (q 3 h + nI (g X))) 1 h v1) (nI (mF g)) (nI (sm g X)) (nI (cnt (fun i => 0 < g i) X)) (nI r) (nI c) (nI (g X)) else (if (qHeapOf A (nI r + 1) (nI c)) = nI h then hL_heaps_J268 (hL_heaps_L50 k ct (nI (mF g)) (nI r) A) ct A (up2 (up2 (up2 (up2 q 2 h v2) 0 h (q 0 h + 1)) 3 h (q 3 h + nI (g X))) 1 h v1) (nI (mF g)) (nI (sm g X)) (nI (cnt (fun i => 0 < g i) X)) (nI r) (nI c) (nI (g X)) else some 0)) else (if ¬ (qHeapOf A (nI r) (nI c + 1)) = nI h then some 0 else (if (qChips A (nI r + 1) (nI c)) ≤ 0 then hL_heaps_J268 (hL_heaps_L50 k ct (nI (mF g)) (nI r) A) ct A (up2 (up2 (up2 (up2 q 2 h v2) 0 h (q 0 h + 1)) 3 h (q 3 h + nI (g X))) 1 h v1) (nI (mF g)) (nI (sm g X)) (nI (cnt (fun i => 0 < g i) X)) (nI r) (nI c) (nI (g X)) else (if (qHeapOf A (nI r + 1) (nI c)) = nI h then hL_heaps_J268 (hL_heaps_L50 k ct (nI (mF g)) (nI r) A) ct A (up2 (up2 (up2 (up2 q 2 h v2) 0 h (q 0 h + 1)) 3 h (q 3 h + nI (g X))) 1 h v1) (nI (mF g)) (nI (sm g X)) (nI (cnt (fun i => 0 < g i) X)) (nI r) (nI c) (nI (g X)) else some 0)))) = hL_heaps_L50 k ct (nI (mF g)) (nI r) A (nI (sm g (X + 1))) (nI (cnt (fun i => 0 < g i) (X + 1))) (nI (c + 1)) (hQ q h v2 (g X) (nI (Nat.max (mxe g (iH g h) X) (g X)))) := by
          intro v1 hv1
          have f := fin (up2 (up2 (up2 (up2 q 2 h v2) 0 h (q 0 h + 1)) 3 h (q 3 h + nI (g X))) 1 h v1)
          subst hv1
          rcases hnr with z | ⟨z, y⟩
          · rw [if_pos z]
            rcases hnd with u | ⟨u, v⟩
            · rw [if_pos u]; exact f
            · rw [if_neg u, if_pos v]; exact f
          · rw [if_neg z, if_neg (fun w => w y)]
            rcases hnd with u | ⟨u, v⟩
            · rw [if_pos u]; exact f
            · rw [if_neg u, if_pos v]; exact f
        by_cases qm : g X ≤ mxe g (iH g h) X
        · rw [if_pos (yle (by omega) (by omega) qm)]
          exact tail _ (congrArg nI (Nat.max_eq_left qm).symm)
        · rw [if_neg (nle (by omega) (by omega) (by omega))]
          exact tail _ (congrArg nI (Nat.max_eq_right (by omega)).symm)
      rw [a]
      by_cases qc : cnt (iH g h) X = 0
      · rw [if_neg (show ¬ ¬ nI (cnt (iH g h) X) = (0 : Int32) from fun z => z (by rw [qc]; rfl))]
        exact j165 _ (by rw [if_pos qc])
      · rw [if_pos (show ¬ nI (cnt (iH g h) X) = (0 : Int32) from fun z => qc ((eqN (b := 0) (by omega) (by omega)).mp z))]
        exact j165 _ (by rw [if_neg qc])
end HB
