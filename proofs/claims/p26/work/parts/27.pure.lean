/-! plain rows about the calls: new boards, walkers, turns, strewing, sums (cut out of the rows for the whole law) -/
theorem nle {a b : Nat} (ha : a < 2 ^ 31) (hb : b < 2 ^ 31) (h : b < a) : ¬ nI a ≤ nI b := fun z => by have := (leN ha hb).mp z; omega
theorem yle {a b : Nat} (ha : a < 2 ^ 31) (hb : b < 2 ^ 31) (h : a ≤ b) : nI a ≤ nI b := (leN ha hb).mpr h
theorem if1 {α : Type} {a b : α} : (if ¬ (1 : Int32) = 0 then a else b) = a := if_pos (by decide)
theorem if0 {α : Type} {a b : α} : (if ¬ (0 : Int32) = 0 then a else b) = b := if_neg (by decide)
theorem jf1 {α : Type} {a b : α} : (if (1 : Int32) = 0 then a else b) = b := if_neg (by decide)
theorem jf0 {α : Type} {a b : α} : (if (0 : Int32) = 0 then a else b) = a := if_pos rfl
theorem nnI {x : Int32} (h : 0 ≤ x.toInt) : ∃ m, m < 2 ^ 31 ∧ x = nI m := by
  have hl := Int32.toInt_lt x
  refine ⟨x.toInt.toNat, by omega, ?_⟩
  rw [← Int32.toInt_inj, nI_toInt (by omega)]
  omega
theorem Good.ch {ρ : Nat → Nat} {c v : Nat} (h : Good ρ) (hc : c < 256) (h1 : c / 16 < ρ 0) (h2 : c % 16 < ρ 1) (hv : v ≤ 99) : Good (stR ρ (9 + c) v) := by
  obtain ⟨⟨b1, b2, b3, b4⟩, g2, g3, g4, g5, g6, g7, g8⟩ := h
  have o : ∀ j, (j < 9 ∨ 264 < j) → stR ρ (9 + c) v j = ρ j := fun j hj => stR_n (by omega)
  refine ⟨⟨?_, ?_, fun i hi => ?_, fun i hi hcc => ?_⟩, ?_, ?_, ?_, ?_, fun u hu => ?_, fun t ht => ?_, ?_⟩
  · rw [o 0 (by omega)]; exact b1
  · rw [o 1 (by omega)]; exact b2
  · rw [gR_st]
    show (if i = c then v else gR ρ i) ≤ 99
    split
    · exact hv
    · exact b3 i hi
  · rw [o 0 (by omega), o 1 (by omega)] at hcc
    rw [gR_st]
    show (if i = c then v else gR ρ i) = 0
    rw [if_neg (fun e => by rw [e] at hcc; omega)]
    exact b4 i hi hcc
  · rw [o 2 (by omega)]; exact g2
  · rw [o 3 (by omega)]; exact g3
  · rw [o 3 (by omega), o 4 (by omega)]; exact g4
  · rw [o 5 (by omega)]; exact g5
  · rw [o 2 (by omega)] at hu
    have w0 := g6 u hu
    unfold Wk at w0 ⊢
    rw [o 0 (by omega), o 1 (by omega), o (wI u 0) (by unfold wI; omega), o (wI u 1) (by unfold wI; omega), o (wI u 2) (by unfold wI; omega), o (wI u 3) (by unfold wI; omega), o (wI u 4) (by unfold wI; omega), o (wI u 5) (by unfold wI; omega)]
    exact w0
  · rw [o 3 (by omega)] at ht
    rw [o _ (by omega)]; exact g7 t ht
  · rw [o 8 (by omega), o 2 (by omega), g8]
    refine sm_congr _ (fun u hu => ?_)
    show ρ (wI u 6) = stR ρ (9 + c) v (wI u 6)
    rw [o _ (by unfold wI; omega)]
theorem Good.so {ρ : Nat → Nat} {w v : Nat} (h : Good ρ) (hw : w < 8) (hv : v ≤ 2) : Good (stR ρ (wI w 5) v) := by
  obtain ⟨hB, g2, g3, g4, g5, g6, g7, g8⟩ := h
  obtain ⟨b1, b2, b3, b4⟩ := hB
  have o : ∀ j, j < 265 → stR ρ (wI w 5) v j = ρ j := fun j hj => stR_n (by unfold wI; omega)
  have q : ∀ u f, f < 9 → f ≠ 5 → stR ρ (wI w 5) v (wI u f) = ρ (wI u f) := fun u f hf hne => stR_n (wI_ne hf (by omega) (by omega))
  refine ⟨⟨?_, ?_, fun c hc2 => ?_, fun c hc2 hcc => ?_⟩, ?_, ?_, ?_, ?_, fun u hu => ?_, fun t ht => ?_, ?_⟩
  · rw [o 0 (by omega)]; exact b1
  · rw [o 1 (by omega)]; exact b2
  · unfold gR; rw [o _ (by omega)]; exact b3 c hc2
  · rw [o 0 (by omega), o 1 (by omega)] at hcc
    unfold gR; rw [o _ (by omega)]; exact b4 c hc2 hcc
  · rw [o 2 (by omega)]; exact g2
  · rw [o 3 (by omega)]; exact g3
  · rw [o 3 (by omega), o 4 (by omega)]; exact g4
  · rw [o 5 (by omega)]; exact g5
  · rw [o 2 (by omega)] at hu
    have w0 := g6 u hu
    unfold Wk at w0 ⊢
    rw [o 0 (by omega), o 1 (by omega), q u 0 (by omega) (by omega), q u 1 (by omega) (by omega), q u 2 (by omega) (by omega), q u 3 (by omega) (by omega), q u 4 (by omega) (by omega)]
    refine ⟨w0.1, w0.2.1, w0.2.2.1, w0.2.2.2.1, w0.2.2.2.2.1, ?_⟩
    by_cases e : u = w
    · rw [e, stR_s]; exact hv
    · rw [stR_n (wI_ne (by omega) (by omega) (by omega))]; exact w0.2.2.2.2.2
  · rw [o 3 (by omega)] at ht
    rw [stR_n (by unfold wI; omega)]; exact g7 t ht
  · rw [o 8 (by omega), o 2 (by omega), g8]
    refine sm_congr _ (fun u hu => ?_)
    show ρ (wI u 6) = stR ρ (wI w 5) v (wI u 6)
    rw [q u 6 (by omega) (by omega)]
theorem c9 (r c : Nat) : (9 : Int32) + 16 * nI r + nI c = nI (9 + (16 * r + c)) := by
  rw [show (9 : Int32) = nI 9 from rfl, show (16 : Int32) = nI 16 from rfl, pk_mul, nI_add, nI_add, Nat.add_assoc]
theorem CR.tu {I I' : II} {ρ ρ' : Nat → Nat} (h : CR I ρ) (g2 : ρ 2 ≤ 8) (hf : ∀ a, a ≠ 5 → a ≠ 6 → I' a = I a) (hρ : ∀ j, j < 337 → j ≠ 3 → j ≠ 4 → j ≠ 5 → ρ' j = ρ j) (t1 : I' 5 1 = nI (ρ' 3)) (t2 : I' 5 2 = nI (ρ' 4)) (t3 : I' 5 3 = nI (ρ' 5)) (t4 : ∀ t, t < ρ' 3 → I' 6 t = nI (ρ' (337 + t))) : CR I' ρ' := by
  obtain ⟨⟨h1, h2, h3, h4, h5⟩, hH⟩ := h
  refine ⟨⟨?_, fun i hi => ?_, ⟨t1, t2, t3⟩, t4, fun u e hu he => ?_⟩, ?_⟩
  · rw [hf 2 (by omega) (by omega), hρ 0 (by omega) (by omega) (by omega) (by omega), hρ 1 (by omega) (by omega) (by omega) (by omega), hρ 2 (by omega) (by omega) (by omega) (by omega), hρ 6 (by omega) (by omega) (by omega) (by omega), hρ 7 (by omega) (by omega) (by omega) (by omega)]
    exact h1
  · rw [hf _ (by omega) (by omega)]
    unfold gR
    rw [hρ _ (by omega) (by omega) (by omega) (by omega)]
    exact h2 i hi
  · rw [hρ 2 (by omega) (by omega) (by omega) (by omega)] at hu
    rw [hf _ (by omega) (by omega), hρ _ (by unfold wI; omega) (by unfold wI; omega) (by unfold wI; omega) (by unfold wI; omega)]
    exact h5 u e hu he
  · exact HC_congr (hH.fm (fun a _ _ => hf a (by omega) (by omega))) (fun c hc => hρ _ (by omega) (by omega) (by omega) (by omega))
theorem Good.tu {ρ ρ' : Nat → Nat} (h : Good ρ) (hρ : ∀ j, j < 337 → j ≠ 3 → j ≠ 4 → j ≠ 5 → ρ' j = ρ j) (t1 : 1 ≤ ρ' 3 ∧ ρ' 3 ≤ 30) (t2 : ρ' 4 < ρ' 3) (t3 : ρ' 5 ≤ 1) (t4 : ∀ t, t < ρ' 3 → ρ' (337 + t) ≤ 9) : Good ρ' := by
  obtain ⟨⟨b1, b2, b3, b4⟩, g2, g3, g4, g5, g6, g7, g8⟩ := h
  have o : ∀ j, j < 337 → j ≠ 3 → j ≠ 4 → j ≠ 5 → ρ' j = ρ j := hρ
  have og : ∀ c, c < 256 → gR ρ' c = gR ρ c := fun c hc => o _ (by omega) (by omega) (by omega) (by omega)
  have ow : ∀ u f, u < 8 → f < 9 → ρ' (wI u f) = ρ (wI u f) := fun u f hu hf => o _ (by unfold wI; omega) (by unfold wI; omega) (by unfold wI; omega) (by unfold wI; omega)
  have o2 := o 2 (by omega) (by omega) (by omega) (by omega)
  refine ⟨⟨?_, ?_, fun i hi => ?_, fun i hi hcc => ?_⟩, ?_, t1, t2, t3, fun u hu => ?_, t4, ?_⟩
  · rw [o 0 (by omega) (by omega) (by omega) (by omega)]; exact b1
  · rw [o 1 (by omega) (by omega) (by omega) (by omega)]; exact b2
  · rw [og i hi]; exact b3 i hi
  · rw [o 0 (by omega) (by omega) (by omega) (by omega), o 1 (by omega) (by omega) (by omega) (by omega)] at hcc
    rw [og i hi]; exact b4 i hi hcc
  · rw [o2]; exact g2
  · rw [o2] at hu
    have w0 := g6 u hu
    unfold Wk at w0 ⊢
    rw [o 0 (by omega) (by omega) (by omega) (by omega), o 1 (by omega) (by omega) (by omega) (by omega), ow u 0 (by omega) (by omega), ow u 1 (by omega) (by omega), ow u 2 (by omega) (by omega), ow u 3 (by omega) (by omega), ow u 4 (by omega) (by omega), ow u 5 (by omega) (by omega)]
    exact w0
  · rw [o 8 (by omega) (by omega) (by omega) (by omega), o2, g8]
    refine sm_congr _ (fun u hu => ?_)
    exact (ow u 6 (by omega) (by omega)).symm
def atR (ρ : Nat → Nat) (s x : Nat) : Nat → Nat := stR (stR (stR (stR ρ (337 + s) x) 3 (s + 1)) 5 0) 4 0
theorem at_0 {ρ : Nat → Nat} {s x : Nat} : atR ρ s x 3 = s + 1 ∧ atR ρ s x 4 = 0 ∧ atR ρ s x 5 = 0 ∧ (∀ t, atR ρ s x (337 + t) = if t = s then x else ρ (337 + t)) ∧ ∀ j, j < 337 → j ≠ 3 → j ≠ 4 → j ≠ 5 → atR ρ s x j = ρ j := by
  unfold atR
  refine ⟨?_, ?_, ?_, fun t => ?_, fun j h1 h2 h3 h4 => ?_⟩
  · rw [stR_n (by omega), stR_n (by omega), stR_s]
  · rw [stR_s]
  · rw [stR_n (by omega), stR_s]
  · rw [stR_n (by omega), stR_n (by omega), stR_n (by omega)]
    by_cases e : t = s
    · rw [if_pos e, e, stR_s]
    · rw [if_neg e, stR_n (by omega)]
  · rw [stR_n (by omega), stR_n (by omega), stR_n (by omega), stR_n (by omega)]
theorem e337 (c : Nat) : (337 : Int32) + nI c = nI (337 + c) := nI_add 337 c
def zwR (ρ : Nat → Nat) (w k : Nat) : Nat → Nat := fun j => if 265 + 9 * w ≤ j ∧ j < 265 + 9 * w + k then 0 else ρ j
theorem zw_0 {ρ : Nat → Nat} {w : Nat} : zwR ρ w 0 = ρ := by funext j; exact if_neg (by omega)
theorem zw_s {ρ : Nat → Nat} {w k : Nat} : stR (zwR ρ w k) (wI w k) 0 = zwR ρ w (k + 1) := by
  funext j
  unfold zwR
  by_cases e : j = wI w k
  · rw [e, stR_s, if_pos (by unfold wI; omega)]
  · rw [stR_n e]
    by_cases q : 265 + 9 * w ≤ j ∧ j < 265 + 9 * w + k
    · rw [if_pos q, if_pos (by omega)]
    · rw [if_neg q, if_neg (by unfold wI at e; omega)]
def awR (ρ : Nat → Nat) (r c d so cap : Nat) : Nat → Nat := stR (stR (stR (stR (stR (stR (zwR ρ (ρ 2) 9) (wI (ρ 2) 0) r) (wI (ρ 2) 1) c) (wI (ρ 2) 2) d) (wI (ρ 2) 5) so) (wI (ρ 2) 4) cap) 2 (ρ 2 + 1)
theorem aw_at {ρ : Nat → Nat} {r c d so cap j : Nat} (hw : ρ 2 < 8) : awR ρ r c d so cap j = if j = 2 then ρ 2 + 1 else if j = wI (ρ 2) 4 then cap else if j = wI (ρ 2) 5 then so else if j = wI (ρ 2) 2 then d else if j = wI (ρ 2) 1 then c else if j = wI (ρ 2) 0 then r else if 265 + 9 * ρ 2 ≤ j ∧ j < 265 + 9 * ρ 2 + 9 then 0 else ρ j := rfl
theorem aw_o {ρ : Nat → Nat} {r c d so cap j : Nat} (hw : ρ 2 < 8) (h2 : j ≠ 2) (h : j < 265 + 9 * ρ 2 ∨ 265 + 9 * ρ 2 + 9 ≤ j) : awR ρ r c d so cap j = ρ j := by
  rw [aw_at hw, if_neg h2, if_neg (by unfold wI; omega), if_neg (by unfold wI; omega), if_neg (by unfold wI; omega), if_neg (by unfold wI; omega), if_neg (by unfold wI; omega), if_neg (by omega)]
theorem aw_w {ρ : Nat → Nat} {r c d so cap f : Nat} (hw : ρ 2 < 8) (hf : f < 9) : awR ρ r c d so cap (wI (ρ 2) f) = if f = 4 then cap else if f = 5 then so else if f = 2 then d else if f = 1 then c else if f = 0 then r else 0 := by
  have k : ∀ g, (wI (ρ 2) f = wI (ρ 2) g) = (f = g) := by
    intro g
    apply propext
    unfold wI
    omega
  rw [aw_at hw, if_neg (by unfold wI; omega)]
  simp only [k]
  rw [if_pos (show 265 + 9 * ρ 2 ≤ wI (ρ 2) f ∧ wI (ρ 2) f < 265 + 9 * ρ 2 + 9 by unfold wI; omega)]
theorem Good.aw {ρ : Nat → Nat} {r c d so cap : Nat} (h : Good ρ) (hw : ρ 2 < 8) (hr : r < ρ 0) (hc : c < ρ 1) (hd : d ≤ 3) (hso : so ≤ 2) (h1 : 1 ≤ cap) (h9 : cap ≤ 9) : Good (awR ρ r c d so cap) := by
  obtain ⟨⟨b1, b2, b3, b4⟩, g2, g3, g4, g5, g6, g7, g8⟩ := h
  have o : ∀ j, j ≠ 2 → (j < 265 + 9 * ρ 2 ∨ 265 + 9 * ρ 2 + 9 ≤ j) → awR ρ r c d so cap j = ρ j := fun j h1 h2 => aw_o hw h1 h2
  have e2 : awR ρ r c d so cap 2 = ρ 2 + 1 := by rw [aw_at hw, if_pos rfl]
  have og : ∀ i, i < 256 → gR (awR ρ r c d so cap) i = gR ρ i := fun i hi => o _ (by omega) (by omega)
  refine ⟨⟨?_, ?_, fun i hi => ?_, fun i hi hcc => ?_⟩, ?_, ?_, ?_, ?_, fun u hu => ?_, fun t ht => ?_, ?_⟩
  · rw [o 0 (by omega) (by omega)]; exact b1
  · rw [o 1 (by omega) (by omega)]; exact b2
  · rw [og i hi]; exact b3 i hi
  · rw [o 0 (by omega) (by omega), o 1 (by omega) (by omega)] at hcc
    rw [og i hi]; exact b4 i hi hcc
  · rw [e2]; omega
  · rw [o 3 (by omega) (by omega)]; exact g3
  · rw [o 3 (by omega) (by omega), o 4 (by omega) (by omega)]; exact g4
  · rw [o 5 (by omega) (by omega)]; exact g5
  · rw [e2] at hu
    unfold Wk
    rw [o 0 (by omega) (by omega), o 1 (by omega) (by omega)]
    by_cases e : u = ρ 2
    · rw [e, aw_w hw (by omega), aw_w hw (by omega), aw_w hw (by omega), aw_w hw (by omega), aw_w hw (by omega), aw_w hw (by omega)]
      simp
      omega
    · have q : ∀ f, f < 9 → awR ρ r c d so cap (wI u f) = ρ (wI u f) := fun f hf => o _ (by unfold wI; omega) (by unfold wI; omega)
      have w0 := g6 u (by omega)
      unfold Wk at w0
      rw [q 0 (by omega), q 1 (by omega), q 2 (by omega), q 3 (by omega), q 4 (by omega), q 5 (by omega)]
      exact w0
  · rw [o 3 (by omega) (by omega)] at ht
    rw [o _ (by omega) (by omega)]
    exact g7 t ht
  · rw [o 8 (by omega) (by omega), e2, g8]
    show _ = sm (fun w => awR ρ r c d so cap (wI w 6)) (ρ 2) + awR ρ r c d so cap (wI (ρ 2) 6)
    rw [aw_w hw (by omega)]
    simp
    refine sm_congr _ (fun u hu => ?_)
    rw [o _ (by unfold wI; omega) (by unfold wI; omega)]
theorem CR.aw {I I' : II} {ρ : Nat → Nat} {r c d so cap : Nat} (h : CR I ρ) (hG : Good ρ) (hw : ρ 2 < 8) (h2 : I' 2 4 = nI (ρ 2 + 1)) (h3 : ∀ j, j ≠ 4 → I' 2 j = I 2 j) (hf : ∀ a, a ≠ 2 → a ≠ 7 + ρ 2 → I' a = I a) (hn : ∀ f, f < 9 → I' (7 + ρ 2) f = nI (awR ρ r c d so cap (wI (ρ 2) f))) : CR I' (awR ρ r c d so cap) := by
  obtain ⟨⟨⟨p0, p1, p4, p6, p7⟩, q2, q3, q4, q5⟩, hH⟩ := h
  have g3 := hG.2.2.1
  have o : ∀ j, j ≠ 2 → (j < 265 + 9 * ρ 2 ∨ 265 + 9 * ρ 2 + 9 ≤ j) → awR ρ r c d so cap j = ρ j := fun j h1 h2 => aw_o hw h1 h2
  have e2 : awR ρ r c d so cap 2 = ρ 2 + 1 := by rw [aw_at hw, if_pos rfl]
  have og : ∀ i, i < 256 → gR (awR ρ r c d so cap) i = gR ρ i := fun i hi => o _ (by omega) (by omega)
  refine ⟨⟨⟨?_, ?_, ?_, ?_, ?_⟩, fun i hi => ?_, ?_, fun t ht => ?_, fun u e hu he => ?_⟩, ?_⟩
  · rw [h3 0 (by omega), o 0 (by omega) (by omega)]; exact p0
  · rw [h3 1 (by omega), o 1 (by omega) (by omega)]; exact p1
  · rw [e2]; exact h2
  · rw [h3 6 (by omega), o 6 (by omega) (by omega)]; exact p6
  · rw [h3 7 (by omega), o 7 (by omega) (by omega)]; exact p7
  · rw [hf _ (by omega) (by omega), og i hi]; exact q2 i hi
  · rw [hf _ (by omega) (by omega), o 3 (by omega) (by omega), o 4 (by omega) (by omega), o 5 (by omega) (by omega)]; exact q3
  · rw [o 3 (by omega) (by omega)] at ht
    rw [hf _ (by omega) (by omega), o _ (by omega) (by omega)]; exact q4 t ht
  · rw [e2] at hu
    show I' (7 + u) e = _
    by_cases q : u = ρ 2
    · rw [q]; exact hn e he
    · rw [hf _ (by omega) (by omega), o _ (by unfold wI; omega) (by unfold wI; omega)]
      exact q5 u e (by omega) he
  · exact HC_congr (hH.fm (fun a _ _ => hf a (by omega) (by omega))) og
def rsK (ρ : Nat → Nat) (r c k : Nat) : Nat → Nat := fun j => if 9 ≤ j ∧ j < 9 + k then 0 else stR (stR (stR (stR (stR (stR ρ 0 r) 1 c) 2 0) 6 0) 7 0) 8 0 j
theorem rsK_s {ρ : Nat → Nat} {r c k : Nat} : stR (rsK ρ r c k) (9 + k) 0 = rsK ρ r c (k + 1) := by
  funext j
  unfold rsK
  by_cases e : j = 9 + k
  · rw [e, stR_s, if_pos (by omega)]
  · rw [stR_n e]
    by_cases q : 9 ≤ j ∧ j < 9 + k
    · rw [if_pos q, if_pos (by omega)]
    · rw [if_neg q, if_neg (by omega)]
theorem rsK_at {ρ : Nat → Nat} {r c j : Nat} : rsK ρ r c 256 j = if 9 ≤ j ∧ j < 9 + 256 then 0 else if j = 8 then 0 else if j = 7 then 0 else if j = 6 then 0 else if j = 2 then 0 else if j = 1 then c else if j = 0 then r else ρ j := rfl
theorem rs_o {ρ : Nat → Nat} {r c j : Nat} (h : (3 ≤ j ∧ j < 6) ∨ 265 ≤ j) : rsK ρ r c 256 j = ρ j := by
  rw [rsK_at, if_neg (by omega), if_neg (by omega), if_neg (by omega), if_neg (by omega), if_neg (by omega), if_neg (by omega), if_neg (by omega)]
theorem rs_v {ρ : Nat → Nat} {r c : Nat} : rsK ρ r c 256 0 = r ∧ rsK ρ r c 256 1 = c ∧ rsK ρ r c 256 2 = 0 ∧ rsK ρ r c 256 6 = 0 ∧ rsK ρ r c 256 7 = 0 ∧ rsK ρ r c 256 8 = 0 ∧ ∀ i, i < 256 → gR (rsK ρ r c 256) i = 0 := by
  refine ⟨rfl, rfl, rfl, rfl, rfl, rfl, fun i hi => ?_⟩
  show rsK ρ r c 256 (9 + i) = 0
  rw [rsK_at, if_pos (by omega)]
theorem Good.rs {ρ : Nat → Nat} {r c : Nat} (h : Good ρ) (h1 : 2 ≤ r) (h2 : r ≤ 16) (h3 : 2 ≤ c) (h4 : c ≤ 16) : Good (rsK ρ r c 256) := by
  obtain ⟨⟨b1, b2, b3, b4⟩, g2, g3, g4, g5, g6, g7, g8⟩ := h
  obtain ⟨v0, v1, v2, v6, v7, v8, vg⟩ := rs_v (ρ := ρ) (r := r) (c := c)
  refine ⟨⟨by rw [v0]; omega, by rw [v1]; omega, fun i hi => by rw [vg i hi]; omega, fun i hi _ => vg i hi⟩, by rw [v2]; omega, ?_, ?_, ?_, fun u hu => by rw [v2] at hu; omega, fun t ht => ?_, by rw [v8, v2]; rfl⟩
  · rw [rs_o (j := 3) (by omega)]; exact g3
  · rw [rs_o (j := 3) (by omega), rs_o (j := 4) (by omega)]; exact g4
  · rw [rs_o (j := 5) (by omega)]; exact g5
  · rw [rs_o (j := 3) (by omega)] at ht
    rw [rs_o (by omega)]; exact g7 t ht
theorem load_C {I : II} {b : Nat} {ρ : Nat → Nat} (hb : 15 ≤ b) (h : CS I b ρ) (hG : Good ρ) : ∃ I', fX7_load I b = some I' ∧ CR I' ρ ∧ FC I I' := by
  obtain ⟨K, c1, c2, c3⟩ := copy_G (I := I) (a := 2) (b := b) (by omega) h hG
  unfold fX7_load fX0_forget
  rw [c1, bd1, bd1, bd1]
  exact ⟨_, rfl, ⟨c2.fm hG.2.1 (fun a _ _ => up2_n (by omega)), Or.inr up2_a⟩, fun a ha => by rw [up2_n (by omega), c3 a (by omega)]⟩
theorem sumC {I : II} {b : Nat} {g : Nat → Nat} (h : ∀ c, c < 256 → I (b + 1) c = nI (g c)) : fX4_allChips I b = some (nI (sm g 256)) := by
  have lp : ∀ (n x : Nat) (fu : Nat), x + n = 256 → n < fu → fX4_allChips_L4 fu (fun z3 => some z3) b I (nI (sm g x)) (nI x) = some (nI (sm g 256)) := by
    intro n
    induction n with
    | zero =>
      intro x fu hx hf
      obtain ⟨fu, rfl⟩ : ∃ m, fu = m + 1 := ⟨fu - 1, by omega⟩
      show (if (256 : Int32) ≤ nI x then some (nI (sm g x)) else _) = _
      rw [ifp (show (256 : Int32) ≤ nI x from yle (a := 256) (by omega) (by omega) (by omega)), show x = 256 by omega]
    | succ n ih =>
      intro x fu hx hf
      obtain ⟨fu, rfl⟩ : ∃ m, fu = m + 1 := ⟨fu - 1, by omega⟩
      show (if (256 : Int32) ≤ nI x then some (nI (sm g x)) else ck (ix (nI x) 256) (fX4_allChips_L4 fu (fun z3 => some z3) b I (nI (sm g x) + (I (b + 1) (nI x).toNatClampNeg)) (nI x + 1))) = _
      rw [ifn (show ¬ (256 : Int32) ≤ nI x from nle (a := 256) (by omega) (by omega) (by omega)), ckN (show x < 256 by omega) (by omega), tnN (show x < 2 ^ 31 by omega), h x (by omega), nI_add, nI_1]
      exact ih (x + 1) fu (by omega) (by omega)
  exact lp 256 0 2000 (by omega) (by omega)
def onR (ρ : Nat → Nat) (a b m r c : Nat) : (Nat → Nat) × Nat := if (r * a + c * b) % m = 0 ∧ gR ρ (16 * r + c) < 99 then (stR ρ (9 + (16 * r + c)) (gR ρ (16 * r + c) + 1), 1) else (ρ, 0)
def rwR (ρ : Nat → Nat) (a b m r : Nat) : Nat → (Nat → Nat) × Nat
  | 0 => (ρ, 0)
  | c + 1 => ((onR (rwR ρ a b m r c).1 a b m r c).1, (rwR ρ a b m r c).2 + (onR (rwR ρ a b m r c).1 a b m r c).2)
def alR (ρ : Nat → Nat) (a b m : Nat) : Nat → (Nat → Nat) × Nat
  | 0 => (ρ, 0)
  | r + 1 => ((rwR (alR ρ a b m r).1 a b m r (ρ 1)).1, (alR ρ a b m r).2 + (rwR (alR ρ a b m r).1 a b m r (ρ 1)).2)
def cnR (ρ : Nat → Nat) (a b m r : Nat) : Nat → Nat
  | 0 => 0
  | c + 1 => cnR ρ a b m r c + (if (r * a + c * b) % m = 0 ∧ gR ρ (16 * r + c) < 99 then 1 else 0)
def caR (ρ : Nat → Nat) (a b m : Nat) : Nat → Nat
  | 0 => 0
  | r + 1 => caR ρ a b m r + cnR ρ a b m r (ρ 1)
theorem on_g {ρ : Nat → Nat} {a b m r c : Nat} (h : Good ρ) (hr : r < ρ 0) (hc : c < ρ 1) : Good (onR ρ a b m r c).1 ∧ (∀ j, j ≠ 9 + (16 * r + c) → (onR ρ a b m r c).1 j = ρ j) ∧ ((onR ρ a b m r c).2 = 0 → (onR ρ a b m r c).1 = ρ) ∧ (onR ρ a b m r c).2 = if (r * a + c * b) % m = 0 ∧ gR ρ (16 * r + c) < 99 then 1 else 0 := by
  have b1 := h.1.1.2
  have b2 := h.1.2.1.2
  unfold onR
  by_cases q : (r * a + c * b) % m = 0 ∧ gR ρ (16 * r + c) < 99
  · rw [if_pos q, if_pos q]
    exact ⟨h.ch (c := 16 * r + c) (by omega) (by omega) (by omega) (by omega), fun j hj => stR_n hj, fun z => absurd z (show ¬ (1 : Nat) = 0 by decide), rfl⟩
  · rw [if_neg q, if_neg q]
    exact ⟨h, fun _ _ => rfl, fun _ => rfl, rfl⟩
theorem rw_g {ρ : Nat → Nat} {a b m r : Nat} (h : Good ρ) (hr : r < ρ 0) : ∀ c, c ≤ ρ 1 → Good (rwR ρ a b m r c).1 ∧ (∀ j, j < 9 → (rwR ρ a b m r c).1 j = ρ j) ∧ (∀ j, (j < 9 + 16 * r ∨ 9 + (16 * r + c) ≤ j) → (rwR ρ a b m r c).1 j = ρ j) ∧ ((rwR ρ a b m r c).2 = 0 → (rwR ρ a b m r c).1 = ρ) ∧ (rwR ρ a b m r c).2 = cnR ρ a b m r c ∧ cnR ρ a b m r c ≤ c
  | 0, _ => ⟨h, fun _ _ => rfl, fun _ _ => rfl, fun _ => rfl, rfl, Nat.le_refl _⟩
  | c + 1, hc => by
    obtain ⟨h1, h2, h3, h4, h5, h6⟩ := rw_g (a := a) (b := b) (m := m) h hr c (by omega)
    obtain ⟨o1, o2, o3, o4⟩ := on_g (a := a) (b := b) (m := m) (r := r) (c := c) h1 (by rw [h2 0 (by omega)]; exact hr) (by rw [h2 1 (by omega)]; omega)
    have hgg : gR (rwR ρ a b m r c).1 (16 * r + c) = gR ρ (16 * r + c) := h3 _ (by omega)
    rw [hgg] at o4
    refine ⟨o1, fun j hj => ?_, fun j hj => ?_, fun hz => ?_, ?_, ?_⟩
    · show (onR (rwR ρ a b m r c).1 a b m r c).1 j = ρ j
      rw [o2 j (by omega), h2 j hj]
    · show (onR (rwR ρ a b m r c).1 a b m r c).1 j = ρ j
      rw [o2 j (by omega), h3 j (by omega)]
    · have hz' : (rwR ρ a b m r c).2 + (onR (rwR ρ a b m r c).1 a b m r c).2 = 0 := hz
      show (onR (rwR ρ a b m r c).1 a b m r c).1 = ρ
      rw [o3 (by omega), h4 (by omega)]
    · show (rwR ρ a b m r c).2 + (onR (rwR ρ a b m r c).1 a b m r c).2 = cnR ρ a b m r c + _
      rw [o4, h5]
    · show cnR ρ a b m r c + _ ≤ c + 1
      split <;> omega
theorem cn_congr {ρ σ : Nat → Nat} {a b m r : Nat} : ∀ c, (∀ k, k < c → gR ρ (16 * r + k) = gR σ (16 * r + k)) → cnR ρ a b m r c = cnR σ a b m r c
  | 0, _ => rfl
  | c + 1, h => by
    show cnR ρ a b m r c + _ = cnR σ a b m r c + _
    rw [cn_congr c (fun k hk => h k (by omega)), h c (by omega)]
theorem al_g {ρ : Nat → Nat} {a b m : Nat} (h : Good ρ) : ∀ r, r ≤ ρ 0 → Good (alR ρ a b m r).1 ∧ (∀ j, j < 9 → (alR ρ a b m r).1 j = ρ j) ∧ (∀ j, 9 + 16 * r ≤ j → (alR ρ a b m r).1 j = ρ j) ∧ ((alR ρ a b m r).2 = 0 → (alR ρ a b m r).1 = ρ) ∧ (alR ρ a b m r).2 = caR ρ a b m r ∧ caR ρ a b m r ≤ 16 * r
  | 0, _ => ⟨h, fun _ _ => rfl, fun _ _ => rfl, fun _ => rfl, rfl, by show 0 ≤ _; omega⟩
  | r + 1, hr => by
    obtain ⟨h1, h2, h3, h4, h5, h6⟩ := al_g (a := a) (b := b) (m := m) h r (by omega)
    have b2 := h.1.2.1.2
    obtain ⟨o1, o2, o3, o4, o5, o6⟩ := rw_g (a := a) (b := b) (m := m) (r := r) h1 (by rw [h2 0 (by omega)]; omega) (ρ 1) (by rw [h2 1 (by omega)]; omega)
    have hcn : cnR (alR ρ a b m r).1 a b m r (ρ 1) = cnR ρ a b m r (ρ 1) := cn_congr _ (fun k hk => h3 _ (by omega))
    rw [hcn] at o5 o6
    refine ⟨o1, fun j hj => ?_, fun j hj => ?_, fun hz => ?_, ?_, ?_⟩
    · show (rwR (alR ρ a b m r).1 a b m r (ρ 1)).1 j = ρ j
      rw [o2 j hj, h2 j hj]
    · show (rwR (alR ρ a b m r).1 a b m r (ρ 1)).1 j = ρ j
      rw [o3 j (by omega), h3 j (by omega)]
    · have hz' : (alR ρ a b m r).2 + (rwR (alR ρ a b m r).1 a b m r (ρ 1)).2 = 0 := hz
      show (rwR (alR ρ a b m r).1 a b m r (ρ 1)).1 = ρ
      rw [o4 (by omega), h4 (by omega)]
    · show (alR ρ a b m r).2 + (rwR (alR ρ a b m r).1 a b m r (ρ 1)).2 = caR ρ a b m r + cnR ρ a b m r (ρ 1)
      rw [o5, h5]
    · show caR ρ a b m r + cnR ρ a b m r (ρ 1) ≤ _
      omega
theorem cellAt_on {I : II} {ρ : Nat → Nat} (h : CS I 2 ρ) (hB : Bd ρ) {r c : Nat} (hr : r < ρ 0) (hc : c < ρ 1) : fX4_cellAt I 2 (nI r) (nI c) = some (nI (16 * r + c)) := by
  have b1 := hB.1.2
  have b2 := hB.2.1.2
  unfold fX4_cellAt
  rw [(hasCell_C h hB _ _).1 ((okC_nn (by omega) (by omega)).mpr ⟨hr, hc⟩), bd1, jf1, show (16 : Int32) = nI 16 from rfl, pk_mul, nI_add, Nat.mul_comm]
theorem mulrm {a b m r c : Nat} (ha : a ≤ 9) (hb : b ≤ 9) (h1 : 1 ≤ m) (hm : m ≤ 20) (hr : r < 16) (hc : c < 16) : (rm (nI r * nI a + nI c * nI b) (nI m) = (0 : Int32)) ↔ (r * a + c * b) % m = 0 := by
  have e1 : r * a ≤ 16 * 9 := Nat.mul_le_mul (by omega) ha
  have e2 : c * b ≤ 16 * 9 := Nat.mul_le_mul (by omega) hb
  have e3 := Nat.mod_lt (r * a + c * b) (show 0 < m by omega)
  rw [pk_mul, pk_mul, nI_add, rmN (by omega) (by omega) (by omega)]
  exact eqN (b := 0) (by omega) (by omega)
theorem strew_C0 {I : II} {ρ : Nat → Nat} (h : CS I 2 ρ) (hG : Good ρ) {a b m : Nat} (ha : a ≤ 9) (hb : b ≤ 9) (h1 : 1 ≤ m) (hm : m ≤ 20) : fX7_strewOver I (nI a) (nI b) (nI m) 0 = some (nI (caR ρ a b m (ρ 0)), I) := by
  have b1 := hG.1.1.2
  have b2 := hG.1.2.1.2
  have inner : ∀ (ct : Int32 → II → Option (Int32 × II)) (N r : Nat), r < ρ 0 → ∀ (n c fu : Nat), c + n = ρ 1 → n < fu → fX7_strewOver_L21 fu ct (nI a) (nI b) (nI m) 0 (nI r) (nI (N + cnR ρ a b m r c)) (nI c) I = ct (nI (N + cnR ρ a b m r (ρ 1))) I := by
    intro ct N r hr n
    induction n with
    | zero =>
      intro c fu hx hf
      obtain ⟨fu, rfl⟩ : ∃ m, fu = m + 1 := ⟨fu - 1, by omega⟩
      show (if (I 2 1) ≤ nI c then ct (nI (N + cnR ρ a b m r c)) I else _) = _
      rw [h.1.2.1, ifp (yle (by omega) (by omega) (by omega)), show c = ρ 1 by omega]
    | succ n ih =>
      intro c fu hx hf
      obtain ⟨fu, rfl⟩ : ∃ m, fu = m + 1 := ⟨fu - 1, by omega⟩
      have hgc := hG.1.2.2.1 (16 * r + c) (by omega)
      have hmr := mulrm (a := a) (b := b) (m := m) (r := r) (c := c) ha hb h1 hm (by omega) (by omega)
      show (if (I 2 1) ≤ nI c then ct (nI (N + cnR ρ a b m r c)) I else (fX4_cellAt I 2 (nI r) (nI c)).bind fun v3 => (fX4_chipsOf I 2 v3).bind fun v4 => (if nI m ≤ 0 then fX7_strewOver_L21 fu ct (nI a) (nI b) (nI m) 0 (nI r) (nI (N + cnR ρ a b m r c)) (nI c + 1) I else ck (nz (nI m)) ((if ¬ (rm ((nI r * nI a) + (nI c * nI b)) (nI m)) = 0 then fX7_strewOver_L21 fu ct (nI a) (nI b) (nI m) 0 (nI r) (nI (N + cnR ρ a b m r c)) (nI c + 1) I else (if 99 ≤ v4 then fX7_strewOver_L21 fu ct (nI a) (nI b) (nI m) 0 (nI r) (nI (N + cnR ρ a b m r c)) (nI c + 1) I else (if (0 : Int32) = 0 then fX7_strewOver_L21 fu ct (nI a) (nI b) (nI m) 0 (nI r) (nI (N + cnR ρ a b m r c) + 1) (nI c + 1) I else (fX7_setChips I v3 (v4 + 1)).bind fun v10 => fX7_strewOver_L21 fu ct (nI a) (nI b) (nI m) 0 (nI r) (nI (N + cnR ρ a b m r c) + 1) (nI c + 1) v10)))))) = _
      rw [h.1.2.1, ifn (nle (by omega) (by omega) (by omega)), cellAt_on h hG.1 hr (by omega), bd1, chipsOf_C (by omega), bd1, show I (2 + 1) (16 * r + c) = _ from h.2.1 _ (by omega), ifn (show ¬ nI m ≤ (0 : Int32) from nle (b := 0) (by omega) (by omega) (by omega)), ck_t (show nz (nI m) = true from decide_eq_true (nI_ne0 (by omega) (by omega))), jf0, nI_1, nI_1]
      by_cases q1 : (r * a + c * b) % m = 0
      · rw [ifn (fun z => z (hmr.mpr q1))]
        by_cases q2 : gR ρ (16 * r + c) < 99
        · rw [ifn (show ¬ (99 : Int32) ≤ nI (gR ρ (16 * r + c)) from nle (a := 99) (by omega) (by omega) (by omega))]
          have e : N + cnR ρ a b m r c + 1 = N + cnR ρ a b m r (c + 1) := by
            show _ = N + (cnR ρ a b m r c + _)
            rw [if_pos ⟨q1, q2⟩]; omega
          rw [e]
          exact ih (c + 1) fu (by omega) (by omega)
        · rw [ifp (show (99 : Int32) ≤ nI (gR ρ (16 * r + c)) from yle (a := 99) (by omega) (by omega) (by omega))]
          have e : N + cnR ρ a b m r c = N + cnR ρ a b m r (c + 1) := by
            show _ = N + (cnR ρ a b m r c + _)
            rw [if_neg (fun z => q2 z.2)]; rfl
          rw [e]
          exact ih (c + 1) fu (by omega) (by omega)
      · rw [ifp (fun z => q1 (hmr.mp z))]
        have e : N + cnR ρ a b m r c = N + cnR ρ a b m r (c + 1) := by
          show _ = N + (cnR ρ a b m r c + _)
          rw [if_neg (fun z => q1 z.1)]; rfl
        rw [e]
        exact ih (c + 1) fu (by omega) (by omega)
  have outer : ∀ (n r fu : Nat), r + n = ρ 0 → n < fu → fX7_strewOver_L6 fu (fun z13 I14 => some (z13, I14)) (nI a) (nI b) (nI m) 0 (nI (caR ρ a b m r)) (nI r) I = some (nI (caR ρ a b m (ρ 0)), I) := by
    intro n
    induction n with
    | zero =>
      intro r fu hx hf
      obtain ⟨fu, rfl⟩ : ∃ m, fu = m + 1 := ⟨fu - 1, by omega⟩
      show (if (I 2 0) ≤ nI r then some (nI (caR ρ a b m r), I) else _) = _
      rw [h.1.1, ifp (yle (by omega) (by omega) (by omega)), show r = ρ 0 by omega]
    | succ n ih =>
      intro r fu hx hf
      obtain ⟨fu, rfl⟩ : ∃ m, fu = m + 1 := ⟨fu - 1, by omega⟩
      show (if (I 2 0) ≤ nI r then some (nI (caR ρ a b m r), I) else fX7_strewOver_L21 2000 (fun z11 I12 => fX7_strewOver_L6 fu (fun z13 I14 => some (z13, I14)) (nI a) (nI b) (nI m) 0 z11 (nI r + 1) I12) (nI a) (nI b) (nI m) 0 (nI r) (nI (caR ρ a b m r)) 0 I) = _
      rw [h.1.1, ifn (nle (by omega) (by omega) (by omega)), nI_1]
      rw [show fX7_strewOver_L21 2000 (fun z11 I12 => fX7_strewOver_L6 fu (fun z13 I14 => some (z13, I14)) (nI a) (nI b) (nI m) 0 z11 (nI (r + 1)) I12) (nI a) (nI b) (nI m) 0 (nI r) (nI (caR ρ a b m r)) 0 I = _ from inner (fun z11 I12 => fX7_strewOver_L6 fu (fun z13 I14 => some (z13, I14)) (nI a) (nI b) (nI m) 0 z11 (nI (r + 1)) I12) (caR ρ a b m r) r (by omega) (ρ 1) 0 2000 (by omega) (by omega)]
      exact ih (r + 1) fu (by omega) (by omega)
  exact outer (ρ 0) 0 2000 (by omega) (by omega)
theorem strew_C1 {I : II} {ρ : Nat → Nat} (h : CR I ρ) (hG : Good ρ) {a b m : Nat} (ha : a ≤ 9) (hb : b ≤ 9) (h1 : 1 ≤ m) (hm : m ≤ 20) : ∃ I' v, fX7_strewOver I (nI a) (nI b) (nI m) 1 = some (v, I') ∧ CR I' (alR ρ a b m (ρ 0)).1 ∧ FC I I' := by
  have b1 := hG.1.1.2
  have b2 := hG.1.2.1.2
  have inner : ∀ (ct : Int32 → II → Option (Int32 × II)) (σ : Nat → Nat) (r : Nat) (I0 : II) (Q : Option (Int32 × II) → Prop), Good σ → r < σ 0 → (∀ K N, CR K (rwR σ a b m r (σ 1)).1 → FC I0 K → Q (ct (nI N) K)) → ∀ (n c N fu : Nat) (K : II), c + n = σ 1 → n < fu → CR K (rwR σ a b m r c).1 → FC I0 K → Q (fX7_strewOver_L21 fu ct (nI a) (nI b) (nI m) 1 (nI r) (nI N) (nI c) K) := by
    intro ct σ r I0 Q hS hr hct n
    have s1 := hS.1.1.2
    have s2 := hS.1.2.1.2
    induction n with
    | zero =>
      intro c N fu K hx hf hK hF
      obtain ⟨fu, rfl⟩ : ∃ m, fu = m + 1 := ⟨fu - 1, by omega⟩
      obtain ⟨g1, g2, g3, -⟩ := rw_g (a := a) (b := b) (m := m) (r := r) hS hr c (by omega)
      show Q (if (K 2 1) ≤ nI c then ct (nI N) K else _)
      rw [hK.1.1.2.1, g2 1 (by omega), ifp (yle (by omega) (by omega) (by omega))]
      rw [show c = σ 1 by omega] at hK
      exact hct K N hK hF
    | succ n ih =>
      intro c N fu K hx hf hK hF
      obtain ⟨fu, rfl⟩ : ∃ m, fu = m + 1 := ⟨fu - 1, by omega⟩
      obtain ⟨g1, g2, g3, -⟩ := rw_g (a := a) (b := b) (m := m) (r := r) hS hr c (by omega)
      have hnext : (rwR σ a b m r (c + 1)).1 = (onR (rwR σ a b m r c).1 a b m r c).1 := rfl
      unfold onR at hnext
      generalize hτ : (rwR σ a b m r c).1 = τ at *
      have t0 := g2 0 (by omega)
      have t1 := g2 1 (by omega)
      have hgc := g1.1.2.2.1 (16 * r + c) (by omega)
      have hmr := mulrm (a := a) (b := b) (m := m) (r := r) (c := c) ha hb h1 hm (by omega) (by omega)
      show Q (if (K 2 1) ≤ nI c then ct (nI N) K else (fX4_cellAt K 2 (nI r) (nI c)).bind fun v3 => (fX4_chipsOf K 2 v3).bind fun v4 => (if nI m ≤ 0 then fX7_strewOver_L21 fu ct (nI a) (nI b) (nI m) 1 (nI r) (nI N) (nI c + 1) K else ck (nz (nI m)) ((if ¬ (rm ((nI r * nI a) + (nI c * nI b)) (nI m)) = 0 then fX7_strewOver_L21 fu ct (nI a) (nI b) (nI m) 1 (nI r) (nI N) (nI c + 1) K else (if 99 ≤ v4 then fX7_strewOver_L21 fu ct (nI a) (nI b) (nI m) 1 (nI r) (nI N) (nI c + 1) K else (if (1 : Int32) = 0 then fX7_strewOver_L21 fu ct (nI a) (nI b) (nI m) 1 (nI r) (nI N + 1) (nI c + 1) K else (fX7_setChips K v3 (v4 + 1)).bind fun v10 => fX7_strewOver_L21 fu ct (nI a) (nI b) (nI m) 1 (nI r) (nI N + 1) (nI c + 1) v10))))))
      rw [hK.1.1.2.1, t1, ifn (nle (by omega) (by omega) (by omega)), cellAt_on hK.1 g1.1 (by omega) (by omega), bd1, chipsOf_C (by omega), bd1, show K (2 + 1) (16 * r + c) = _ from hK.1.2.1 _ (by omega), ifn (show ¬ nI m ≤ (0 : Int32) from nle (b := 0) (by omega) (by omega) (by omega)), ck_t (show nz (nI m) = true from decide_eq_true (nI_ne0 (by omega) (by omega))), jf1, nI_1, nI_1, nI_1]
      by_cases q1 : (r * a + c * b) % m = 0
      · rw [ifn (fun z => z (hmr.mpr q1))]
        by_cases q2 : gR τ (16 * r + c) < 99
        · rw [ifn (show ¬ (99 : Int32) ≤ nI (gR τ (16 * r + c)) from nle (a := 99) (by omega) (by omega) (by omega))]
          rw [if_pos ⟨q1, q2⟩] at hnext
          obtain ⟨L, l1, l2, l3, l4⟩ := setChips_C hK g1 (c := 16 * r + c) (v := gR τ (16 * r + c) + 1) (by omega) (by omega)
          rw [l1, bd1]
          exact ih (c + 1) (N + 1) fu L (by omega) (by omega) (by rw [hnext]; exact l2) (hF.tr (fun a ha => l3 a (by omega) (by omega)))
        · rw [ifp (show (99 : Int32) ≤ nI (gR τ (16 * r + c)) from yle (a := 99) (by omega) (by omega) (by omega))]
          rw [if_neg (fun z => q2 z.2)] at hnext
          exact ih (c + 1) N fu K (by omega) (by omega) (by rw [hnext]; exact hK) hF
      · rw [ifp (fun z => q1 (hmr.mp z))]
        rw [if_neg (fun z => q1 z.1)] at hnext
        exact ih (c + 1) N fu K (by omega) (by omega) (by rw [hnext]; exact hK) hF
  have outer : ∀ (n r N fu : Nat) (K : II), r + n = ρ 0 → n < fu → CR K (alR ρ a b m r).1 → FC I K → ∃ I' v, fX7_strewOver_L6 fu (fun z13 I14 => some (z13, I14)) (nI a) (nI b) (nI m) 1 (nI N) (nI r) K = some (v, I') ∧ CR I' (alR ρ a b m (ρ 0)).1 ∧ FC I I' := by
    intro n
    induction n with
    | zero =>
      intro r N fu K hx hf hK hF
      obtain ⟨fu, rfl⟩ : ∃ m, fu = m + 1 := ⟨fu - 1, by omega⟩
      obtain ⟨g1, g2, -⟩ := al_g (a := a) (b := b) (m := m) hG r (by omega)
      refine ⟨K, nI N, ?_, ?_, hF⟩
      · show (if (K 2 0) ≤ nI r then some (nI N, K) else _) = _
        rw [hK.1.1.1, g2 0 (by omega), ifp (yle (by omega) (by omega) (by omega))]
      · rw [show r = ρ 0 by omega] at hK
        exact hK
    | succ n ih =>
      intro r N fu K hx hf hK hF
      obtain ⟨fu, rfl⟩ : ∃ m, fu = m + 1 := ⟨fu - 1, by omega⟩
      obtain ⟨g1, g2, -⟩ := al_g (a := a) (b := b) (m := m) hG r (by omega)
      show ∃ I' v, (if (K 2 0) ≤ nI r then some (nI N, K) else fX7_strewOver_L21 2000 (fun z11 I12 => fX7_strewOver_L6 fu (fun z13 I14 => some (z13, I14)) (nI a) (nI b) (nI m) 1 z11 (nI r + 1) I12) (nI a) (nI b) (nI m) 1 (nI r) (nI N) 0 K) = some (v, I') ∧ _
      rw [hK.1.1.1, g2 0 (by omega), ifn (nle (by omega) (by omega) (by omega)), nI_1]
      refine inner (fun z11 I12 => fX7_strewOver_L6 fu (fun z13 I14 => some (z13, I14)) (nI a) (nI b) (nI m) 1 z11 (nI (r + 1)) I12) (alR ρ a b m r).1 r K (fun o => ∃ I' v, o = some (v, I') ∧ CR I' (alR ρ a b m (ρ 0)).1 ∧ FC I I') g1 (by rw [g2 0 (by omega)]; omega) (fun L M hL hFL => ?_) (ρ 1) 0 N 2000 K (by rw [g2 1 (by omega)]; omega) (by omega) hK FC.rf
      rw [g2 1 (by omega)] at hL
      exact ih (r + 1) M fu L (by omega) (by omega) hL (hF.tr hFL)
  exact outer (ρ 0) 0 0 2000 I (by omega) (by omega) h FC.rf
theorem conn_lab {g : Nat → Nat} {h i : Nat} (hh : h < mF g) (hi : i < 256) : (0 < g i ∧ labF g i = h) ↔ Conn g (rtAt g h) i := by
  obtain ⟨x, -, hx, rfl⟩ := rk_ex 256 hh
  rw [rtAt_eq hx]
  constructor
  · rintro ⟨h1, h2⟩
    have r := rtOf_sp hi h1
    have := rk_inj r.1 hx h2
    rw [← this]
    exact r.2
  · intro hc
    have := (Conn.sym hx.1.1 hx.1.2 hc).1
    refine ⟨this.2, ?_⟩
    unfold labF
    rw [rtOf_eq hx hc]
theorem mxN {a b : Nat} (ha : a < 2 ^ 31) (hb : b < 2 ^ 31) : mx (nI a) (nI b) = nI (Nat.max a b) := by
  unfold mx
  by_cases h : a < b
  · rw [if_pos ((nI_ltI ha hb).mpr h), show Nat.max a b = b from Nat.max_eq_right (by omega)]
  · rw [if_neg (fun z => h ((nI_ltI ha hb).mp z)), show Nat.max a b = a from Nat.max_eq_left (by omega)]
theorem most_C {g : Nat → Nat} {I : II} (hb : ∀ c, c < 256 → g c ≤ 99) (hg : ∀ c, c < 256 → I 3 c = nI (g c)) (hC : CH I g) {h : Nat} (hh : h < mF g) : fX0_mostChips I 3 (nI h) = some (nI (moF g h)) := by
  have hm := mF_le g
  have bnd : ∀ n, n ≤ 256 → mxe g (Conn g (rtAt g h)) n ≤ 99 := fun n hn => (mxe_le n).mpr (fun i hi _ => hb i (by omega))
  have lp : ∀ (n x : Nat) (fu : Nat), x + n = 256 → n < fu → fX0_mostChips_L5 fu (fun z6 => some z6) 3 (nI h) I (nI (mxe g (Conn g (rtAt g h)) x)) (nI x) = some (nI (moF g h)) := by
    intro n
    induction n with
    | zero =>
      intro x fu hx hf
      obtain ⟨fu, rfl⟩ : ∃ m, fu = m + 1 := ⟨fu - 1, by omega⟩
      show (if (256 : Int32) ≤ nI x then some (nI (mxe g (Conn g (rtAt g h)) x)) else _) = _
      rw [ifp (show (256 : Int32) ≤ nI x from yle (a := 256) (by omega) (by omega) (by omega)), show x = 256 by omega]
      rfl
    | succ n ih =>
      intro x fu hx hf
      obtain ⟨fu, rfl⟩ : ∃ m, fu = m + 1 := ⟨fu - 1, by omega⟩
      have hn : ¬ (256 : Int32) ≤ nI x := nle (a := 256) (by omega) (by omega) (by omega)
      show (if (256 : Int32) ≤ nI x then some (nI (mxe g (Conn g (rtAt g h)) x)) else (if (256 : Int32) ≤ nI x then some (nI (mxe g (Conn g (rtAt g h)) x)) else ck (ix (nI x) 256) ((if ¬ (I 19 (nI x).toNatClampNeg) = nI h then fX0_mostChips_L5 fu (fun z6 => some z6) 3 (nI h) I (nI (mxe g (Conn g (rtAt g h)) x)) (nI x + 1) else ck (ix (nI x) 256) (fX0_mostChips_L5 fu (fun z6 => some z6) 3 (nI h) I (mx (nI (mxe g (Conn g (rtAt g h)) x)) (I 3 (nI x).toNatClampNeg)) (nI x + 1)))))) = _
      rw [ifn hn, ifn hn, ckN (show x < 256 by omega) (by omega), ckN (show x < 256 by omega) (by omega), tnN (show x < 2 ^ 31 by omega), hC.2.1 x (by omega), hg x (by omega), nI_1]
      have hcl := conn_lab hh (show x < 256 by omega)
      have key : (lb g (-1) 256 x = nI h) ↔ Conn g (rtAt g h) x := by
        rw [← hcl]
        by_cases q : 0 < g x
        · have hl := labF_lt (show x < 256 by omega) q
          rw [lb_full (by omega) q, nI_eq (by omega) (by omega)]
          exact ⟨fun z => ⟨q, z⟩, fun z => z.2⟩
        · rw [show lb g (-1) 256 x = -1 from if_neg (fun z => q z.1)]
          refine ⟨fun z => ?_, fun z => absurd z.1 q⟩
          exfalso
          have := nI_nneg (n := h) (by omega)
          rw [← z] at this
          exact absurd this (by decide)
      have hbx := bnd x (by omega)
      have hgx := hb x (by omega)
      by_cases q : Conn g (rtAt g h) x
      · rw [ifn (fun z => z (key.mpr q)), mxN (by omega) (by omega)]
        have e : Nat.max (mxe g (Conn g (rtAt g h)) x) (g x) = mxe g (Conn g (rtAt g h)) (x + 1) := by
          show _ = Nat.max _ (dd (Conn g (rtAt g h) x) * g x)
          rw [dd_t q, Nat.one_mul]
        rw [e]
        exact ih (x + 1) fu (by omega) (by omega)
      · rw [ifp (fun z => q (key.mp z))]
        have e : mxe g (Conn g (rtAt g h)) x = mxe g (Conn g (rtAt g h)) (x + 1) := by
          show _ = Nat.max _ (dd (Conn g (rtAt g h) x) * g x)
          rw [dd_f q, Nat.zero_mul]
          exact (Nat.max_eq_left (Nat.zero_le _)).symm
        rw [e]
        exact ih (x + 1) fu (by omega) (by omega)
  exact lp 256 0 2000 (by omega) (by omega)
theorem CI.num {A : AbS} {I : II} {P : PP} (hC : CI I P A) (hG : GI A) : ∃ I', fX0_numberIn I 3 = some (nI (mF (gR A.1)), I') ∧ CI I' P A ∧ CH I' (gR A.1) ∧ FC I I' := by
  obtain ⟨I', n1, n2, n3, n4⟩ := hC.1.num hG.1
  exact ⟨I', n1, hC.fc hG n4 n2, n3, n4⟩
theorem CI.as {I I' : II} {P : PP} {A : AbS} (h : CI I P A) (hG : GI A) (hf : ∀ a, a < 121 → I' a = I a) : CI I' P A := by
  obtain ⟨h1, ⟨h2, h3, h4⟩, h5, h6⟩ := h
  refine ⟨⟨h1.1.fm hG.1.2.1 (fun a _ _ => hf a (by omega)), h1.2.fm (fun a _ _ => hf a (by omega))⟩, ⟨h2, by rw [hf 21 (by omega)]; exact h3, fun i hi => ?_⟩, fun s hs => ⟨by rw [hf _ (by omega)]; exact (h5 s hs).1, fun hk => ?_⟩, by rw [hf 88 (by omega), hf 89 (by omega)]; exact h6⟩
  · have hi5 : i < 5 := Nat.lt_of_lt_of_le hi hG.2.1.1
    have := HB_n (h2.1 i hi5)
    exact (h4 i hi).fm (hG.2.1.2 i hi).2.1 (fun a _ _ => hf a (by omega))
  · exact ((h5 s hs).2 hk).fm ((hG.2.2.1 s hs).2 hk).2.1 (fun a _ _ => hf a (by omega))
theorem n5 {k : Nat} (h : k < 2 ^ 31) : ¬ nI k = (-5 : Int32) := by
  intro z
  have := nI_nneg h
  rw [z] at this
  exact absurd this (by decide)
theorem pocC {I : II} {ρ : Nat → Nat} (h : CS I 2 ρ) (g2 : ρ 2 ≤ 8) : fX4_allPockets I 2 = some (nI (sm (fun w => ρ (wI w 3)) (ρ 2))) := by
  have lp : ∀ (n x : Nat) (fu : Nat), x + n = ρ 2 → n < fu → fX4_allPockets_L4 fu (fun z3 => some z3) 2 I (nI (sm (fun w => ρ (wI w 3)) x)) (nI x) = some (nI (sm (fun w => ρ (wI w 3)) (ρ 2))) := by
    intro n
    induction n with
    | zero =>
      intro x fu hx hf
      obtain ⟨fu, rfl⟩ : ∃ m, fu = m + 1 := ⟨fu - 1, by omega⟩
      show (if (I 2 4) ≤ nI x then some (nI (sm (fun w => ρ (wI w 3)) x)) else _) = _
      rw [h.1.2.2.1, ifp (yle (by omega) (by omega) (by omega)), show x = ρ 2 by omega]
    | succ n ih =>
      intro x fu hx hf
      obtain ⟨fu, rfl⟩ : ∃ m, fu = m + 1 := ⟨fu - 1, by omega⟩
      show (if (I 2 4) ≤ nI x then some (nI (sm (fun w => ρ (wI w 3)) x)) else (fX4_walkerAt I 2 (nI x)).bind fun v2 => (match v2 with | none => fX4_allPockets_L4 fu (fun z3 => some z3) 2 I (nI (sm (fun w => ρ (wI w 3)) x) + 0) (nI x + 1) | some a3 => fX4_allPockets_L4 fu (fun z3 => some z3) 2 I (nI (sm (fun w => ρ (wI w 3)) x) + (I a3 3)) (nI x + 1))) = _
      rw [h.1.2.2.1, ifn (nle (by omega) (by omega) (by omega)), walkerAt_C h.1.2.2.1 g2 (show x < ρ 2 by omega), bd1]
      simp only []
      rw [show I (7 + x) 3 = _ from h.2.2.2.2 x 3 (by omega) (by omega), nI_add, nI_1]
      exact ih (x + 1) fu (by omega) (by omega)
  exact lp (ρ 2) 0 2000 (by omega) (by omega)
theorem stpC {I : II} {ρ : Nat → Nat} (h : CS I 2 ρ) (g2 : ρ 2 ≤ 8) : fX4_allSteps I 2 = some (nI (sm (fun w => ρ (wI w 6)) (ρ 2))) := by
  have lp : ∀ (n x : Nat) (fu : Nat), x + n = ρ 2 → n < fu → fX4_allSteps_L4 fu (fun z3 => some z3) 2 I (nI (sm (fun w => ρ (wI w 6)) x)) (nI x) = some (nI (sm (fun w => ρ (wI w 6)) (ρ 2))) := by
    intro n
    induction n with
    | zero =>
      intro x fu hx hf
      obtain ⟨fu, rfl⟩ : ∃ m, fu = m + 1 := ⟨fu - 1, by omega⟩
      show (if (I 2 4) ≤ nI x then some (nI (sm (fun w => ρ (wI w 6)) x)) else _) = _
      rw [h.1.2.2.1, ifp (yle (by omega) (by omega) (by omega)), show x = ρ 2 by omega]
    | succ n ih =>
      intro x fu hx hf
      obtain ⟨fu, rfl⟩ : ∃ m, fu = m + 1 := ⟨fu - 1, by omega⟩
      show (if (I 2 4) ≤ nI x then some (nI (sm (fun w => ρ (wI w 6)) x)) else (fX4_walkerAt I 2 (nI x)).bind fun v2 => (match v2 with | none => fX4_allSteps_L4 fu (fun z3 => some z3) 2 I (nI (sm (fun w => ρ (wI w 6)) x) + 0) (nI x + 1) | some a3 => fX4_allSteps_L4 fu (fun z3 => some z3) 2 I (nI (sm (fun w => ρ (wI w 6)) x) + (I a3 6)) (nI x + 1))) = _
      rw [h.1.2.2.1, ifn (nle (by omega) (by omega) (by omega)), walkerAt_C h.1.2.2.1 g2 (show x < ρ 2 by omega), bd1]
      simp only []
      rw [show I (7 + x) 6 = _ from h.2.2.2.2 x 6 (by omega) (by omega), nI_add, nI_1]
      exact ih (x + 1) fu (by omega) (by omega)
  exact lp (ρ 2) 0 2000 (by omega) (by omega)
