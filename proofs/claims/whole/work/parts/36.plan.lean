/-! the reading of the text, by both at once -/
def FP (I I' : II) : Prop := (∀ a, a ≠ 88 → a ≠ 90 → a ≠ 91 → I' a = I a) ∧ ∀ j, j ≠ 4 → j ≠ 5 → I' 88 j = I 88 j
def FQ (I I' : II) : Prop := (∀ a, a ≠ 134 → a ≠ 147 → a ≠ 148 → I' a = I a) ∧ ∀ j, j ≠ 15 → I' 134 j = I 134 j
theorem FP.tr {I J K : II} (h1 : FP I J) (h2 : FP J K) : FP I K := ⟨fun a ha hb hc => (h2.1 a ha hb hc).trans (h1.1 a ha hb hc), fun j hj hk => (h2.2 j hj hk).trans (h1.2 j hj hk)⟩
theorem FQ.tr {I J K : II} (h1 : FQ I J) (h2 : FQ J K) : FQ I K := ⟨fun a ha hb hc => (h2.1 a ha hb hc).trans (h1.1 a ha hb hc), fun j hj => (h2.2 j hj).trans (h1.2 j hj)⟩
theorem FP.rf {I : II} : FP I I := ⟨fun _ _ _ _ => rfl, fun _ _ _ => rfl⟩
theorem FQ.rf {I : II} : FQ I I := ⟨fun _ _ _ _ => rfl, fun _ _ => rfl⟩
theorem FQ.a147 {I : II} {k : Nat} {v : Int32} : FQ I (up2 I 147 k v) := ⟨fun a _ h _ => up2_n h, fun j _ => by rw [up2_n (by omega)]⟩
theorem FQ.a148 {I : II} {k : Nat} {v : Int32} : FQ I (up2 I 148 k v) := ⟨fun a _ _ h => up2_n h, fun j _ => by rw [up2_n (by omega)]⟩
theorem FQ.a134 {I : II} {v : Int32} : FQ I (up2 I 134 15 v) := ⟨fun a h _ _ => up2_n h, fun j h => up2_b h⟩
theorem FP.a90 {I : II} {k : Nat} {v : Int32} : FP I (up2 I 90 k v) := ⟨fun a _ h _ => up2_n h, fun j _ _ => by rw [up2_n (by omega)]⟩
theorem FP.a91 {I : II} {k : Nat} {v : Int32} : FP I (up2 I 91 k v) := ⟨fun a _ _ h => up2_n h, fun j _ _ => by rw [up2_n (by omega)]⟩
theorem FP.a4 {I : II} {v : Int32} : FP I (up2 I 88 4 v) := ⟨fun a h _ _ => up2_n h, fun j h _ => up2_b h⟩
theorem FP.a5 {I : II} {v : Int32} : FP I (up2 I 88 5 v) := ⟨fun a h _ _ => up2_n h, fun j _ h => up2_b h⟩
/-- what the reference's reader does at a letter -/
theorem J19_no {L : II} {len p : Nat} {x : Int32} (h1 : L 134 13 = nI len) (hl : len ≤ 40) (hp : p < len) (hx : L 146 p = x) (hn : fX9_isLetter L x = some 0) (bk : Int32 → II → Option (Int32 × II)) (ct : II → Option (Int32 × II)) : fX9_readPlan_J19 bk ct L (nI p) = some (nI p, L) := by
  unfold fX9_readPlan_J19
  rw [h1, ifn (fun z => by have := (nI_eq (by omega) (by omega)).mp z; omega), ckN (show p < 40 by omega) (by omega), tnN (show p < 2 ^ 31 by omega), hx, hn, bd1, if0]
theorem J19_let {L : II} {len p oc W : Nat} {tx : Nat → Int32} (h1 : L 134 13 = nI len) (hl : len ≤ 40) (ht : ∀ j, j < len → L 146 j = tx j) (hp : p < len) (hoc : oc ≤ p) (h15 : L 134 15 = nI oc) (hW : L 135 2 = nI W) (h8 : W ≤ 8) (hb : bC (tx p) = true) (hn : fX9_isLetter L (tx p) = some 1) (bk : Int32 → II → Option (Int32 × II)) (ct : II → Option (Int32 × II)) :
    (tx p ≠ 35 → ¬ (p + 1 < len ∧ isDg (tx (p + 1))) → fX9_readPlan_J19 bk ct L (nI p) = bk (nI (p + 1)) (up2 (up2 (up2 L 147 oc (tx p)) 148 oc 1) 134 15 (nI (oc + 1)))) ∧
    (tx p ≠ 35 → p + 1 < len → ∀ d, d ≤ 9 → tx (p + 1) = nI (48 + d) → isDg (tx (p + 1)) → d = 0 → ∃ L', fX9_readPlan_J19 bk ct L (nI p) = some (nI (p + 1), L') ∧ FQ L L') ∧
    (tx p ≠ 35 → p + 1 < len → ∀ d, d ≤ 9 → tx (p + 1) = nI (48 + d) → isDg (tx (p + 1)) → d ≠ 0 →
      (¬ (p + 2 < len ∧ isDg (tx (p + 2))) → fX9_readPlan_J19 bk ct L (nI p) = bk (nI (p + 2)) (up2 (up2 (up2 (up2 L 147 oc (tx p)) 148 oc 1) 148 oc (nI d)) 134 15 (nI (oc + 1)))) ∧
      (p + 2 < len → ∀ e, e ≤ 9 → tx (p + 2) = nI (48 + e) → isDg (tx (p + 2)) → (10 * d + e ≤ 50 → fX9_readPlan_J19 bk ct L (nI p) = bk (nI (p + 3)) (up2 (up2 (up2 (up2 (up2 L 147 oc (tx p)) 148 oc 1) 148 oc (nI d)) 148 oc (nI (10 * d + e))) 134 15 (nI (oc + 1)))) ∧ (50 < 10 * d + e → ∃ L', fX9_readPlan_J19 bk ct L (nI p) = some (nI (p + 2), L') ∧ FQ L L'))) ∧
    (tx p = 35 → ¬ (p + 1 < len ∧ isDg (tx (p + 1))) → ∃ L', fX9_readPlan_J19 bk ct L (nI p) = some (nI (p + 1), L') ∧ FQ L L') ∧
    (tx p = 35 → p + 1 < len → ∀ d, d ≤ 9 → tx (p + 1) = nI (48 + d) → isDg (tx (p + 1)) → (d < W → fX9_readPlan_J19 bk ct L (nI p) = bk (nI (p + 2)) (up2 (up2 (up2 (up2 L 147 oc (tx p)) 148 oc 1) 148 oc (nI d)) 134 15 (nI (oc + 1)))) ∧ (W ≤ d → ∃ L', fX9_readPlan_J19 bk ct L (nI p) = some (nI (p + 1), L') ∧ FQ L L')) := by
  have n1 : (134 : Nat) ≠ 147 := by omega
  have n2 : (134 : Nat) ≠ 148 := by omega
  have n3 : (146 : Nat) ≠ 147 := by omega
  have n4 : (146 : Nat) ≠ 148 := by omega
  have n5 : (135 : Nat) ≠ 147 := by omega
  have n6 : (135 : Nat) ≠ 148 := by omega
  have cp : ∀ {α : Type} {k : Option α}, ck (ix (nI p) 40) k = k := ckN (show p < 40 by omega) (by omega)
  have co : ∀ {α : Type} {k : Option α}, ck (ix (nI oc) 40) k = k := ckN (show oc < 40 by omega) (by omega)
  have tp : (nI p).toNatClampNeg = p := tnN (by omega)
  have to : (nI oc).toNatClampNeg = oc := tnN (by omega)
  have em : nI (p + 1) - 1 = nI p := pk_sub (a := p + 1) (b := 1) (by omega)
  have hne : ¬ nI p = nI len := fun z => by have := (nI_eq (by omega) (by omega)).mp z; omega
  have base : fX9_readPlan_J19 bk ct L (nI p) = (if ¬ tx p = 35 then (fX9_isDigit (up2 (up2 L 147 oc (tx p)) 148 oc 1) (nI (p + 1))).bind fun v15 => (if v15 = 0 then bk (nI (p + 1)) (up2 (up2 (up2 L 147 oc (tx p)) 148 oc 1) 134 15 (nI (oc + 1))) else ck (ix (nI (p + 1)) 40) ((if ¬ (L 146 (nI (p + 1)).toNatClampNeg) = 48 then ck (ix (nI (p + 1)) 40) ((fX9_isDigit (up2 (up2 (up2 L 147 oc (tx p)) 148 oc 1) 148 oc ((L 146 (nI (p + 1)).toNatClampNeg) - 48)) (nI (p + 2))).bind fun v23 => (if v23 = 0 then bk (nI (p + 2)) (up2 (up2 (up2 (up2 L 147 oc (tx p)) 148 oc 1) 148 oc ((L 146 (nI (p + 1)).toNatClampNeg) - 48)) 134 15 (nI (oc + 1))) else ck (ix (nI (p + 2)) 40) ((if (((10 * ((L 146 (nI (p + 1)).toNatClampNeg) - 48)) + (L 146 (nI (p + 2)).toNatClampNeg)) - 48) ≤ 50 then bk (nI (p + 3)) (up2 (up2 (up2 (up2 (up2 L 147 oc (tx p)) 148 oc 1) 148 oc ((L 146 (nI (p + 1)).toNatClampNeg) - 48)) 148 oc (((10 * ((L 146 (nI (p + 1)).toNatClampNeg) - 48)) + (L 146 (nI (p + 2)).toNatClampNeg)) - 48)) 134 15 (nI (oc + 1))) else some (nI (p + 2), (up2 (up2 (up2 (up2 L 147 oc (tx p)) 148 oc 1) 148 oc ((L 146 (nI (p + 1)).toNatClampNeg) - 48)) 148 oc (((10 * ((L 146 (nI (p + 1)).toNatClampNeg) - 48)) + (L 146 (nI (p + 2)).toNatClampNeg)) - 48))))))) else some (nI (p + 1), (up2 (up2 L 147 oc (tx p)) 148 oc 1))))) else (fX9_isDigit (up2 (up2 L 147 oc (tx p)) 148 oc 1) (nI (p + 1))).bind fun v33 => (if v33 = 0 then some (nI (p + 1), (up2 (up2 L 147 oc (tx p)) 148 oc 1)) else ck (ix (nI (p + 1)) 40) ((if ((L 146 (nI (p + 1)).toNatClampNeg) - 48) < (L 135 2) then ck (ix (nI (p + 1)) 40) (bk (nI (p + 2)) (up2 (up2 (up2 (up2 L 147 oc (tx p)) 148 oc 1) 148 oc ((L 146 (nI (p + 1)).toNatClampNeg) - 48)) 134 15 (nI (oc + 1)))) else some (nI (p + 1), (up2 (up2 L 147 oc (tx p)) 148 oc 1)))))) := by
    unfold fX9_readPlan_J19
    rw [h1, ifn hne]
    simp only [cp, tp, ht p hp, hn, bd1, if1, h15, co, to, ck_t hb, up2_n n1, up2_n n2, up2_n n3, up2_n n4, up2_n n5, up2_n n6, nI_1, em, up2_a]
  have hdg : ∀ (M : II) (q : Nat), FQ L M → q < 1000 → ((q < len ∧ isDg (tx q)) → fX9_isDigit M (nI q) = some 1) ∧ (¬ (q < len ∧ isDg (tx q)) → fX9_isDigit M (nI q) = some 0) := fun M q hM hq => isDigit_M (by rw [hM.2 13 (by omega)]; exact h1) hl (fun j hj => by rw [hM.1 146 (by omega) (by omega) (by omega)]; exact ht j hj) hq
  have FQ2 : FQ L (up2 (up2 L 147 oc (tx p)) 148 oc 1) := FQ.a147.tr FQ.a148
  have FQ3 : ∀ v, FQ L (up2 (up2 (up2 L 147 oc (tx p)) 148 oc 1) 148 oc v) := fun v => FQ2.tr FQ.a148
  have D1 := hdg _ (p + 1) FQ2 (by omega)
  have c48 : ∀ d, nI (48 + d) - 48 = nI d := fun d => by
    rw [show nI (48 + d) - 48 = nI (48 + d - 48) from pk_sub (b := 48) (by omega), show 48 + d - 48 = d by omega]
  refine ⟨fun q1 q2 => ?_, fun q1 q2 d hd hx hg h0 => ?_, fun q1 q2 d hd hx hg h0 => ⟨fun q3 => ?_, fun q3 e he hy hg2 => ⟨fun q4 => ?_, fun q4 => ?_⟩⟩, fun q1 q2 => ?_, fun q1 q2 d hd hx hg => ⟨fun q3 => ?_, fun q3 => ?_⟩⟩
  · rw [base, ifp q1, D1.2 q2, bd1, jf0]
  · refine ⟨_, ?_, FQ2⟩
    rw [base, ifp q1, D1.1 ⟨q2, hg⟩, bd1, jf1, ckN (show p + 1 < 40 by omega) (by omega), tnN (show p + 1 < 2 ^ 31 by omega), ht _ q2, hx, h0, ifn (show ¬ ¬ nI (48 + 0) = (48 : Int32) from fun z => z rfl)]
  · rw [base, ifp q1, D1.1 ⟨q2, hg⟩, bd1, jf1, ckN (show p + 1 < 40 by omega) (by omega), tnN (show p + 1 < 2 ^ 31 by omega), ht _ q2, hx, ifp (show ¬ nI (48 + d) = (48 : Int32) from fun z => by have := (eqN (b := 48) (by omega) (by omega)).mp z; omega), ckN (show p + 1 < 40 by omega) (by omega), (hdg _ (p + 2) (FQ3 _) (by omega)).2 q3, bd1, jf0, c48]
  · rw [base, ifp q1, D1.1 ⟨q2, hg⟩, bd1, jf1, ckN (show p + 1 < 40 by omega) (by omega), tnN (show p + 1 < 2 ^ 31 by omega), ht _ q2, hx, ifp (show ¬ nI (48 + d) = (48 : Int32) from fun z => by have := (eqN (b := 48) (by omega) (by omega)).mp z; omega), ckN (show p + 1 < 40 by omega) (by omega), (hdg _ (p + 2) (FQ3 _) (by omega)).1 ⟨q3, hg2⟩, bd1, jf1, ckN (show p + 2 < 40 by omega) (by omega), tnN (show p + 2 < 2 ^ 31 by omega), ht _ q3, hy, c48, show (10 : Int32) * nI d + nI (48 + e) - 48 = nI (10 * d + e) from by rw [show (10 : Int32) = nI 10 from rfl, pk_mul, nI_add, show 10 * d + (48 + e) = 48 + (10 * d + e) by omega]; exact c48 _, ifp (show nI (10 * d + e) ≤ (50 : Int32) from yle (b := 50) (by omega) (by omega) q4)]
  · refine ⟨_, ?_, (FQ3 (nI d)).tr (FQ.a148 (k := oc) (v := nI (10 * d + e)))⟩
    rw [base, ifp q1, D1.1 ⟨q2, hg⟩, bd1, jf1, ckN (show p + 1 < 40 by omega) (by omega), tnN (show p + 1 < 2 ^ 31 by omega), ht _ q2, hx, ifp (show ¬ nI (48 + d) = (48 : Int32) from fun z => by have := (eqN (b := 48) (by omega) (by omega)).mp z; omega), ckN (show p + 1 < 40 by omega) (by omega), (hdg _ (p + 2) (FQ3 _) (by omega)).1 ⟨q3, hg2⟩, bd1, jf1, ckN (show p + 2 < 40 by omega) (by omega), tnN (show p + 2 < 2 ^ 31 by omega), ht _ q3, hy, c48, show (10 : Int32) * nI d + nI (48 + e) - 48 = nI (10 * d + e) from by rw [show (10 : Int32) = nI 10 from rfl, pk_mul, nI_add, show 10 * d + (48 + e) = 48 + (10 * d + e) by omega]; exact c48 _, ifn (show ¬ nI (10 * d + e) ≤ (50 : Int32) from nle (b := 50) (by omega) (by omega) q4)]
  · refine ⟨_, ?_, FQ2⟩
    rw [base, ifn (fun z => z q1), D1.2 q2, bd1, jf0]
  · rw [base, ifn (fun z => z q1), D1.1 ⟨q2, hg⟩, bd1, jf1, ckN (show p + 1 < 40 by omega) (by omega), tnN (show p + 1 < 2 ^ 31 by omega), ht _ q2, hx, c48, hW, ifp ((nI_ltI (by omega) (by omega)).mpr q3), ckN (show p + 1 < 40 by omega) (by omega)]
  · refine ⟨_, ?_, FQ2⟩
    rw [base, ifn (fun z => z q1), D1.1 ⟨q2, hg⟩, bd1, jf1, ckN (show p + 1 < 40 by omega) (by omega), tnN (show p + 1 < 2 ^ 31 by omega), ht _ q2, hx, c48, hW, ifn (fun z => by have := (nI_ltI (by omega) (by omega)).mp z; omega)]
