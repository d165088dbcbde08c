/-! the reference's copies of its row -/
theorem nle {a b : Nat} (ha : a < 2 ^ 31) (hb : b < 2 ^ 31) (h : b < a) : ¬ nI a ≤ nI b := fun z => by have := (leN ha hb).mp z; omega
theorem yle {a b : Nat} (ha : a < 2 ^ 31) (hb : b < 2 ^ 31) (h : a ≤ b) : nI a ≤ nI b := (leN ha hb).mpr h
theorem begin_M {I : II} {ρ : Nat → Nat} (h : MR I ρ) : ∃ I', fX9_begin I = some I' ∧ (∀ k, k < 367 → I' 136 k = nI (ρ k)) ∧ ∀ a, a ≠ 136 → I' a = I a := by
  have lp : ∀ (n x : Nat) (K : II) (fu : Nat), x + n = 367 → n < fu → (∀ k, k < x → K 136 k = nI (ρ k)) → (∀ a, a ≠ 136 → K a = I a) → ∃ I', fX9_begin_L2 fu (fun I5 => some I5) (nI x) K = some I' ∧ (∀ k, k < 367 → I' 136 k = nI (ρ k)) ∧ ∀ a, a ≠ 136 → I' a = I a := by
    intro n
    induction n with
    | zero =>
      intro x K fu hx hf k1 k2
      obtain ⟨fu, rfl⟩ : ∃ m, fu = m + 1 := ⟨fu - 1, by omega⟩
      refine ⟨K, ?_, fun k hk => k1 k (by omega), k2⟩
      show (if (367 : Int32) ≤ nI x then some K else _) = _
      rw [ifp (show (367 : Int32) ≤ nI x from yle (a := 367) (by omega) (by omega) (by omega))]
    | succ n ih =>
      intro x K fu hx hf k1 k2
      obtain ⟨fu, rfl⟩ : ∃ m, fu = m + 1 := ⟨fu - 1, by omega⟩
      show ∃ I', (if (367 : Int32) ≤ nI x then some K else ck (ix (nI x) 367) (ck (ix (nI x) 367) ((some (up2 K 136 (nI x).toNatClampNeg (K 135 (nI x).toNatClampNeg))).bind fun I4 => fX9_begin_L2 fu (fun I5 => some I5) (nI x + 1) I4))) = some I' ∧ _
      rw [ifn (show ¬ (367 : Int32) ≤ nI x from nle (a := 367) (by omega) (by omega) (by omega)), ckN (show x < 367 by omega) (by omega), ckN (show x < 367 by omega) (by omega), tnN (show x < 2 ^ 31 by omega), bd1, nI_1, k2 135 (by omega), h x (by omega)]
      refine ih (x + 1) _ fu (by omega) (by omega) (fun k hk => ?_) (fun a ha => by rw [up2_n ha, k2 a ha])
      rw [up2_at]
      by_cases e : k = x
      · rw [if_pos e, e]
      · rw [if_neg e]; exact k1 k (by omega)
  exact lp 367 0 I 2000 (by omega) (by omega) (fun k hk => by omega) (fun _ _ => rfl)
theorem goBack_M {I : II} {ρ : Nat → Nat} (h : ∀ k, k < 367 → I 136 k = nI (ρ k)) : ∃ I', fX9_goBack I = some I' ∧ MR I' ρ ∧ ∀ a, a ≠ 135 → I' a = I a := by
  have lp : ∀ (n x : Nat) (K : II) (fu : Nat), x + n = 367 → n < fu → (∀ k, k < x → K 135 k = nI (ρ k)) → (∀ a, a ≠ 135 → K a = I a) → ∃ I', fX9_goBack_L2 fu (fun I5 => some I5) (nI x) K = some I' ∧ MR I' ρ ∧ ∀ a, a ≠ 135 → I' a = I a := by
    intro n
    induction n with
    | zero =>
      intro x K fu hx hf k1 k2
      obtain ⟨fu, rfl⟩ : ∃ m, fu = m + 1 := ⟨fu - 1, by omega⟩
      refine ⟨K, ?_, fun k hk => k1 k (by omega), k2⟩
      show (if (367 : Int32) ≤ nI x then some K else _) = _
      rw [ifp (show (367 : Int32) ≤ nI x from yle (a := 367) (by omega) (by omega) (by omega))]
    | succ n ih =>
      intro x K fu hx hf k1 k2
      obtain ⟨fu, rfl⟩ : ∃ m, fu = m + 1 := ⟨fu - 1, by omega⟩
      show ∃ I', (if (367 : Int32) ≤ nI x then some K else ck (ix (nI x) 367) (ck (ix (nI x) 367) ((some (up2 K 135 (nI x).toNatClampNeg (K 136 (nI x).toNatClampNeg))).bind fun I4 => fX9_goBack_L2 fu (fun I5 => some I5) (nI x + 1) I4))) = some I' ∧ _
      rw [ifn (show ¬ (367 : Int32) ≤ nI x from nle (a := 367) (by omega) (by omega) (by omega)), ckN (show x < 367 by omega) (by omega), ckN (show x < 367 by omega) (by omega), tnN (show x < 2 ^ 31 by omega), bd1, nI_1, k2 136 (by omega), h x (by omega)]
      refine ih (x + 1) _ fu (by omega) (by omega) (fun k hk => ?_) (fun a ha => by rw [up2_n ha, k2 a ha])
      rw [up2_at]
      by_cases e : k = x
      · rw [if_pos e, e]
      · rw [if_neg e]; exact k1 k (by omega)
  exact lp 367 0 I 2000 (by omega) (by omega) (fun k hk => by omega) (fun _ _ => rfl)
theorem m367 (h : Nat) : (367 : Int32) * nI h = nI (367 * h) := pk_mul 367 h
/-- the scratch row onto the next place -/
theorem done56 {I : II} {σ : Nat → Nat} {v : Int32} {h : Nat} (hh : h < 5) (h3 : I 134 3 = nI h) (hs : ∀ k, k < 367 → I 136 k = nI (σ k)) : ∃ I', fX9_done_L56 2000 (fun I6 => (some (up2 I6 134 3 ((I6 134 3) + 1))).bind fun I7 => some (v, I7)) v 0 I = some (v, I') ∧ I' 134 3 = nI (h + 1) ∧ (∀ j, j ≠ 3 → I' 134 j = I 134 j) ∧ (∀ k, k < 367 → I' 137 (367 * h + k) = nI (σ k)) ∧ (∀ k, (k < 367 * h ∨ 367 * h + 367 ≤ k) → I' 137 k = I 137 k) ∧ ∀ a, a ≠ 134 → a ≠ 137 → I' a = I a := by
  have lp : ∀ (n x : Nat) (K : II) (fu : Nat), x + n = 367 → n < fu → (∀ k, k < x → K 137 (367 * h + k) = nI (σ k)) → (∀ k, (k < 367 * h ∨ 367 * h + 367 ≤ k) → K 137 k = I 137 k) → (∀ a, a ≠ 137 → K a = I a) → ∃ I', fX9_done_L56 fu (fun I6 => (some (up2 I6 134 3 ((I6 134 3) + 1))).bind fun I7 => some (v, I7)) v (nI x) K = some (v, I') ∧ I' 134 3 = nI (h + 1) ∧ (∀ j, j ≠ 3 → I' 134 j = I 134 j) ∧ (∀ k, k < 367 → I' 137 (367 * h + k) = nI (σ k)) ∧ (∀ k, (k < 367 * h ∨ 367 * h + 367 ≤ k) → I' 137 k = I 137 k) ∧ ∀ a, a ≠ 134 → a ≠ 137 → I' a = I a := by
    intro n
    induction n with
    | zero =>
      intro x K fu hx hf k1 k2 k3
      obtain ⟨fu, rfl⟩ : ∃ m, fu = m + 1 := ⟨fu - 1, by omega⟩
      refine ⟨up2 K 134 3 (nI (h + 1)), ?_, up2_a, fun j hj => by rw [up2_b hj, k3 134 (by omega)], fun k hk => by rw [up2_n (by omega)]; exact k1 k (by omega), fun k hk => by rw [up2_n (by omega)]; exact k2 k hk, fun a ha hb => by rw [up2_n ha, k3 a hb]⟩
      show (if (367 : Int32) ≤ nI x then ((some (up2 K 134 3 ((K 134 3) + 1))).bind fun I7 => some (v, I7)) else _) = _
      rw [ifp (show (367 : Int32) ≤ nI x from yle (a := 367) (by omega) (by omega) (by omega)), k3 134 (by omega), h3, nI_1, bd1]
    | succ n ih =>
      intro x K fu hx hf k1 k2 k3
      obtain ⟨fu, rfl⟩ : ∃ m, fu = m + 1 := ⟨fu - 1, by omega⟩
      show ∃ I', (if (367 : Int32) ≤ nI x then _ else ck (ix (nI x) 367) (ck (ix ((367 * (K 134 3)) + nI x) 1835) ((some (up2 K 137 ((367 * (K 134 3)) + nI x).toNatClampNeg (K 136 (nI x).toNatClampNeg))).bind fun I5 => fX9_done_L56 fu (fun I6 => (some (up2 I6 134 3 ((I6 134 3) + 1))).bind fun I7 => some (v, I7)) v (nI x + 1) I5))) = some (v, I') ∧ _
      rw [ifn (show ¬ (367 : Int32) ≤ nI x from nle (a := 367) (by omega) (by omega) (by omega)), k3 134 (by omega), h3, m367, nI_add, ckN (show x < 367 by omega) (by omega), ckN (show 367 * h + x < 1835 by omega) (by omega), tnN (show x < 2 ^ 31 by omega), tnN (show 367 * h + x < 2 ^ 31 by omega), bd1, nI_1, k3 136 (by omega), hs x (by omega)]
      refine ih (x + 1) _ fu (by omega) (by omega) (fun k hk => ?_) (fun k hk => by rw [up2_b (by omega)]; exact k2 k hk) (fun a ha => by rw [up2_n ha, k3 a ha])
      rw [up2_at]
      by_cases e : k = x
      · rw [if_pos (by omega), e]
      · rw [if_neg (by omega)]; exact k1 k (by omega)
  exact lp 367 0 I 2000 (by omega) (by omega) (fun k hk => by omega) (fun _ _ => rfl) (fun _ _ => rfl)
/-- all rows one place down -/
theorem done20 {I : II} {v : Int32} {ct : II → Option (Int32 × II)} (h3 : I 134 3 = nI 4) {Q : II → Prop} (hct : ∀ L, (∀ k, k < 1468 → L 137 k = I 137 (k + 367)) → (∀ a, a ≠ 137 → L a = I a) → ∃ I', ct L = some (v, I') ∧ Q I') : ∃ I', fX9_done_L20 2000 ct v 0 I = some (v, I') ∧ Q I' := by
  have lp : ∀ (n x : Nat) (K : II) (fu : Nat), x + n = 1468 → n < fu → (∀ k, k < x → K 137 k = I 137 (k + 367)) → (∀ k, x ≤ k → K 137 k = I 137 k) → (∀ a, a ≠ 137 → K a = I a) → ∃ I', fX9_done_L20 fu ct v (nI x) K = some (v, I') ∧ Q I' := by
    intro n
    induction n with
    | zero =>
      intro x K fu hx hf k1 k2 k3
      obtain ⟨fu, rfl⟩ : ∃ m, fu = m + 1 := ⟨fu - 1, by omega⟩
      show ∃ I', (if (367 * (K 134 3)) ≤ nI x then ct K else _) = some (v, I') ∧ _
      rw [k3 134 (by omega), h3, m367, ifp (yle (by omega) (by omega) (by omega))]
      exact hct K (fun k hk => k1 k (by omega)) k3
    | succ n ih =>
      intro x K fu hx hf k1 k2 k3
      obtain ⟨fu, rfl⟩ : ∃ m, fu = m + 1 := ⟨fu - 1, by omega⟩
      show ∃ I', (if (367 * (K 134 3)) ≤ nI x then ct K else ck (ix (nI x + 367) 1835) (ck (ix (nI x) 1835) ((some (up2 K 137 (nI x).toNatClampNeg (K 137 (nI x + 367).toNatClampNeg))).bind fun I12 => fX9_done_L20 fu ct v (nI x + 1) I12))) = some (v, I') ∧ _
      rw [k3 134 (by omega), h3, m367, ifn (nle (by omega) (by omega) (by omega)), show nI x + 367 = nI (x + 367) from nI_add x 367, ckN (show x + 367 < 1835 by omega) (by omega), ckN (show x < 1835 by omega) (by omega), tnN (show x < 2 ^ 31 by omega), tnN (show x + 367 < 2 ^ 31 by omega), bd1, nI_1, k2 (x + 367) (by omega)]
      refine ih (x + 1) _ fu (by omega) (by omega) (fun k hk => ?_) (fun k hk => by rw [up2_b (by omega)]; exact k2 k (by omega)) (fun a ha => by rw [up2_n ha, k3 a ha])
      rw [up2_at]
      by_cases e : k = x
      · rw [if_pos e, e]
      · rw [if_neg e]; exact k1 k (by omega)
  exact lp 1468 0 I 2000 (by omega) (by omega) (fun k hk => by omega) (fun _ _ => rfl) (fun _ _ => rfl)
theorem done_M {I : II} {A : AbS} {ρ : Nat → Nat} (v : Int32) (h : MI I (reA A ρ)) (hG : GI A) (hs : ∀ k, k < 367 → I 136 k = nI (A.1 k)) : ∃ I', fX9_done I v = some (v, I') ∧ MI I' (neA A ρ) ∧ FrM I I' := by
  obtain ⟨h1, ⟨h2, h3⟩, h4, h5⟩ := h
  obtain ⟨g1, ⟨g2, g3⟩, g4⟩ := hG
  change I 134 3 = nI A.2.1.1 at h2
  change ∀ i, i < A.2.1.1 → ∀ k, k < 367 → I 137 (367 * i + k) = nI (A.2.1.2 i k) at h3
  unfold fX9_done
  by_cases q : A.2.1.1 = 5
  · rw [h2, ifn (show ¬ ¬ nI A.2.1.1 = (5 : Int32) from fun z => z (by rw [q]; rfl)), q, show nI 5 - 1 = nI 4 from pk_sub (a := 5) (b := 1) (by omega), bd1]
    refine done20 (I := up2 I 134 3 (nI 4)) up2_a (Q := fun I' => MI I' (neA A ρ) ∧ FrM I I') (fun L l1 l2 => ?_)
    obtain ⟨I', d1, d2, d3, d4, d5, d6⟩ := done56 (I := L) (σ := A.1) (v := v) (h := 4) (by omega) (by rw [l2 134 (by omega)]; exact up2_a) (fun k hk => by rw [l2 136 (by omega), up2_n (by omega)]; exact hs k hk)
    have fr : ∀ a, a ≠ 134 → a ≠ 137 → I' a = I a := fun a ha hb => by rw [d6 a ha hb, l2 a hb, up2_n ha]
    refine ⟨I', d1, ⟨fun k hk => by rw [fr 135 (by omega) (by omega)]; exact h1 k hk, ⟨?_, fun i hi k hk => ?_⟩, by rw [fr 139 (by omega) (by omega), fr 138 (by omega) (by omega)]; exact h4, by rw [d3 13 (by omega), l2 134 (by omega), up2_b (by omega), fr 146 (by omega) (by omega)]; exact h5⟩, fun a ha => fr a (by omega) (by omega)⟩
    · show I' 134 3 = nI (neH A.2.1.1)
      unfold neH
      rw [if_neg (by omega)]
      exact d2
    · have hi' : i < neH A.2.1.1 := hi
      show I' 137 (367 * i + k) = nI (neE A.1 A.2.1.1 A.2.1.2 i k)
      unfold neH at hi'
      unfold neE
      rw [if_neg (by omega)] at hi' ⊢
      by_cases e : i = 4
      · rw [if_pos e, e]; exact d4 k hk
      · rw [if_neg e, d5 _ (by omega), l1 _ (by omega), up2_n (by omega), show 367 * i + k + 367 = 367 * (i + 1) + k by omega]
        exact h3 (i + 1) (by omega) k hk
  · rw [h2, ifp (show ¬ nI A.2.1.1 = (5 : Int32) from fun z => q ((eqN (b := 5) (by omega) (by omega)).mp z))]
    obtain ⟨I', d1, d2, d3, d4, d5, d6⟩ := done56 (I := I) (σ := A.1) (v := v) (h := A.2.1.1) (by omega) h2 hs
    refine ⟨I', d1, ⟨fun k hk => by rw [d6 135 (by omega) (by omega)]; exact h1 k hk, ⟨?_, fun i hi k hk => ?_⟩, by rw [d6 139 (by omega) (by omega), d6 138 (by omega) (by omega)]; exact h4, by rw [d3 13 (by omega), d6 146 (by omega) (by omega)]; exact h5⟩, fun a ha => d6 a (by omega) (by omega)⟩
    · show I' 134 3 = nI (neH A.2.1.1)
      unfold neH
      rw [if_pos (by omega)]
      exact d2
    · have hi' : i < neH A.2.1.1 := hi
      show I' 137 (367 * i + k) = nI (neE A.1 A.2.1.1 A.2.1.2 i k)
      unfold neH at hi'
      unfold neE
      rw [if_pos (by omega)] at hi' ⊢
      by_cases e : i = A.2.1.1
      · rw [if_pos e, e]; exact d4 k hk
      · rw [if_neg e, d5 _ (by omega)]
        exact h3 i (by omega) k hk
