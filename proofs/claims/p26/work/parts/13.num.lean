/-! small facts of numbers, and of the checks -/
theorem ixN {j n : Nat} (h : j < n) (hn : n < 2 ^ 31) : ix (nI j) n = true := by
  have := vp_in_nI h hn
  unfold vp_in at this
  exact decide_eq_true this
theorem ckN {α : Type} {j n : Nat} {k : Option α} (h : j < n) (hn : n < 2 ^ 31) : ck (ix (nI j) n) k = k := ck_t (ixN h hn)
theorem tnN {j : Nat} (h : j < 2 ^ 31) : (nI j).toNatClampNeg = j := nI_clamp h
theorem lit (n : Nat) : (OfNat.ofNat n : Int32) = nI n := rfl
theorem m1_neg : ((-1 : Int32) < 0) := by decide
theorem m5_neg : ((-5 : Int32) < 0) := by decide
theorem nI_nneg {n : Nat} (h : n < 2 ^ 31) : (0 : Int32) ≤ nI n := nI_pos' h
theorem rmN {a d : Nat} (ha : a < 2 ^ 31) (h0 : 0 < d) (hd : d < 2 ^ 31) : rm (nI a) (nI d) = nI (a % d) := pk_rem ha h0 hd
theorem up2_at {I : II} {a k : Nat} {v : Int32} {j : Nat} : up2 I a k v a j = if j = k then v else I a j := by simp [up2]
theorem up2_a {I : II} {a k : Nat} {v : Int32} : up2 I a k v a k = v := by simp [up2]
theorem up2_b {I : II} {a k j : Nat} {v : Int32} (h : j ≠ k) : up2 I a k v a j = I a j := by simp [up2, h]
theorem bd1 {α β : Type} {a : α} {f : α → Option β} : (some a).bind f = f a := rfl
theorem ifp {c : Prop} {hc : Decidable c} {α : Type} {a b : α} (h : c) : (if c then a else b) = a := if_pos h
theorem ifn {c : Prop} {hc : Decidable c} {α : Type} {a b : α} (h : ¬ c) : (if c then a else b) = b := if_neg h
noncomputable def lb (g : Nat → Nat) (z : Int32) (k c : Nat) : Int32 := if 0 < g c ∧ rtOf g c < k then nI (labF g c) else z
theorem cnt_img {g : Nat → Nat} : ∀ (n : Nat) (fo : Nat → Nat), (∀ j, j < n → fo j < 256) → (∀ i j, i < n → j < n → fo i = fo j → i = j) → cnt (fun c => ∃ j, j < n ∧ fo j = c) 256 = n ∧ sme g (fun c => ∃ j, j < n ∧ fo j = c) 256 = sm (fun j => g (fo j)) n
  | 0, fo, _, _ => ⟨cnt_none (fun i _ ⟨j, hj, _⟩ => absurd hj (by omega)), sme_none (fun i _ ⟨j, hj, _⟩ => absurd hj (by omega))⟩
  | n + 1, fo, h1, h2 => by
    obtain ⟨e1, e2⟩ := cnt_img (g := g) n fo (fun j hj => h1 j (by omega)) (fun i j hi hj => h2 i j (by omega) (by omega))
    have hq : ∀ i, i < 256 → ((∃ j, j < n + 1 ∧ fo j = i) ↔ ((∃ j, j < n ∧ fo j = i) ∨ i = fo n)) := by
      intro i _
      constructor
      · rintro ⟨j, hj, rfl⟩
        by_cases e : j = n
        · subst e; exact Or.inr rfl
        · exact Or.inl ⟨j, by omega, rfl⟩
      · rintro (⟨j, hj, rfl⟩ | rfl)
        · exact ⟨j, by omega, rfl⟩
        · exact ⟨n, by omega, rfl⟩
    have hn : ¬ ∃ j, j < n ∧ fo j = fo n := fun ⟨j, hj, e⟩ => by
      have := h2 j n (by omega) (by omega) e
      omega
    rw [cnt_congr hq, sme_congr hq, cnt_ins (p := fun c => ∃ j, j < n ∧ fo j = c) (h1 n (by omega)) hn, sme_ins (p := fun c => ∃ j, j < n ∧ fo j = c) (h1 n (by omega)) hn, e1, e2]
    exact ⟨rfl, rfl⟩
theorem neigh_sp {c d : Nat} (hc : c < 256) (hd : d < 4) : fX0_neighbour (nI c) (nI d) = some (if nbr c d < 256 then nI (nbr c d) else -1) := by
  have hd4 : d = 0 ∨ d = 1 ∨ d = 2 ∨ d = 3 := by omega
  have l16 : (16 : Int32) = nI 16 := rfl
  have l15 : (15 : Int32) = nI 15 := rfl
  have l240 : (240 : Int32) = nI 240 := rfl
  have l1 : (1 : Int32) = nI 1 := rfl
  have l2 : (2 : Int32) = nI 2 := rfl
  have l0 : (0 : Int32) = nI 0 := rfl
  unfold fX0_neighbour
  rw [l16, l15, l240, l1, l2, l0]
  simp only [nI_eq (show d < 2 ^ 31 by omega) (show 0 < 2 ^ 31 by omega), nI_eq (show d < 2 ^ 31 by omega) (show 1 < 2 ^ 31 by omega), nI_eq (show d < 2 ^ 31 by omega) (show 2 < 2 ^ 31 by omega), rmN (show c < 2 ^ 31 by omega) (show 0 < 16 by omega) (show 16 < 2 ^ 31 by omega), nI_ltI (show c < 2 ^ 31 by omega) (show 16 < 2 ^ 31 by omega), nI_leI (show 15 < 2 ^ 31 by omega) (show c % 16 < 2 ^ 31 by omega), nI_leI (show 240 < 2 ^ 31 by omega) (show c < 2 ^ 31 by omega), nI_leI (show c % 16 < 2 ^ 31 by omega) (show 0 < 2 ^ 31 by omega), nI_add]
  unfold nbr
  rcases hd4 with rfl | rfl | rfl | rfl
  · by_cases h : c < 16
    · simp [h]
    · simp [h, pk_sub (show 16 ≤ c by omega), show c - 16 < 256 by omega]
  · by_cases h : 15 ≤ c % 16
    · simp [h, show c % 16 = 15 by omega]
    · simp [h, show ¬ c % 16 = 15 by omega, show c + 1 < 256 by omega]
  · by_cases h : 240 ≤ c
    · simp [h]
    · simp [h, show c + 16 < 256 by omega]
  · by_cases h : c % 16 ≤ 0
    · simp [h, show c % 16 = 0 by omega]
    · simp [h, show ¬ c % 16 = 0 by omega, pk_sub (show 1 ≤ c by omega), show c - 1 < 256 by omega]
