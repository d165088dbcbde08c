/-! the reference finds a heap by a stack -/
def gR (ρ : Nat → Nat) (c : Nat) : Nat := ρ (9 + c)
def Bd (ρ : Nat → Nat) : Prop := (2 ≤ ρ 0 ∧ ρ 0 ≤ 16) ∧ (2 ≤ ρ 1 ∧ ρ 1 ≤ 16) ∧ (∀ c, c < 256 → gR ρ c ≤ 99) ∧ ∀ c, c < 256 → (ρ 0 ≤ c / 16 ∨ ρ 1 ≤ c % 16) → gR ρ c = 0
theorem b01 {p : Prop} {h : Decidable p} : ((if p then (1 : Int32) else 0) = 0) ↔ ¬ p := by
  by_cases hp : p
  · rw [if_pos hp]
    exact ⟨fun z => absurd z (by decide), fun z => absurd hp z⟩
  · rw [if_neg hp]
    exact ⟨fun _ => hp, fun _ => rfl⟩
abbrev okC (R C : Nat) (x y : Int32) : Prop := (0 ≤ x.toInt ∧ x.toInt < R) ∧ 0 ≤ y.toInt ∧ y.toInt < C
theorem okC_nn {R C a b : Nat} (ha : a < 2 ^ 31) (hb : b < 2 ^ 31) : okC R C (nI a) (nI b) ↔ a < R ∧ b < C := by
  unfold okC
  rw [nI_toInt ha, nI_toInt hb]
  omega
theorem mxe_ins {g : Nat → Nat} {p : Nat → Prop} {n c : Nat} (hc : c < n) : mxe g (fun i => p i ∨ i = c) n = max (mxe g p n) (g c) := by
  refine Nat.le_antisymm ((mxe_le n).mpr (fun i hi hp => ?_)) (Nat.max_le.mpr ⟨(mxe_le n).mpr (fun i hi hp => (mxe_le n).mp (Nat.le_refl _) i hi (Or.inl hp)), (mxe_le n).mp (Nat.le_refl _) c hc (Or.inr rfl)⟩)
  rcases hp with hp | rfl
  · exact Nat.le_trans ((mxe_le n).mp (Nat.le_refl _) i hi hp) (Nat.le_max_left _ _)
  · exact Nat.le_max_right _ _
theorem mxe_congr {g : Nat → Nat} {p q : Nat → Prop} : ∀ (n : Nat), (∀ i, i < n → (p i ↔ q i)) → mxe g p n = mxe g q n
  | 0, _ => rfl
  | n + 1, h => by
    show Nat.max (mxe g p n) (dd (p n) * g n) = Nat.max (mxe g q n) (dd (q n) * g n)
    rw [mxe_congr n (fun i hi => h i (by omega)), dd_c (h n (by omega))]
