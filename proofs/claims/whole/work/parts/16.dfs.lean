/-! the reference finds a heap by a stack -/
def MR (I : II) (ρ : Nat → Nat) : Prop := ∀ k, k < 367 → I 135 k = nI (ρ k)
def gR (ρ : Nat → Nat) (c : Nat) : Nat := ρ (9 + c)
/-- the board's sizes, and no chips beside it -/
def Bd (ρ : Nat → Nat) : Prop := (2 ≤ ρ 0 ∧ ρ 0 ≤ 16) ∧ (2 ≤ ρ 1 ∧ ρ 1 ≤ 16) ∧ (∀ c, c < 256 → gR ρ c ≤ 99) ∧ ∀ c, c < 256 → (ρ 0 ≤ c / 16 ∨ ρ 1 ≤ c % 16) → gR ρ c = 0
theorem in_sp (x a b : Int32) : fX9_in x a b = some (if a ≤ x ∧ x ≤ b then 1 else 0) := by
  unfold fX9_in
  by_cases h1 : x < a
  · rw [ifp h1, if_neg]
    rintro ⟨h2, -⟩
    rw [Int32.lt_iff_toInt_lt] at h1
    rw [Int32.le_iff_toInt_le] at h2
    omega
  · rw [ifn h1]
    by_cases h2 : b < x
    · rw [ifp h2, if_neg]
      rintro ⟨-, h3⟩
      rw [Int32.lt_iff_toInt_lt] at h2
      rw [Int32.le_iff_toInt_le] at h3
      omega
    · rw [ifn h2, if_pos]
      rw [Int32.lt_iff_toInt_lt] at h1 h2
      exact ⟨Int32.le_iff_toInt_le.mpr (by omega), Int32.le_iff_toInt_le.mpr (by omega)⟩
theorem b01 {p : Prop} {h : Decidable p} : ((if p then (1 : Int32) else 0) = 0) ↔ ¬ p := by
  by_cases hp : p
  · rw [if_pos hp]
    exact ⟨fun z => absurd z (by decide), fun z => absurd hp z⟩
  · rw [if_neg hp]
    exact ⟨fun _ => hp, fun _ => rfl⟩
def okC (R C : Nat) (x y : Int32) : Prop := (0 ≤ x.toInt ∧ x.toInt < R) ∧ 0 ≤ y.toInt ∧ y.toInt < C
theorem isCell_sp {I : II} {ρ : Nat → Nat} (h : MR I ρ) (hB : Bd ρ) (x y : Int32) : (okC (ρ 0) (ρ 1) x y → fX9_isCell I x y = some 1) ∧ (¬ okC (ρ 0) (ρ 1) x y → fX9_isCell I x y = some 0) := by
  obtain ⟨⟨r1, r2⟩, ⟨c1, c2⟩, -⟩ := hB
  have e0 : I 135 0 - 1 = nI (ρ 0 - 1) := by rw [h 0 (by omega)]; exact pk_sub (a := ρ 0) (b := 1) (by omega)
  have e1 : I 135 1 - 1 = nI (ρ 1 - 1) := by rw [h 1 (by omega)]; exact pk_sub (a := ρ 1) (b := 1) (by omega)
  have t0 : (nI (ρ 0 - 1)).toInt = ((ρ 0 - 1 : Nat) : Int) := nI_toInt (by omega)
  have t1 : (nI (ρ 1 - 1)).toInt = ((ρ 1 - 1 : Nat) : Int) := nI_toInt (by omega)
  have z0 : (0 : Int32).toInt = 0 := by decide
  unfold fX9_isCell
  rw [e0, e1, in_sp, in_sp, bd1, bd1]
  simp only [b01, Int32.le_iff_toInt_le, t0, t1, z0]
  unfold okC
  constructor
  · rintro ⟨⟨a1, a2⟩, a3, a4⟩
    rw [ifn (fun z => z ⟨a1, by omega⟩), ifn (fun z => z ⟨a3, by omega⟩)]
  · intro hn
    by_cases q1 : 0 ≤ x.toInt ∧ x.toInt ≤ ((ρ 0 - 1 : Nat) : Int)
    · rw [ifn (fun z => z q1), ifp (fun q2 => hn ⟨⟨q1.1, by omega⟩, q2.1, by omega⟩)]
    · rw [ifp q1]
theorem okC_nn {R C a b : Nat} (ha : a < 2 ^ 31) (hb : b < 2 ^ 31) : okC R C (nI a) (nI b) ↔ a < R ∧ b < C := by
  unfold okC
  rw [nI_toInt ha, nI_toInt hb]
  omega
theorem step_sp {I : II} {ρ : Nat → Nat} (h : MR I ρ) (hB : Bd ρ) {c d : Nat} (hc : c < 256) (hr : c / 16 < ρ 0) (hcc : c % 16 < ρ 1) (hd : d < 4) : (nbr c d < 256 ∧ nbr c d / 16 < ρ 0 ∧ nbr c d % 16 < ρ 1 ∧ fX9_stepped I (nI c) (nI d) = some (nI (nbr c d))) ∨ ((nbr c d = 256 ∨ (nbr c d < 256 ∧ (ρ 0 ≤ nbr c d / 16 ∨ ρ 1 ≤ nbr c d % 16))) ∧ fX9_stepped I (nI c) (nI d) = some (-5)) := by
  have hd4 : d = 0 ∨ d = 1 ∨ d = 2 ∨ d = 3 := by omega
  have l16 : (16 : Int32) = nI 16 := rfl
  have l1 : (1 : Int32) = nI 1 := rfl
  have l2 : (2 : Int32) = nI 2 := rfl
  have l3 : (3 : Int32) = nI 3 := rfl
  have l0 : (0 : Int32) = nI 0 := rfl
  have key : ∀ (a b : Nat), a < 2 ^ 31 → b < 2 ^ 31 → ((a < ρ 0 ∧ b < ρ 1) → fX9_stepped_J47 I (nI a) (nI b) 0 = some (nI (16 * a + b))) ∧ (¬ (a < ρ 0 ∧ b < ρ 1) → fX9_stepped_J47 I (nI a) (nI b) 0 = some (-5)) := by
    intro a b ha hb
    have hz : nI b + 0 = nI b := by rw [l0, nI_add]; rfl
    unfold fX9_stepped_J47
    rw [hz]
    constructor
    · intro q
      rw [(isCell_sp h hB _ _).1 ((okC_nn ha hb).mpr q), bd1, ifn (show ¬ (1 : Int32) = 0 by decide), l16, pk_mul, nI_add]
    · intro q
      rw [(isCell_sp h hB _ _).2 (fun z => q ((okC_nn ha hb).mp z)), bd1, ifp rfl]
  have keyP : ∀ (a b : Nat), a < 2 ^ 31 → b + 1 < 2 ^ 31 → ((a < ρ 0 ∧ b + 1 < ρ 1) → fX9_stepped_J47 I (nI a) (nI b) 1 = some (nI (16 * a + (b + 1)))) ∧ (¬ (a < ρ 0 ∧ b + 1 < ρ 1) → fX9_stepped_J47 I (nI a) (nI b) 1 = some (-5)) := by
    intro a b ha hb
    unfold fX9_stepped_J47
    rw [nI_1]
    constructor
    · intro q
      rw [(isCell_sp h hB _ _).1 ((okC_nn ha hb).mpr q), bd1, ifn (show ¬ (1 : Int32) = 0 by decide), l16, pk_mul, nI_add]
    · intro q
      rw [(isCell_sp h hB _ _).2 (fun z => q ((okC_nn ha hb).mp z)), bd1, ifp rfl]
  have keyM : ∀ (a b : Nat), a < 2 ^ 31 → b < 2 ^ 31 → ((a < ρ 0 ∧ 0 < b ∧ b - 1 < ρ 1) → fX9_stepped_J47 I (nI a) (nI b) (-1) = some (nI (16 * a + (b - 1)))) ∧ (¬ (a < ρ 0 ∧ 0 < b ∧ b - 1 < ρ 1) → fX9_stepped_J47 I (nI a) (nI b) (-1) = some (-5)) := by
    intro a b ha hb
    unfold fX9_stepped_J47
    rcases Nat.eq_zero_or_pos b with rfl | hp
    · refine ⟨fun q => by omega, fun _ => ?_⟩
      rw [(isCell_sp h hB _ _).2 (fun z => by
        have h2 := z.2.1
        rw [show nI 0 + (-1) = (-1 : Int32) by decide] at h2
        exact absurd h2 (by decide)), bd1, ifp rfl]
    · obtain ⟨b', rfl⟩ : ∃ b', b = b' + 1 := ⟨b - 1, by omega⟩
      rw [pk_m1]
      constructor
      · intro q
        have q3 : b' < ρ 1 := by omega
        rw [(isCell_sp h hB _ _).1 ((okC_nn ha (show b' < 2 ^ 31 by omega)).mpr ⟨q.1, q3⟩), bd1, ifn (show ¬ (1 : Int32) = 0 by decide), l16, pk_mul, nI_add]
        rfl
      · intro q
        rw [(isCell_sp h hB _ _).2 (fun z => q (by
          have z2 := (okC_nn ha (show b' < 2 ^ 31 by omega)).mp z
          exact ⟨z2.1, by omega, by omega⟩)), bd1, ifp rfl]
  have ed : nI c / 16 = nI (c / 16) := pk_div (d := 16) (by omega) (by omega) (by omega)
  have em : rm (nI c) 16 = nI (c % 16) := rmN (d := 16) (by omega) (by omega) (by omega)
  have a0 : ∀ n : Nat, nI n + 0 = nI n := fun n => by rw [l0, nI_add]; rfl
  unfold fX9_stepped fX9_stepped_J22
  rw [ed, em]
  rcases hd4 with rfl | rfl | rfl | rfl
  · -- north
    rw [ifp (show ¬ nI 0 = (2 : Int32) by decide), ifn (show ¬ ¬ nI 0 = (0 : Int32) by decide), ifp (show ¬ nI 0 = (1 : Int32) by decide), ifp (show ¬ nI 0 = (3 : Int32) by decide)]
    by_cases h0 : c < 16
    · right
      have hz : c / 16 = 0 := by omega
      refine ⟨Or.inl (by unfold nbr; rw [if_pos rfl, if_pos h0]), ?_⟩
      unfold fX9_stepped_J47
      rw [hz, (isCell_sp h hB _ _).2 (fun z => by
        have h2 := z.1.1
        rw [show nI 0 + (-1) = (-1 : Int32) by decide] at h2
        exact absurd h2 (by decide)), bd1, ifp rfl]
    · left
      have hn : nbr c 0 = c - 16 := by unfold nbr; rw [if_pos rfl, if_neg h0]
      obtain ⟨q, hq⟩ : ∃ q, c / 16 = q + 1 := ⟨c / 16 - 1, by omega⟩
      rw [hn, hq, pk_m1]
      refine ⟨by omega, by omega, by omega, ?_⟩
      rw [(key q (c % 16) (by omega) (by omega)).1 ⟨by omega, hcc⟩, show 16 * q + c % 16 = c - 16 by omega]
  · -- east
    rw [ifp (show ¬ nI 1 = (2 : Int32) by decide), ifp (show ¬ nI 1 = (0 : Int32) by decide), ifn (show ¬ ¬ nI 1 = (1 : Int32) by decide), a0]
    have hk := keyP (c / 16) (c % 16) (by omega) (by omega)
    by_cases h1 : c % 16 + 1 < ρ 1
    · left
      have hn : nbr c 1 = c + 1 := by unfold nbr; rw [if_neg (by omega), if_pos rfl, if_neg (by have := hB.2.1.2; omega)]
      rw [hn]
      refine ⟨by have := hB.1.2; have := hB.2.1.2; omega, by have := hB.2.1.2; omega, by have := hB.2.1.2; omega, ?_⟩
      rw [hk.1 ⟨by omega, h1⟩, show 16 * (c / 16) + (c % 16 + 1) = c + 1 by omega]
    · right
      refine ⟨?_, hk.2 (fun z => h1 z.2)⟩
      unfold nbr
      rw [if_neg (by omega), if_pos rfl]
      by_cases h15 : c % 16 = 15
      · rw [if_pos h15]; exact Or.inl rfl
      · rw [if_neg h15]
        exact Or.inr ⟨by omega, Or.inr (by omega)⟩
  · -- south
    rw [ifn (show ¬ ¬ nI 2 = (2 : Int32) by decide), ifp (show ¬ nI 2 = (1 : Int32) by decide), ifp (show ¬ nI 2 = (3 : Int32) by decide), nI_1]
    have hk := key (c / 16 + 1) (c % 16) (by omega) (by omega)
    by_cases h1 : c / 16 + 1 < ρ 0
    · left
      have hn : nbr c 2 = c + 16 := by unfold nbr; rw [if_neg (by omega), if_neg (by omega), if_pos rfl, if_neg (by have := hB.1.2; omega)]
      rw [hn]
      refine ⟨by have := hB.1.2; omega, by omega, by omega, ?_⟩
      rw [hk.1 ⟨h1, hcc⟩, show 16 * (c / 16 + 1) + c % 16 = c + 16 by omega]
    · right
      refine ⟨?_, hk.2 (fun z => h1 z.1)⟩
      unfold nbr
      rw [if_neg (by omega), if_neg (by omega), if_pos rfl]
      by_cases h15 : 240 ≤ c
      · rw [if_pos h15]; exact Or.inl rfl
      · rw [if_neg h15]
        exact Or.inr ⟨by omega, Or.inl (by omega)⟩
  · -- west
    rw [ifp (show ¬ nI 3 = (2 : Int32) by decide), ifp (show ¬ nI 3 = (0 : Int32) by decide), ifp (show ¬ nI 3 = (1 : Int32) by decide), ifn (show ¬ ¬ nI 3 = (3 : Int32) by decide), a0]
    have hk := keyM (c / 16) (c % 16) (by omega) (by omega)
    by_cases h1 : c % 16 = 0
    · right
      refine ⟨Or.inl (by unfold nbr; rw [if_neg (by omega), if_neg (by omega), if_neg (by omega), if_pos h1]), hk.2 (fun z => by omega)⟩
    · left
      have hn : nbr c 3 = c - 1 := by unfold nbr; rw [if_neg (by omega), if_neg (by omega), if_neg (by omega), if_neg h1]
      rw [hn]
      refine ⟨by omega, by omega, by omega, ?_⟩
      rw [hk.1 ⟨by omega, by omega, by omega⟩, show 16 * (c / 16) + (c % 16 - 1) = c - 1 by omega]
theorem mxe_ins {g : Nat → Nat} {p : Nat → Prop} {n c : Nat} (hc : c < n) : mxe g (fun i => p i ∨ i = c) n = max (mxe g p n) (g c) := by
  refine Nat.le_antisymm ((mxe_le n).mpr (fun i hi hp => ?_)) (Nat.max_le.mpr ⟨(mxe_le n).mpr (fun i hi hp => (mxe_le n).mp (Nat.le_refl _) i hi (Or.inl hp)), (mxe_le n).mp (Nat.le_refl _) c hc (Or.inr rfl)⟩)
  rcases hp with hp | rfl
  · exact Nat.le_trans ((mxe_le n).mp (Nat.le_refl _) i hi hp) (Nat.le_max_left _ _)
  · exact Nat.le_max_right _ _
theorem mxe_congr {g : Nat → Nat} {p q : Nat → Prop} : ∀ (n : Nat), (∀ i, i < n → (p i ↔ q i)) → mxe g p n = mxe g q n
  | 0, _ => rfl
  | n + 1, h => by
    show Nat.max (mxe g p n) (dd (p n) * g n) = Nat.max (mxe g q n) (dd (q n) * g n)
    rw [mxe_congr n (fun i hi => h i (by omega)), dd_c (h n (by omega))]
