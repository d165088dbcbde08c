def rm (x y : Int32) : Int32 := x - x / y * y
def c16 (x : Int32) : Int32 := (x.toUInt32 % 65536).toInt32
def isB (x : Int32) : Prop := x = 0 ∨ x = 1
def isC (x : Int32) : Prop := vp_nar .char x = x ∧ narrow .char (.int x) = .int x
def layCL : List (Nat ⊕ (Nat × Nat)) := [.inl 8, .inl 7, .inl 4, .inr (0, 256), .inr (3, 8), .inl 5, .inr (0, 30), .inl 6, .inl 6, .inl 6, .inl 6, .inl 6, .inl 6, .inl 6, .inl 6, .inl 0, .inr (0, 128), .inr (0, 128), .inr (0, 128), .inr (0, 256), .inr (0, 256), .inl 1, .inr (4, 5), .inl 4, .inr (0, 256), .inr (3, 8), .inl 5, .inr (0, 30), .inl 6, .inl 6, .inl 6, .inl 6, .inl 6, .inl 6, .inl 6, .inl 6, .inl 4, .inr (0, 256), .inr (3, 8), .inl 5, .inr (0, 30), .inl 6, .inl 6, .inl 6, .inl 6, .inl 6, .inl 6, .inl 6, .inl 6, .inl 4, .inr (0, 256), .inr (3, 8), .inl 5, .inr (0, 30), .inl 6, .inl 6, .inl 6, .inl 6, .inl 6, .inl 6, .inl 6, .inl 6, .inl 4, .inr (0, 256), .inr (3, 8), .inl 5, .inr (0, 30), .inl 6, .inl 6, .inl 6, .inl 6, .inl 6, .inl 6, .inl 6, .inl 6, .inl 4, .inr (0, 256), .inr (3, 8), .inl 5, .inr (0, 30), .inl 6, .inl 6, .inl 6, .inl 6, .inl 6, .inl 6, .inl 6, .inl 6, .inl 2, .inr (1, 40), .inr (1, 40), .inr (0, 40), .inr (5, 2), .inl 3, .inl 4, .inr (0, 256), .inr (3, 8), .inl 5, .inr (0, 30), .inl 6, .inl 6, .inl 6, .inl 6, .inl 6, .inl 6, .inl 6, .inl 6, .inl 3, .inl 4, .inr (0, 256), .inr (3, 8), .inl 5, .inr (0, 30), .inl 6, .inl 6, .inl 6, .inl 6, .inl 6, .inl 6, .inl 6, .inl 6, .inl 4, .inr (0, 256), .inr (3, 8), .inl 5, .inr (0, 30), .inl 6, .inl 6, .inl 6, .inl 6, .inl 6, .inl 6, .inl 6, .inl 6]
def SB (b : Nat) : Prop := b = 2 ∨ b = 23 ∨ b = 36 ∨ b = 49 ∨ b = 62 ∨ b = 75 ∨ b = 94 ∨ b = 108 ∨ b = 121
def HB (b : Nat) : Prop := b = 23 ∨ b = 36 ∨ b = 49 ∨ b = 62 ∨ b = 75
def LB (b : Nat) : Prop := b = 93 ∨ b = 107
def TB (t : Nat) : Prop := ∃ b, SB b ∧ t = b + 3
def AB (t : Nat) : Prop := ∃ b, SB b ∧ t = b + 1
def WB (t : Nat) : Prop := ∃ b j, SB b ∧ j < 8 ∧ t = b + 5 + j
def hq (P : PP) (i : Nat) : Nat := (P 22 i).getD 0
def PC (P : PP) : Prop := (P 0 0 = some 1 ∧ P 0 1 = some 21 ∧ P 0 2 = some 88 ∧ P 0 3 = some 92 ∧ P 0 4 = some 121 ∧ P 1 0 = some 2 ∧ P 1 1 = some 15 ∧ P 15 0 = some 16 ∧ P 15 1 = some 17 ∧ P 15 2 = some 18 ∧ P 15 3 = some 19 ∧ P 15 4 = some 20 ∧ P 21 0 = some 22 ∧ P 88 0 = some 89 ∧ P 88 2 = some 90 ∧ P 88 3 = some 91 ∧ P 92 0 = some 93 ∧ P 92 1 = some 107 ∧ P 93 0 = some 94 ∧ P 107 0 = some 108) ∧ (∀ b, SB b → P b 2 = some (b + 1) ∧ P b 3 = some (b + 2) ∧ P b 5 = some (b + 3) ∧ P (b + 3) 0 = some (b + 4) ∧ ∀ j, j < 8 → P (b + 2) j = some (b + 5 + j)) ∧ ∀ i, i < 5 → ∃ b, HB b ∧ P 22 i = some b
def ShC (n : Nat) (Ly : LL) (P : PP) : Prop := 134 ≤ n ∧ (∀ k, k < 134 → Ly k = layCL.getD k (.inl 0)) ∧ PC P
theorem HB.sb {b : Nat} (h : HB b) : SB b := by unfold HB at h; unfold SB; omega
theorem sb2 : SB 2 := by unfold SB; omega
theorem sb23 : SB 23 := by unfold SB; omega
theorem sb36 : SB 36 := by unfold SB; omega
theorem sb49 : SB 49 := by unfold SB; omega
theorem sb62 : SB 62 := by unfold SB; omega
theorem sb75 : SB 75 := by unfold SB; omega
theorem sb94 : SB 94 := by unfold SB; omega
theorem sb108 : SB 108 := by unfold SB; omega
theorem sb121 : SB 121 := by unfold SB; omega
theorem vp_lt {x : Int32} {n : Nat} (h : vp_in x n) : x.toNatClampNeg < n := Nat.not_le.mp fun q => h (Or.inr q)
theorem nb_of {x : Int32} (h : isB x) : narrow .boolean (.int x) = .int x ∧ fits .boolean (.int x) = true := by rcases h with rfl | rfl <;> exact ⟨rfl, rfl⟩
theorem nz_of {x : Int32} (h : isB x) : vp_nar .boolean x = x := by rcases h with rfl | rfl <;> rfl
section SH
variable {n : Nat} {Ly : LL} {P : PP}
theorem ly0 (hs : ShC n Ly P) : Ly 0 = .inl 8 := (hs.2.1 0 (Nat.le_of_ble_eq_true rfl)).trans rfl
theorem lt0 (hs : ShC n Ly P) : 0 < n := Nat.lt_of_lt_of_le (Nat.le_of_ble_eq_true rfl : 0 < 134) hs.1
theorem ly1 (hs : ShC n Ly P) : Ly 1 = .inl 7 := (hs.2.1 1 (Nat.le_of_ble_eq_true rfl)).trans rfl
theorem lt1 (hs : ShC n Ly P) : 1 < n := Nat.lt_of_lt_of_le (Nat.le_of_ble_eq_true rfl : 1 < 134) hs.1
theorem ly15 (hs : ShC n Ly P) : Ly 15 = .inl 0 := (hs.2.1 15 (Nat.le_of_ble_eq_true rfl)).trans rfl
theorem lt15 (hs : ShC n Ly P) : 15 < n := Nat.lt_of_lt_of_le (Nat.le_of_ble_eq_true rfl : 15 < 134) hs.1
theorem ly16 (hs : ShC n Ly P) : Ly 16 = .inr (0, 128) := (hs.2.1 16 (Nat.le_of_ble_eq_true rfl)).trans rfl
theorem lt16 (hs : ShC n Ly P) : 16 < n := Nat.lt_of_lt_of_le (Nat.le_of_ble_eq_true rfl : 16 < 134) hs.1
theorem ly17 (hs : ShC n Ly P) : Ly 17 = .inr (0, 128) := (hs.2.1 17 (Nat.le_of_ble_eq_true rfl)).trans rfl
theorem lt17 (hs : ShC n Ly P) : 17 < n := Nat.lt_of_lt_of_le (Nat.le_of_ble_eq_true rfl : 17 < 134) hs.1
theorem ly18 (hs : ShC n Ly P) : Ly 18 = .inr (0, 128) := (hs.2.1 18 (Nat.le_of_ble_eq_true rfl)).trans rfl
theorem lt18 (hs : ShC n Ly P) : 18 < n := Nat.lt_of_lt_of_le (Nat.le_of_ble_eq_true rfl : 18 < 134) hs.1
theorem ly19 (hs : ShC n Ly P) : Ly 19 = .inr (0, 256) := (hs.2.1 19 (Nat.le_of_ble_eq_true rfl)).trans rfl
theorem lt19 (hs : ShC n Ly P) : 19 < n := Nat.lt_of_lt_of_le (Nat.le_of_ble_eq_true rfl : 19 < 134) hs.1
theorem ly20 (hs : ShC n Ly P) : Ly 20 = .inr (0, 256) := (hs.2.1 20 (Nat.le_of_ble_eq_true rfl)).trans rfl
theorem lt20 (hs : ShC n Ly P) : 20 < n := Nat.lt_of_lt_of_le (Nat.le_of_ble_eq_true rfl : 20 < 134) hs.1
theorem ly21 (hs : ShC n Ly P) : Ly 21 = .inl 1 := (hs.2.1 21 (Nat.le_of_ble_eq_true rfl)).trans rfl
theorem lt21 (hs : ShC n Ly P) : 21 < n := Nat.lt_of_lt_of_le (Nat.le_of_ble_eq_true rfl : 21 < 134) hs.1
theorem ly22 (hs : ShC n Ly P) : Ly 22 = .inr (4, 5) := (hs.2.1 22 (Nat.le_of_ble_eq_true rfl)).trans rfl
theorem lt22 (hs : ShC n Ly P) : 22 < n := Nat.lt_of_lt_of_le (Nat.le_of_ble_eq_true rfl : 22 < 134) hs.1
theorem ly88 (hs : ShC n Ly P) : Ly 88 = .inl 2 := (hs.2.1 88 (Nat.le_of_ble_eq_true rfl)).trans rfl
theorem lt88 (hs : ShC n Ly P) : 88 < n := Nat.lt_of_lt_of_le (Nat.le_of_ble_eq_true rfl : 88 < 134) hs.1
theorem ly89 (hs : ShC n Ly P) : Ly 89 = .inr (1, 40) := (hs.2.1 89 (Nat.le_of_ble_eq_true rfl)).trans rfl
theorem lt89 (hs : ShC n Ly P) : 89 < n := Nat.lt_of_lt_of_le (Nat.le_of_ble_eq_true rfl : 89 < 134) hs.1
theorem ly90 (hs : ShC n Ly P) : Ly 90 = .inr (1, 40) := (hs.2.1 90 (Nat.le_of_ble_eq_true rfl)).trans rfl
theorem lt90 (hs : ShC n Ly P) : 90 < n := Nat.lt_of_lt_of_le (Nat.le_of_ble_eq_true rfl : 90 < 134) hs.1
theorem ly91 (hs : ShC n Ly P) : Ly 91 = .inr (0, 40) := (hs.2.1 91 (Nat.le_of_ble_eq_true rfl)).trans rfl
theorem lt91 (hs : ShC n Ly P) : 91 < n := Nat.lt_of_lt_of_le (Nat.le_of_ble_eq_true rfl : 91 < 134) hs.1
theorem ly92 (hs : ShC n Ly P) : Ly 92 = .inr (5, 2) := (hs.2.1 92 (Nat.le_of_ble_eq_true rfl)).trans rfl
theorem lt92 (hs : ShC n Ly P) : 92 < n := Nat.lt_of_lt_of_le (Nat.le_of_ble_eq_true rfl : 92 < 134) hs.1
theorem p0_0 (hs : ShC n Ly P) : P 0 0 = some 1 := hs.2.2.1.1
theorem p0_1 (hs : ShC n Ly P) : P 0 1 = some 21 := hs.2.2.1.2.1
theorem p0_2 (hs : ShC n Ly P) : P 0 2 = some 88 := hs.2.2.1.2.2.1
theorem p0_3 (hs : ShC n Ly P) : P 0 3 = some 92 := hs.2.2.1.2.2.2.1
theorem p0_4 (hs : ShC n Ly P) : P 0 4 = some 121 := hs.2.2.1.2.2.2.2.1
theorem p1_0 (hs : ShC n Ly P) : P 1 0 = some 2 := hs.2.2.1.2.2.2.2.2.1
theorem p1_1 (hs : ShC n Ly P) : P 1 1 = some 15 := hs.2.2.1.2.2.2.2.2.2.1
theorem p15_0 (hs : ShC n Ly P) : P 15 0 = some 16 := hs.2.2.1.2.2.2.2.2.2.2.1
theorem p15_1 (hs : ShC n Ly P) : P 15 1 = some 17 := hs.2.2.1.2.2.2.2.2.2.2.2.1
theorem p15_2 (hs : ShC n Ly P) : P 15 2 = some 18 := hs.2.2.1.2.2.2.2.2.2.2.2.2.1
theorem p15_3 (hs : ShC n Ly P) : P 15 3 = some 19 := hs.2.2.1.2.2.2.2.2.2.2.2.2.2.1
theorem p15_4 (hs : ShC n Ly P) : P 15 4 = some 20 := hs.2.2.1.2.2.2.2.2.2.2.2.2.2.2.1
theorem p21_0 (hs : ShC n Ly P) : P 21 0 = some 22 := hs.2.2.1.2.2.2.2.2.2.2.2.2.2.2.2.1
theorem p88_0 (hs : ShC n Ly P) : P 88 0 = some 89 := hs.2.2.1.2.2.2.2.2.2.2.2.2.2.2.2.2.1
theorem p88_2 (hs : ShC n Ly P) : P 88 2 = some 90 := hs.2.2.1.2.2.2.2.2.2.2.2.2.2.2.2.2.2.1
theorem p88_3 (hs : ShC n Ly P) : P 88 3 = some 91 := hs.2.2.1.2.2.2.2.2.2.2.2.2.2.2.2.2.2.2.1
theorem p92_0 (hs : ShC n Ly P) : P 92 0 = some 93 := hs.2.2.1.2.2.2.2.2.2.2.2.2.2.2.2.2.2.2.2.1
theorem p92_1 (hs : ShC n Ly P) : P 92 1 = some 107 := hs.2.2.1.2.2.2.2.2.2.2.2.2.2.2.2.2.2.2.2.2.1
theorem p93_0 (hs : ShC n Ly P) : P 93 0 = some 94 := hs.2.2.1.2.2.2.2.2.2.2.2.2.2.2.2.2.2.2.2.2.2.1
theorem p107_0 (hs : ShC n Ly P) : P 107 0 = some 108 := hs.2.2.1.2.2.2.2.2.2.2.2.2.2.2.2.2.2.2.2.2.2.2
theorem lyS (hs : ShC n Ly P) {b : Nat} (h : SB b) : Ly (b) = .inl 4 := by
  rcases h with rfl | rfl | rfl | rfl | rfl | rfl | rfl | rfl | rfl <;> exact (hs.2.1 _ (Nat.le_of_ble_eq_true rfl)).trans rfl
theorem lyS1 (hs : ShC n Ly P) {b : Nat} (h : SB b) : Ly (b + 1) = .inr (0, 256) := by
  rcases h with rfl | rfl | rfl | rfl | rfl | rfl | rfl | rfl | rfl <;> exact (hs.2.1 _ (Nat.le_of_ble_eq_true rfl)).trans rfl
theorem lyS2 (hs : ShC n Ly P) {b : Nat} (h : SB b) : Ly (b + 2) = .inr (3, 8) := by
  rcases h with rfl | rfl | rfl | rfl | rfl | rfl | rfl | rfl | rfl <;> exact (hs.2.1 _ (Nat.le_of_ble_eq_true rfl)).trans rfl
theorem lyS3 (hs : ShC n Ly P) {b : Nat} (h : SB b) : Ly (b + 3) = .inl 5 := by
  rcases h with rfl | rfl | rfl | rfl | rfl | rfl | rfl | rfl | rfl <;> exact (hs.2.1 _ (Nat.le_of_ble_eq_true rfl)).trans rfl
theorem lyS4 (hs : ShC n Ly P) {b : Nat} (h : SB b) : Ly (b + 4) = .inr (0, 30) := by
  rcases h with rfl | rfl | rfl | rfl | rfl | rfl | rfl | rfl | rfl <;> exact (hs.2.1 _ (Nat.le_of_ble_eq_true rfl)).trans rfl
theorem ltS (hs : ShC n Ly P) {b k : Nat} (h : SB b) (hk : k ≤ 12) : b + k < n := by
  have := hs.1
  unfold SB at h
  omega
theorem ltSb (hs : ShC n Ly P) {b : Nat} (h : SB b) : b < n := ltS (k := 0) hs h (by omega)
theorem ltS1 (hs : ShC n Ly P) {b : Nat} (h : SB b) : b + 1 < n := ltS (k := 1) hs h (by omega)
theorem ltS2 (hs : ShC n Ly P) {b : Nat} (h : SB b) : b + 2 < n := ltS (k := 2) hs h (by omega)
theorem ltS3 (hs : ShC n Ly P) {b : Nat} (h : SB b) : b + 3 < n := ltS (k := 3) hs h (by omega)
theorem ltS4 (hs : ShC n Ly P) {b : Nat} (h : SB b) : b + 4 < n := ltS (k := 4) hs h (by omega)
theorem lyW (hs : ShC n Ly P) {w : Nat} (h : WB w) : Ly w = .inl 6 := by
  obtain ⟨b, j, hb, hj, rfl⟩ := h
  have hj : j = 0 ∨ j = 1 ∨ j = 2 ∨ j = 3 ∨ j = 4 ∨ j = 5 ∨ j = 6 ∨ j = 7 := by omega
  rcases hb with rfl | rfl | rfl | rfl | rfl | rfl | rfl | rfl | rfl <;> rcases hj with rfl | rfl | rfl | rfl | rfl | rfl | rfl | rfl <;> exact (hs.2.1 _ (Nat.le_of_ble_eq_true rfl)).trans rfl
theorem ltW (hs : ShC n Ly P) {w : Nat} (h : WB w) : w < n := by
  obtain ⟨b, j, hb, hj, rfl⟩ := h
  have := ltS (k := 5 + j) hs hb (by omega)
  omega
theorem lyT (hs : ShC n Ly P) {t : Nat} (h : TB t) : Ly t = .inl 5 := by
  obtain ⟨b, hb, rfl⟩ := h
  exact lyS3 hs hb
theorem ltT (hs : ShC n Ly P) {t : Nat} (h : TB t) : t < n := by
  obtain ⟨b, hb, rfl⟩ := h
  exact ltS3 hs hb
theorem lyT1 (hs : ShC n Ly P) {t : Nat} (h : TB t) : Ly (t + 1) = .inr (0, 30) := by
  obtain ⟨b, hb, rfl⟩ := h
  exact lyS4 hs hb
theorem ltT1 (hs : ShC n Ly P) {t : Nat} (h : TB t) : t + 1 < n := by
  obtain ⟨b, hb, rfl⟩ := h
  exact ltS4 hs hb
theorem lyA (hs : ShC n Ly P) {t : Nat} (h : AB t) : Ly t = .inr (0, 256) := by
  obtain ⟨b, hb, rfl⟩ := h
  exact lyS1 hs hb
theorem ltA (hs : ShC n Ly P) {t : Nat} (h : AB t) : t < n := by
  obtain ⟨b, hb, rfl⟩ := h
  exact ltS1 hs hb
theorem lyL (hs : ShC n Ly P) {a : Nat} (h : LB a) : Ly a = .inl 3 := by
  rcases h with rfl | rfl <;> exact (hs.2.1 _ (Nat.le_of_ble_eq_true rfl)).trans rfl
theorem ltL (hs : ShC n Ly P) {a : Nat} (h : LB a) : a < n := by
  have := hs.1
  unfold LB at h
  omega
theorem LB.sb {a : Nat} (h : LB a) : SB (a + 1) := by
  unfold LB at h
  unfold SB
  omega
theorem pS2 (hs : ShC n Ly P) {b : Nat} (h : SB b) : P b 2 = some (b + 1) := (hs.2.2.2.1 b h).1
theorem pS3 (hs : ShC n Ly P) {b : Nat} (h : SB b) : P b 3 = some (b + 2) := (hs.2.2.2.1 b h).2.1
theorem pS5 (hs : ShC n Ly P) {b : Nat} (h : SB b) : P b 5 = some (b + 3) := (hs.2.2.2.1 b h).2.2.1
theorem pT0 (hs : ShC n Ly P) {t : Nat} (h : TB t) : P t 0 = some (t + 1) := by
  obtain ⟨b, hb, rfl⟩ := h
  exact (hs.2.2.2.1 b hb).2.2.2.1
theorem pSW (hs : ShC n Ly P) {b j : Nat} (h : SB b) (hj : j < 8) : P (b + 2) j = some (b + 5 + j) := (hs.2.2.2.1 b h).2.2.2.2 j hj
theorem pL0 (hs : ShC n Ly P) {a : Nat} (h : LB a) : P a 0 = some (a + 1) := by
  rcases h with rfl | rfl
  · exact p93_0 hs
  · exact p107_0 hs
theorem pSl (hs : ShC n Ly P) {j : Nat} (h : j < 2) : P 92 j = some (93 + 14 * j) := by
  rcases (show j = 0 ∨ j = 1 by omega) with rfl | rfl
  · exact p92_0 hs
  · exact p92_1 hs
theorem lbSl {j : Nat} (h : j < 2) : LB (93 + 14 * j) := by
  unfold LB
  omega
theorem pH (hs : ShC n Ly P) {i : Nat} (h : i < 5) : P 22 i = some (hq P i) := by
  obtain ⟨b, -, hb⟩ := hs.2.2.2.2 i h
  unfold hq
  rw [hb]
  rfl
theorem hbH (hs : ShC n Ly P) {i : Nat} (h : i < 5) : HB (hq P i) := by
  obtain ⟨b, h1, hb⟩ := hs.2.2.2.2 i h
  unfold hq
  rw [hb]
  exact h1
theorem shC_up (hs : ShC n Ly P) {i v : Nat} (hv : HB v) : ShC n Ly (upP P 22 i (some v)) := by
  obtain ⟨h1, h2, h3, h4, h5⟩ := hs
  have go : ∀ a, a ≠ 22 → upP P 22 i (some v) a = P a := fun a ha => upP_n ha
  refine ⟨h1, h2, ?_, fun b hb => ?_, fun j hj => ?_⟩
  · simp only [go _ (show 0 ≠ 22 by decide), go _ (show 1 ≠ 22 by decide), go _ (show 15 ≠ 22 by decide), go _ (show 21 ≠ 22 by decide), go _ (show 88 ≠ 22 by decide), go _ (show 92 ≠ 22 by decide), go _ (show 93 ≠ 22 by decide), go _ (show 107 ≠ 22 by decide)]
    exact h3
  · have e1 : b ≠ 22 := by unfold SB at hb; omega
    have e2 : b + 3 ≠ 22 := by unfold SB at hb; omega
    have e3 : b + 2 ≠ 22 := by unfold SB at hb; omega
    rw [go _ e1, go _ e2, go _ e3]
    exact h4 b hb
  · by_cases e : j = i
    · subst e
      exact ⟨v, hv, by simp [upP]⟩
    · obtain ⟨b, hb1, hb2⟩ := h5 j hj
      exact ⟨b, hb1, by simp [upP, e, hb2]⟩
end SH
def PoD (r0 : Option AV) (n0 : Nat) (Ly0 : LL) (I0 : II) (P0 : PP) : PQ := fun r n Ly I P => r = r0 ∧ n = n0 ∧ Ly = Ly0 ∧ I = I0 ∧ P = P0
section CD
variable {X : Cx} {own : String} {cc : ByteArray} {nL d n pc : Nat} {Ly : LL} {lv : List (Option AV)} {st st' : List AV} {I I1 : II} {P P1 : PP} {idx : Nat} {md : MD} {av : List AV} {r0 : Option AV}
theorem s_cV {b ci : Nat} (F : Fx X own cc nL d 0 0) (hd : decode cc pc = .ok (.invokevirtual idx, 3)) (hC : ∀ (l : Launch) (s0 : Nat) (D : va_G) (DA : Nat → ClassId), Ct l s0 D DA md (.inr (some b) :: av) 0 0 n Ly I P (PoD r0 n Ly I1 P1)) (hk : LV own idx md) (hm : MDok md av.length) (hci : ci < 9) (hl : Ly b = .inl ci) (hb : b < n) (hcls : md.1.cls = RF ci) (hst : st' = av.reverse ++ .inr (some b) :: st) (hlen : st.length ≤ 8) (hdp : md.2.2.2.2 + 1 ≤ d) (kk : G X nL 0 0 n Ly (pc + 3) lv (r0.toList ++ st) I1 P1) : G X nL 0 0 n Ly pc lv st' I P :=
  s_callV F hd hC hk hm hci hl hb hcls hst hlen hdp (Nat.le_refl _) (Nat.le_refl _) (fun _ _ _ _ _ h => h.2.1) (fun r n' Ly' I' P' h => by obtain ⟨rfl, rfl, rfl, rfl, rfl⟩ := h; exact kk)
theorem s_cS (F : Fx X own cc nL d 0 0) (hd : decode cc pc = .ok (.invokestatic idx, 3)) (hC : ∀ (l : Launch) (s0 : Nat) (D : va_G) (DA : Nat → ClassId), Ct l s0 D DA md av 0 0 n Ly I P (PoD r0 n Ly I1 P1)) (hk : LT own idx md) (hm : MDok md av.length) (hst : st' = av.reverse ++ st) (hlen : st.length ≤ 8) (hdp : md.2.2.2.2 + 1 ≤ d) (kk : G X nL 0 0 n Ly (pc + 3) lv (r0.toList ++ st) I1 P1) : G X nL 0 0 n Ly pc lv st' I P :=
  s_callS F hd hC hk hm hst hlen hdp (Nat.le_refl _) (Nat.le_refl _) (fun _ _ _ _ _ h => h.2.1) (fun r n' Ly' I' P' h => by obtain ⟨rfl, rfl, rfl, rfl, rfl⟩ := h; exact kk)
theorem s_cSN {host : String} (F : Fx X own cc nL d 0 0) (hd : decode cc pc = .ok (.invokestatic idx, 3)) (hC : ∀ (l : Launch) (s0 : Nat) (D : va_G) (DA : Nat → ClassId), Ct l s0 D DA md av 0 0 n Ly I P (PoD r0 n Ly I1 P1)) (hk : (∀ U, Nst U → va_Nw (.methodLinkNest own idx md.1 host) U) ∧ Cond.static md.1 ∈ tg) (hm : MDok md av.length) (hst : st' = av.reverse ++ st) (hlen : st.length ≤ 8) (hdp : md.2.2.2.2 + 1 ≤ d) (kk : G X nL 0 0 n Ly (pc + 3) lv (r0.toList ++ st) I1 P1) : G X nL 0 0 n Ly pc lv st' I P :=
  s_callSN F hd hC hk hm hst hlen hdp (Nat.le_refl _) (Nat.le_refl _) (fun _ _ _ _ _ h => h.2.1) (fun r n' Ly' I' P' h => by obtain ⟨rfl, rfl, rfl, rfl, rfl⟩ := h; exact kk)
theorem s_rem (F : Fx X own cc nL d 0 0) {x y : Int32} (hd : decode cc pc = .ok (.irem, 1)) (hy : ¬ y = 0) (kk : G X nL 0 0 n Ly (pc + 1) lv (.inl (rm x y) :: st) I P) : G X nL 0 0 n Ly pc lv (.inl y :: .inl x :: st) I P := s_irem F hd hy kk
theorem s_c16 (F : Fx X own cc nL d 0 0) {x : Int32} (hd : decode cc pc = .ok (.i2c, 1)) (kk : G X nL 0 0 n Ly (pc + 1) lv (.inl (c16 x) :: st) I P) : G X nL 0 0 n Ly pc lv (.inl x :: st) I P := s_i2c F hd kk
theorem s_inc (F : Fx X own cc nL d 0 0) {k : Nat} {j : Int} {x c : Int32} (hd : decode cc pc = .ok (.iinc k j, 3)) (hl : lv[k]? = some (some (.inl x))) (hk : k < nL) (hc : Int32.ofInt j = c) (kk : G X nL 0 0 n Ly (pc + 3) (lv.set k (some (.inl (x + c)))) st I P) : G X nL 0 0 n Ly pc lv st I P := s_iinc F hd hl hk (by rw [hc]) kk
theorem s_swC (F : Fx X own cc nL d 0 0) {dflt lo hi : Int} {offs : Array Int} {len : Nat} {x c : Int32} {off : Int} {tgt : Nat} (hd : decode cc pc = .ok (.tableswitch dflt lo hi offs, len)) (h : x = c) (hc : (¬ c.toInt < lo ∧ ¬ hi < c.toInt) ∧ offs[(c.toInt - lo).toNat]? = some off ∧ (pc : Int) + off = (tgt : Int)) (kk : G X nL 0 0 n Ly tgt lv st I P) : G X nL 0 0 n Ly pc lv (.inl x :: st) I P := by
  subst h
  exact s_swIn F hd hc.1.1 hc.1.2 hc.2.1 hc.2.2 kk
end CD
