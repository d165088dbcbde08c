/-! the order of the heaps -/
def AH (g : Nat → Nat) (x h : Nat) : Prop := szF g h < szF g x ∨ (szF g x = szF g h ∧ (cnF g x < cnF g h ∨ (cnF g x = cnF g h ∧ x < h)))
noncomputable def Plc (g : Nat → Nat) (h : Nat) : Nat := cnt (fun x => AH g x h) (mF g)
theorem sm_bound {f : Nat → Nat} {b : Nat} : ∀ (n : Nat), (∀ i, i < n → f i ≤ b) → sm f n ≤ n * b
  | 0, _ => by
    show 0 ≤ 0 * b
    omega
  | n + 1, h => by
    show sm f n + f n ≤ (n + 1) * b
    have h1 := sm_bound n (fun i hi => h i (by omega))
    have h2 := h n (by omega)
    rw [Nat.succ_mul]
    omega
theorem szF_le {g : Nat → Nat} (hb : ∀ c, c < 256 → g c ≤ 99) (h : Nat) : szF g h ≤ 25344 := by
  refine sm_bound (b := 99) 256 (fun i hi => ?_)
  have h1 := dd_le (Conn g (rtAt g h) i)
  have h2 := hb i hi
  have : dd (Conn g (rtAt g h) i) = 0 ∨ dd (Conn g (rtAt g h) i) = 1 := by omega
  rcases this with e | e <;> rw [e] <;> omega
theorem cnF_le (g : Nat → Nat) (h : Nat) : cnF g h ≤ 256 := cnt_le _ _
theorem ahead_C {g : Nat → Nat} {I : II} (hb : ∀ c, c < 256 → g c ≤ 99) (hC : CH I g) {x h : Nat} (hx : x < mF g) (hh : h < mF g) : (AH g x h → fX0_comesAhead I (nI x) (nI h) = some 1) ∧ (¬ AH g x h → fX0_comesAhead I (nI x) (nI h) = some 0) := by
  have hm := mF_le g
  have a1 := szF_le hb x
  have a2 := szF_le hb h
  have a3 := cnF_le g x
  have a4 := cnF_le g h
  obtain ⟨x1, x2, x3⟩ := hC.2.2 x hx
  obtain ⟨y1, y2, y3⟩ := hC.2.2 h hh
  have l128 : ∀ z, z < 128 → ¬ (128 : Int32) ≤ nI z := fun z hz q => by
    have := (nI_leI (a := 128) (b := z) (by omega) (by omega)).mp q
    omega
  unfold fX0_comesAhead
  rw [ifn (nI_pos (by omega)), ifn (l128 x (by omega)), ifn (nI_pos (by omega)), ifp (show nI h < (128 : Int32) from nI_lt (a := h) (b := 128) (by omega) (by omega)), tnN (show x < 2 ^ 31 by omega), tnN (show h < 2 ^ 31 by omega), x1, x2, y1, y2]
  simp only [ckN (show x < 128 by omega) (show 128 < 2 ^ 31 by omega), ckN (show h < 128 by omega) (show 128 < 2 ^ 31 by omega), nI_eq (show szF g x < 2 ^ 31 by omega) (show szF g h < 2 ^ 31 by omega), nI_eq (show cnF g x < 2 ^ 31 by omega) (show cnF g h < 2 ^ 31 by omega), nI_leI (show h < 2 ^ 31 by omega) (show x < 2 ^ 31 by omega), nI_leI (show cnF g h < 2 ^ 31 by omega) (show cnF g x < 2 ^ 31 by omega), nI_leI (show szF g x < 2 ^ 31 by omega) (show szF g h < 2 ^ 31 by omega)]
  unfold AH
  by_cases e1 : szF g x = szF g h
  · rw [ifp e1]
    by_cases e2 : cnF g x = cnF g h
    · rw [ifp e2]
      by_cases e3 : h ≤ x
      · rw [ifp e3]
        exact ⟨fun z => by omega, fun _ => rfl⟩
      · rw [ifn e3]
        exact ⟨fun _ => rfl, fun z => by omega⟩
    · rw [ifn e2]
      by_cases e3 : cnF g h ≤ cnF g x
      · rw [ifp e3]
        exact ⟨fun z => by omega, fun _ => rfl⟩
      · rw [ifn e3]
        exact ⟨fun _ => rfl, fun z => by omega⟩
  · rw [ifn e1]
    by_cases e3 : szF g x ≤ szF g h
    · rw [ifp e3]
      exact ⟨fun z => by omega, fun _ => rfl⟩
    · rw [ifn e3]
      exact ⟨fun _ => rfl, fun z => by omega⟩
theorem cnt_succ {p : Nat → Prop} {n : Nat} : cnt p (n + 1) = cnt p n + dd (p n) := rfl
theorem place_C {g : Nat → Nat} {I : II} (hb : ∀ c, c < 256 → g c ≤ 99) (hC : CH I g) {h : Nat} (hh : h < mF g) : fX0_placeOf I (nI h) = some (nI (Plc g h)) := by
  have hm := mF_le g
  have key : ∀ (m j fuel : Nat), j + m = mF g → m < fuel → fX0_placeOf_L4 fuel (fun z4 => some z4) (nI h) I (nI (cnt (fun x => AH g x h) j)) (nI j) = some (nI (Plc g h)) := by
    intro m
    induction m with
    | zero =>
      intro j fuel hj hf
      obtain ⟨f, rfl⟩ : ∃ f, fuel = f + 1 := ⟨fuel - 1, by omega⟩
      have e : j = mF g := by omega
      rw [fX0_placeOf_L4, hC.1, ifp (nI_le (by omega) (by omega)), e]
      rfl
    | succ m ih =>
      intro j fuel hj hf
      obtain ⟨f, rfl⟩ : ∃ f, fuel = f + 1 := ⟨fuel - 1, by omega⟩
      rw [fX0_placeOf_L4, hC.1, ifn (nI_ge (show j < mF g by omega) (by omega))]
      have ha := ahead_C hb hC (x := j) (by omega) hh
      have := ih (j + 1) f (by omega) (by omega)
      rw [cnt_succ] at this
      by_cases hA : AH g j h
      · rw [ha.1 hA, bd1, ifn (show ¬ (1 : Int32) = 0 by decide), nI_1, nI_1]
        rw [dd_t hA] at this
        exact this
      · rw [ha.2 hA, bd1, ifp rfl, nI_1]
        rw [dd_f hA] at this
        exact this
  exact key (mF g) 0 2000 (by omega) (by omega)
theorem Plc_lt {g : Nat → Nat} {h : Nat} (hh : h < mF g) : Plc g h < mF g := cnt_lt hh (by unfold AH; omega)
theorem great_C {g : Nat → Nat} {I : II} (hb : ∀ c, c < 256 → g c ≤ 99) (hC : CH I g) {h : Nat} (hh : h < mF g) : (0 < Plc g h → fX0_isGreatest I (nI h) = some 0) ∧ (Plc g h = 0 → fX0_isGreatest I (nI h) = some 1) := by
  have hm := mF_le g
  have key : ∀ (m j fuel : Nat), j + m = mF g → m < fuel → cnt (fun x => AH g x h) j = 0 → (0 < Plc g h → fX0_isGreatest_L2 fuel (fun _ => (if (nI h) < 0 then some 0 else some 1)) (nI h) I (nI j) = some 0) ∧ (Plc g h = 0 → fX0_isGreatest_L2 fuel (fun _ => (if (nI h) < 0 then some 0 else some 1)) (nI h) I (nI j) = some 1) := by
    intro m
    induction m with
    | zero =>
      intro j fuel hj hf h0
      obtain ⟨f, rfl⟩ : ∃ f, fuel = f + 1 := ⟨fuel - 1, by omega⟩
      have e : j = mF g := by omega
      have hP : Plc g h = 0 := by
        unfold Plc
        rw [← e]
        exact h0
      rw [fX0_isGreatest_L2, hC.1, ifp (nI_le (by omega) (by omega)), ifn (nI_pos (by omega))]
      exact ⟨fun z => by omega, fun _ => rfl⟩
    | succ m ih =>
      intro j fuel hj hf h0
      obtain ⟨f, rfl⟩ : ∃ f, fuel = f + 1 := ⟨fuel - 1, by omega⟩
      rw [fX0_isGreatest_L2, hC.1, ifn (nI_ge (show j < mF g by omega) (by omega))]
      have ha := ahead_C hb hC (x := j) (by omega) hh
      by_cases hA : AH g j h
      · rw [ha.1 hA, bd1, ifn (show ¬ (1 : Int32) = 0 by decide)]
        refine ⟨fun _ => rfl, fun z => ?_⟩
        exfalso
        have h1 := sm_le_of (f := fun x => dd (AH g x h)) (m := j + 1) (n := mF g) (by omega)
        have h2 : sm (fun x => dd (AH g x h)) (j + 1) = cnt (fun x => AH g x h) j + dd (AH g j h) := rfl
        rw [dd_t hA] at h2
        have h3 : sm (fun x => dd (AH g x h)) (mF g) = Plc g h := rfl
        omega
      · rw [ha.2 hA, bd1, ifp rfl, nI_1]
        exact ih (j + 1) f (by omega) (by omega) (by rw [cnt_succ, dd_f hA, h0])
  exact key (mF g) 0 2000 (by omega) (by omega) rfl
