/-! both memories against one account of the whole: the row, the history, the slots, the text -/
abbrev AbS := (Nat → Nat) × (Nat × (Nat → Nat → Nat)) × ((Nat → Nat) × (Nat → Nat → Nat)) × (Nat × (Nat → Int32))
def HQ (P : PP) : Prop := (∀ i, i < 5 → HB (hq P i)) ∧ (∀ i j, i < 5 → j < 5 → hq P i = hq P j → i = j) ∧ PC P
def CI (I : II) (P : PP) (A : AbS) : Prop := CR I A.1 ∧ (HQ P ∧ I 21 1 = nI A.2.1.1 ∧ ∀ i, i < A.2.1.1 → CS I (hq P i) (A.2.1.2 i)) ∧ (∀ s, s < 2 → I (93 + 14 * s) 1 = nI (A.2.2.1.1 s) ∧ (A.2.2.1.1 s = 1 → CS I (94 + 14 * s) (A.2.2.1.2 s))) ∧ (I 88 1 = nI A.2.2.2.1 ∧ ∀ j, j < A.2.2.2.1 → I 89 j = A.2.2.2.2 j)
def GI (A : AbS) : Prop := Good A.1 ∧ (A.2.1.1 ≤ 5 ∧ ∀ i, i < A.2.1.1 → Good (A.2.1.2 i)) ∧ (∀ s, s < 2 → A.2.2.1.1 s ≤ 1 ∧ (A.2.2.1.1 s = 1 → Good (A.2.2.1.2 s))) ∧ (A.2.2.2.1 ≤ 40 ∧ ∀ j, j < A.2.2.2.1 → bC (A.2.2.2.2 j) = true)
def FrC (I I' : II) : Prop := ∀ a, 134 ≤ a → I' a = I a
def FrM (I I' : II) : Prop := ∀ a, a < 134 → I' a = I a
theorem FrC.rf {I : II} : FrC I I := fun _ _ => rfl
theorem FrM.rf {I : II} : FrM I I := fun _ _ => rfl
theorem FrC.tr {I J K : II} (h1 : FrC I J) (h2 : FrC J K) : FrC I K := fun a ha => (h2 a ha).trans (h1 a ha)
theorem FrM.tr {I J K : II} (h1 : FrM I J) (h2 : FrM J K) : FrM I K := fun a ha => (h2 a ha).trans (h1 a ha)
theorem FC.w {I J : II} (h : FC I J) : FrC I J := fun a ha => h a (by omega)
def reA (A : AbS) (ρ : Nat → Nat) : AbS := (ρ, A.2)
def neH (h : Nat) : Nat := if h < 5 then h + 1 else 5
def neE (ρ : Nat → Nat) (h : Nat) (η : Nat → Nat → Nat) : Nat → Nat → Nat := fun i => if h < 5 then (if i = h then ρ else η i) else (if i = 4 then ρ else η (i + 1))
def neA (A : AbS) (ρ : Nat → Nat) : AbS := (ρ, (neH A.2.1.1, neE A.1 A.2.1.1 A.2.1.2), A.2.2)
theorem GI.re {A : AbS} (h : GI A) {ρ : Nat → Nat} (hr : Good ρ) : GI (reA A ρ) := ⟨hr, h.2⟩
theorem GI.ne {A : AbS} (h : GI A) {ρ : Nat → Nat} (hr : Good ρ) : GI (neA A ρ) := by
  obtain ⟨h1, ⟨h2, h3⟩, h4⟩ := h
  refine ⟨hr, ⟨?_, fun i hi => ?_⟩, h4⟩
  · show neH A.2.1.1 ≤ 5
    unfold neH
    split <;> omega
  · have hi' : i < neH A.2.1.1 := hi
    show Good (neE A.1 A.2.1.1 A.2.1.2 i)
    unfold neH at hi'
    unfold neE
    by_cases q : A.2.1.1 < 5
    · rw [if_pos q] at hi' ⊢
      by_cases e : i = A.2.1.1
      · rw [if_pos e]; exact h1
      · rw [if_neg e]; exact h3 i (by omega)
    · rw [if_neg q] at hi' ⊢
      by_cases e : i = 4
      · rw [if_pos e]; exact h1
      · rw [if_neg e]; exact h3 _ (by omega)
theorem HB_n {b : Nat} (h : HB b) : 23 ≤ b ∧ b + 13 ≤ 88 := by unfold HB at h; omega
theorem CI.fc {I I' : II} {P : PP} {A : AbS} {ρ : Nat → Nat} (h : CI I P A) (hG : GI A) (hf : FC I I') (hr : CR I' ρ) : CI I' P (reA A ρ) := by
  obtain ⟨h1, ⟨h2, h3, h4⟩, h5, h6⟩ := h
  refine ⟨hr, ⟨h2, by rw [hf 21 (by omega)]; exact h3, fun i hi => ?_⟩, fun s hs => ⟨by rw [hf _ (by omega)]; exact (h5 s hs).1, fun hk => ?_⟩, by rw [hf 88 (by omega), hf 89 (by omega)]; exact h6⟩
  · have hi5 : i < 5 := Nat.lt_of_lt_of_le hi hG.2.1.1
    have := HB_n (h2.1 i hi5)
    exact (h4 i hi).fm (hG.2.1.2 i hi).2.1 (fun a _ _ => hf a (by omega))
  · exact ((h5 s hs).2 hk).fm ((hG.2.2.1 s hs).2 hk).2.1 (fun a _ _ => hf a (by omega))
theorem CI.fr {I I' : II} {P : PP} {A : AbS} (h : CI I P A) (hG : GI A) (hf : FrM I I') : CI I' P A := by
  obtain ⟨h1, ⟨h2, h3, h4⟩, h5, h6⟩ := h
  refine ⟨⟨h1.1.fm hG.1.2.1 (fun a _ _ => hf a (by omega)), h1.2.fm (fun a _ _ => hf a (by omega))⟩, ⟨h2, by rw [hf 21 (by omega)]; exact h3, fun i hi => ?_⟩, fun s hs => ⟨by rw [hf _ (by omega)]; exact (h5 s hs).1, fun hk => ?_⟩, by rw [hf 88 (by omega), hf 89 (by omega)]; exact h6⟩
  · have hi5 : i < 5 := Nat.lt_of_lt_of_le hi hG.2.1.1
    have := HB_n (h2.1 i hi5)
    exact (h4 i hi).fm (hG.2.1.2 i hi).2.1 (fun a _ _ => hf a (by omega))
  · exact ((h5 s hs).2 hk).fm ((hG.2.2.1 s hs).2 hk).2.1 (fun a _ _ => hf a (by omega))
/-! the class: one state onto another, and the history -/
theorem wcopy {I : II} {a b : Nat} (hab : b ≠ a) : ∃ I', fX6_copyFrom I a b = some I' ∧ (∀ f, f < 9 → I' a f = I b f) ∧ ∀ x, x ≠ a → I' x = I x := by
  refine ⟨_, rfl, fun f hf => ?_, fun x hx => ?_⟩
  · have hf' : f = 0 ∨ f = 1 ∨ f = 2 ∨ f = 3 ∨ f = 4 ∨ f = 5 ∨ f = 6 ∨ f = 7 ∨ f = 8 := by omega
    simp only [up2_at, up2_n hab]
    rcases hf' with e | e | e | e | e | e | e | e | e <;> subst e <;> simp
  · simp only [up2_n hx]
theorem walkerAt_b {I : II} {ρ : Nat → Nat} {b : Nat} (h : I b 4 = nI (ρ 2)) (g2 : ρ 2 ≤ 8) {w : Nat} (hw : w < ρ 2) : fX4_walkerAt I b (nI w) = some (some (b + 5 + w)) := by
  unfold fX4_walkerAt
  rw [h, ifn (fun z => by have := (nI_ltI (b := 0) (by omega) (by omega)).mp z; omega), ifn (fun z => by have := (leN (by omega) (by omega)).mp z; omega), ifp (show nI w < (8 : Int32) from (nI_ltI (b := 8) (by omega) (by omega)).mpr (by omega)), ckN (show w < 8 by omega) (by omega), tnN (show w < 2 ^ 31 by omega)]
theorem cp2_a {I : II} {a b n y : Nat} : cp2 I a b n b y = if y < n then I a y else I b y := by simp [cp2]
theorem cp2_n {I : II} {a b n x : Nat} (h : x ≠ b) : cp2 I a b n x = I x := by simp [cp2, h]
theorem tcopy {I : II} {a b r : Nat} (hab : a + 2 ≤ b ∨ b + 2 ≤ a) (hr : I b 3 = nI r) (h1 : r ≤ 1) : ∃ I', fX5_copyFrom I a b = some I' ∧ (I' a 1 = I b 1 ∧ I' a 2 = I b 2 ∧ I' a 3 = I b 3 ∧ ∀ t, t < 30 → I' (a + 1) t = I (b + 1) t) ∧ ∀ x, x ≠ a → x ≠ a + 1 → I' x = I x := by
  unfold fX5_copyFrom
  have hbb : bB (nI r) = true := by
    have : r = 0 ∨ r = 1 := by omega
    rcases this with e | e <;> subst e <;> rfl
  have e1 : ∀ {J : II}, cp2 J (b + 1) (a + 1) 30 b = J b := fun {J} => cp2_n (by omega)
  have hba : b ≠ a := by omega
  simp only [bd1, up2_n hba, e1, hr, hbb, ck_t]
  refine ⟨_, rfl, ⟨?_, ?_, ?_, fun t ht => ?_⟩, fun x hx hx1 => ?_⟩
  · rw [up2_b (by omega), up2_b (by omega), up2_a]
  · rw [up2_b (by omega), up2_a]
  · rw [up2_a]
  · rw [up2_n (by omega), up2_n (by omega), up2_n (by omega), cp2_a, if_pos ht]
  · rw [up2_n hx, up2_n hx, up2_n hx, cp2_n hx1]
theorem copy_C {I : II} {a b : Nat} {ρ : Nat → Nat} (hab : a + 13 ≤ b ∨ b + 13 ≤ a) (h : CS I b ρ) (g2 : ρ 2 ≤ 8) (g3 : ρ 3 ≤ 30) (g5 : ρ 5 ≤ 1) : ∃ I', fX4_copyFrom I a b = some I' ∧ CS I' a ρ ∧ ∀ x, (x < a ∨ a + 13 ≤ x) → I' x = I x := by
  obtain ⟨⟨a0, a1, a4, a6, a7⟩, h2, h3, h4, h5⟩ := h
  have ne : ∀ {x y : Nat}, x < 13 → y < 13 → b + x ≠ a + y := by intro x y hx hy; omega
  have neb : ∀ {y : Nat}, y < 13 → b ≠ a + y := by intro y hy; omega
  unfold fX4_copyFrom
  rw [bd1, bd1, bd1, bd1, up2_n (show b ≠ a by omega), cp2_n (neb (by omega)), up2_n (show b ≠ a by omega), up2_n (show b ≠ a by omega), a0, a1, a4]
  -- the walkers, one by one
  have lp : ∀ (ct : II → Option II) (n w : Nat) (K : II) (fu : Nat), w + n = ρ 2 → n < fu →
      (∀ x, (x < a ∨ a + 13 ≤ x) → K x = I x) → (K a 0 = nI (ρ 0) ∧ K a 1 = nI (ρ 1) ∧ K a 4 = nI (ρ 2)) → (∀ c, c < 256 → K (a + 1) c = nI (gR ρ c)) → (∀ u f, u < w → f < 9 → K (a + 5 + u) f = nI (ρ (wI u f))) →
      (∀ L, (∀ x, (x < a ∨ a + 13 ≤ x) → L x = I x) → (L a 0 = nI (ρ 0) ∧ L a 1 = nI (ρ 1) ∧ L a 4 = nI (ρ 2)) → (∀ c, c < 256 → L (a + 1) c = nI (gR ρ c)) → (∀ u f, u < ρ 2 → f < 9 → L (a + 5 + u) f = nI (ρ (wI u f))) → ∃ I', ct L = some I' ∧ CS I' a ρ ∧ ∀ x, (x < a ∨ a + 13 ≤ x) → I' x = I x) →
      ∃ I', fX4_copyFrom_L42 fu ct a b (nI w) K = some I' ∧ CS I' a ρ ∧ ∀ x, (x < a ∨ a + 13 ≤ x) → I' x = I x := by
    intro ct n
    induction n with
    | zero =>
      intro w K fu hw hf k1 k2 k3 k4 hct
      obtain ⟨fu, rfl⟩ : ∃ m, fu = m + 1 := ⟨fu - 1, by omega⟩
      show ∃ I', (if K a 4 ≤ nI w then ct K else _) = some I' ∧ _
      rw [k2.2.2, ifp ((leN (by omega) (by omega)).mpr (by omega))]
      exact hct K k1 k2 k3 (fun u f hu hf => k4 u f (by omega) hf)
    | succ n ih =>
      intro w K fu hw hf k1 k2 k3 k4 hct
      obtain ⟨fu, rfl⟩ : ∃ m, fu = m + 1 := ⟨fu - 1, by omega⟩
      have e1 := walkerAt_b k2.2.2 g2 (show w < ρ 2 by omega)
      have e2 := walkerAt_b (I := K) (b := b) (ρ := ρ) (by rw [k1 b (by omega)]; exact a4) g2 (show w < ρ 2 by omega)
      obtain ⟨L, c1, c2, c3⟩ := wcopy (I := K) (a := a + 5 + w) (b := b + 5 + w) (by omega)
      show ∃ I', (if K a 4 ≤ nI w then ct K else (fX4_walkerAt K a (nI w)).bind fun v6 => (fX4_walkerAt K b (nI w)).bind fun v7 => (match v6 with | none => fX4_copyFrom_L42 fu ct a b (nI w + 1) K | some a8 => (match v7 with | none => fX4_copyFrom_L42 fu ct a b (nI w + 1) K | some a9 => (fX6_copyFrom K a8 a9).bind fun v10 => fX4_copyFrom_L42 fu ct a b (nI w + 1) v10))) = some I' ∧ _
      rw [k2.2.2, ifn (fun y => by have := (leN (by omega) (by omega)).mp y; omega), e1, bd1, e2, bd1]
      simp only []
      rw [c1, bd1, nI_1]
      refine ih (w + 1) L fu (by omega) (by omega) (fun x hx => ?_) ?_ (fun c hc => ?_) (fun u f hu hf => ?_) hct
      · rw [c3 x (by omega)]; exact k1 x hx
      · rw [c3 a (by omega)]; exact k2
      · rw [c3 _ (by omega)]; exact k3 c hc
      · by_cases e : u = w
        · rw [e, c2 f hf, k1 _ (by omega)]
          exact h5 w f (by omega) hf
        · rw [c3 _ (by omega)]; exact k4 u f (by omega) hf
  refine lp _ (ρ 2) 0 _ 2000 (by omega) (by omega) (fun x hx => ?_) ⟨?_, ?_, ?_⟩ (fun c hc => ?_) (fun u f hu _ => by omega) (fun L l1 l2 l3 l4 => ?_)
  · rw [up2_n (by omega), cp2_n (by omega), up2_n (by omega), up2_n (by omega)]
  · rw [up2_b (by omega), cp2_n (by omega), up2_b (by omega), up2_a]
  · rw [up2_b (by omega), cp2_n (by omega), up2_a]
  · rw [up2_a]
  · rw [up2_n (by omega), cp2_a, if_pos hc, up2_n (by omega), up2_n (by omega)]
    exact h2 c hc
  · obtain ⟨t1, t2, t3⟩ := h3
    obtain ⟨M, m1, ⟨m2, m3, m4, m5⟩, m6⟩ := tcopy (I := L) (a := a + 3) (b := b + 3) (by omega) (r := ρ 5) (by rw [l1 _ (by omega)]; exact t3) g5
    show ∃ I', ((fX5_copyFrom L (a + 3) (b + 3)).bind fun v12 => _) = some I' ∧ _
    rw [m1, bd1, bd1, bd1, up2_n (show b ≠ a by omega), m6 b (by omega) (by omega), l1 b (by omega), a6, a7]
    refine ⟨_, rfl, ⟨⟨?_, ?_, ?_, ?_, ?_⟩, fun c hc => ?_, ⟨?_, ?_, ?_⟩, fun t ht => ?_, fun u f hu hf => ?_⟩, fun x hx => ?_⟩
    · rw [up2_b (by omega), up2_b (by omega), m6 a (by omega) (by omega)]; exact l2.1
    · rw [up2_b (by omega), up2_b (by omega), m6 a (by omega) (by omega)]; exact l2.2.1
    · rw [up2_b (by omega), up2_b (by omega), m6 a (by omega) (by omega)]; exact l2.2.2
    · rw [up2_b (by omega), up2_a]
    · rw [up2_a]
    · rw [up2_n (by omega), up2_n (by omega), m6 _ (by omega) (by omega)]; exact l3 c hc
    · rw [up2_n (by omega), up2_n (by omega), m2, l1 _ (by omega)]; exact t1
    · rw [up2_n (by omega), up2_n (by omega), m3, l1 _ (by omega)]; exact t2
    · rw [up2_n (by omega), up2_n (by omega), m4, l1 _ (by omega)]; exact t3
    · rw [up2_n (by omega), up2_n (by omega), show a + 4 = a + 3 + 1 from rfl, m5 t (by omega), l1 _ (by omega)]; exact h4 t ht
    · rw [up2_n (by omega), up2_n (by omega), m6 _ (by omega) (by omega)]; exact l4 u f hu hf
    · rw [up2_n (by omega), up2_n (by omega), m6 _ (by omega) (by omega)]; exact l1 x hx
theorem copy_G {I : II} {a b : Nat} {ρ : Nat → Nat} (hab : a + 13 ≤ b ∨ b + 13 ≤ a) (h : CS I b ρ) (hG : Good ρ) : ∃ I', fX4_copyFrom I a b = some I' ∧ CS I' a ρ ∧ ∀ x, (x < a ∨ a + 13 ≤ x) → I' x = I x := copy_C hab h hG.2.1 hG.2.2.1.2 hG.2.2.2.2.1
theorem HB_ap {a b : Nat} (ha : HB a) (hb : HB b) (h : a ≠ b) : a + 13 ≤ b ∨ b + 13 ≤ a := by unfold HB at ha hb; omega
theorem stateAt_C {P : PP} {i : Nat} (hi : i < 5) : fX1_stateAt P (nI i) = some (some (hq P i)) := by
  unfold fX1_stateAt
  rw [ifn (fun z => by have := (nI_ltI (b := 0) (by omega) (by omega)).mp z; omega), ifp (show nI i < (5 : Int32) from (nI_ltI (b := 5) (by omega) (by omega)).mpr hi), ckN hi (by omega), tnN (show i < 2 ^ 31 by omega)]
theorem hq_up {P : PP} {k j b : Nat} : hq (upP P 22 k (some b)) j = if j = k then b else hq P j := by
  unfold hq upP
  by_cases e : j = k <;> simp [e]
theorem drop_hist {I : II} {P : PP} : ∃ P', fX1_dropOldest I P = some (up2 I 21 1 4, P') ∧ (∀ i, i < 4 → hq P' i = hq P (i + 1)) ∧ hq P' 4 = hq P 0 ∧ ∀ a, a ≠ 22 → P' a = P a := by
  refine ⟨_, rfl, fun i hi => ?_, ?_, fun a ha => ?_⟩
  · simp only [hq_up]
    have hi' : i = 0 ∨ i = 1 ∨ i = 2 ∨ i = 3 := by omega
    rcases hi' with e | e | e | e <;> subst e <;> simp
  · simp only [hq_up]
    simp
  · simp only [upP, if_neg ha]
theorem PC_of {P P' : PP} (h : PC P) (hb : ∀ i, i < 5 → HB (hq P' i)) (hf : ∀ a, a ≠ 22 → P' a = P a) : PC P' := by
  obtain ⟨⟨a1, a2, a3, a4, a5, a6, a7, a8, a9, a10, a11, a12, a13, a14, a15, a16, a17, a18, a19, a20⟩, h2, -⟩ := h
  refine ⟨⟨?_, ?_, ?_, ?_, ?_, ?_, ?_, ?_, ?_, ?_, ?_, ?_, ?_, ?_, ?_, ?_, ?_, ?_, ?_, ?_⟩, fun b hs => ?_, fun i hi => ?_⟩
  · rw [hf 0 (by omega)]; exact a1
  · rw [hf 0 (by omega)]; exact a2
  · rw [hf 0 (by omega)]; exact a3
  · rw [hf 0 (by omega)]; exact a4
  · rw [hf 0 (by omega)]; exact a5
  · rw [hf 1 (by omega)]; exact a6
  · rw [hf 1 (by omega)]; exact a7
  · rw [hf 15 (by omega)]; exact a8
  · rw [hf 15 (by omega)]; exact a9
  · rw [hf 15 (by omega)]; exact a10
  · rw [hf 15 (by omega)]; exact a11
  · rw [hf 15 (by omega)]; exact a12
  · rw [hf 21 (by omega)]; exact a13
  · rw [hf 88 (by omega)]; exact a14
  · rw [hf 88 (by omega)]; exact a15
  · rw [hf 88 (by omega)]; exact a16
  · rw [hf 92 (by omega)]; exact a17
  · rw [hf 92 (by omega)]; exact a18
  · rw [hf 93 (by omega)]; exact a19
  · rw [hf 107 (by omega)]; exact a20
  · have hn : b ≠ 22 ∧ b + 2 ≠ 22 ∧ b + 3 ≠ 22 := by unfold SB at hs; omega
    obtain ⟨c1, c2, c3, c4, c5⟩ := h2 b hs
    rw [hf b hn.1, hf (b + 3) hn.2.2, hf (b + 2) hn.2.1]
    exact ⟨c1, c2, c3, c4, c5⟩
  · have := hb i hi
    refine ⟨hq P' i, this, ?_⟩
    unfold hq at this ⊢
    cases e : P' 22 i with
    | none =>
      rw [e] at this
      have h0 : HB 0 := this
      unfold HB at h0
      omega
    | some v => rfl
theorem record_C {I : II} {P : PP} {A : AbS} (h : CI I P A) (hG : GI A) : ∃ I' P', fX1_record I P 2 = some (I', P') ∧ CI I' P' (neA A A.1) ∧ ∀ a, (a < 21 ∨ 88 ≤ a) → I' a = I a := by
  obtain ⟨h1, ⟨⟨q1, q2⟩, h3, h4⟩, h5, h6⟩ := h
  obtain ⟨g1, ⟨g2, g3⟩, g4, g5⟩ := hG
  -- the current state onto the next place
  have put : ∀ (J : II) (Q : PP) (m : Nat) (ε : Nat → Nat → Nat), m < 5 → HQ Q → J 21 1 = nI m → (∀ a, a ≠ 21 → J a = I a) → (∀ i, i < m → Good (ε i)) → (∀ i, i < m → CS J (hq Q i) (ε i)) →
      ∃ I', fX1_record_J12 J Q 2 = some (I', Q) ∧ I' 21 1 = nI (m + 1) ∧ (∀ i, i < m → CS I' (hq Q i) (ε i)) ∧ CS I' (hq Q m) A.1 ∧ ∀ a, (a < 21 ∨ 88 ≤ a) → I' a = I a := by
    intro J Q m ε hm hQ j1 j2 j3 j4
    have hb := HB_n (hQ.1 m hm)
    obtain ⟨K, c1, c2, c3⟩ := copy_G (I := J) (a := hq Q m) (b := 2) (ρ := A.1) (by omega) (h1.1.fm g1.2.1 (fun a _ _ => j2 a (by omega))) g1
    unfold fX1_record_J12
    rw [j1, stateAt_C hm, bd1]
    simp only []
    rw [c1, bd1, c3 21 (by omega), j1, nI_1, bd1]
    refine ⟨_, rfl, up2_a, fun i hi => ?_, ?_, fun a ha => ?_⟩
    · have hbi := HB_n (hQ.1 i (by omega))
      have hd := HB_ap (hQ.1 i (by omega)) (hQ.1 m hm) (fun e => by have := hQ.2.1 i m (by omega) hm e; omega)
      exact (j4 i hi).fm (j3 i hi).2.1 (fun a _ _ => by rw [up2_n (by omega), c3 a (by omega)])
    · exact c2.fm g1.2.1 (fun a _ _ => up2_n (by omega))
    · rw [up2_n (by omega), c3 a (by omega), j2 a (by omega)]
  -- what is outside stays
  have rest : ∀ (I' : II), (∀ a, (a < 21 ∨ 88 ≤ a) → I' a = I a) → CR I' A.1 ∧ (∀ s, s < 2 → I' (93 + 14 * s) 1 = nI (A.2.2.1.1 s) ∧ (A.2.2.1.1 s = 1 → CS I' (94 + 14 * s) (A.2.2.1.2 s))) ∧ (I' 88 1 = nI A.2.2.2.1 ∧ ∀ j, j < A.2.2.2.1 → I' 89 j = A.2.2.2.2 j) := by
    intro I' hf
    refine ⟨⟨h1.1.fm g1.2.1 (fun a _ _ => hf a (by omega)), h1.2.fm (fun a _ _ => hf a (by omega))⟩, fun s hs => ⟨by rw [hf _ (by omega)]; exact (h5 s hs).1, fun hk => ?_⟩, by rw [hf 88 (by omega), hf 89 (by omega)]; exact h6⟩
    exact ((h5 s hs).2 hk).fm ((g4 s hs).2 hk).2.1 (fun a _ _ => hf a (by omega))
  unfold fX1_record
  by_cases q : A.2.1.1 < 5
  · rw [h3, ifp (show nI A.2.1.1 < (5 : Int32) from (nI_ltI (b := 5) (by omega) (by omega)).mpr q)]
    obtain ⟨I', r1, r2, r3, r4, r5⟩ := put I P A.2.1.1 A.2.1.2 q ⟨q1, q2⟩ h3 (fun _ _ => rfl) g3 h4
    refine ⟨I', P, r1, ⟨(rest I' r5).1, ⟨⟨q1, q2⟩, ?_, fun i hi => ?_⟩, (rest I' r5).2⟩, r5⟩
    · show I' 21 1 = nI (neH A.2.1.1)
      unfold neH
      rw [if_pos q]
      exact r2
    · have hi' : i < neH A.2.1.1 := hi
      show CS I' (hq P i) (neE A.1 A.2.1.1 A.2.1.2 i)
      unfold neH at hi'
      unfold neE
      rw [if_pos q] at hi' ⊢
      by_cases e : i = A.2.1.1
      · rw [if_pos e, e]; exact r4
      · rw [if_neg e]; exact r3 i (by omega)
  · have e5 : A.2.1.1 = 5 := by omega
    rw [h3, ifn (show ¬ nI A.2.1.1 < (5 : Int32) from fun z => q ((nI_ltI (b := 5) (by omega) (by omega)).mp z))]
    obtain ⟨P', d1, d2, d3, d4⟩ := drop_hist (I := I) (P := P)
    rw [d1, bd1]
    have hQ : HQ P' := by
      have hv : ∀ i, i < 5 → hq P' i = hq P ((i + 1) % 5) := by
        intro i hi
        by_cases e : i = 4
        · rw [e, d3]
        · rw [d2 i (by omega), Nat.mod_eq_of_lt (by omega)]
      have hB5 : ∀ i, i < 5 → HB (hq P' i) := fun i hi => by rw [hv i hi]; exact q1 _ (by omega)
      refine ⟨hB5, fun i j hi hj he => ?_, PC_of q2.2 hB5 d4⟩
      · rw [hv i hi, hv j hj] at he
        have := q2.1 _ _ (by omega) (by omega) he
        omega
    obtain ⟨I', r1, r2, r3, r4, r5⟩ := put (up2 I 21 1 4) P' 4 (fun i => A.2.1.2 (i + 1)) (by omega) hQ up2_a (fun a ha => up2_n ha) (fun i hi => g3 _ (by omega)) (fun i hi => by
      rw [d2 i hi]
      have hb := HB_n (q1 (i + 1) (by omega))
      exact (h4 (i + 1) (by omega)).fm (g3 _ (by omega)).2.1 (fun a _ _ => up2_n (by omega)))
    refine ⟨I', P', r1, ⟨(rest I' r5).1, ⟨hQ, ?_, fun i hi => ?_⟩, (rest I' r5).2⟩, r5⟩
    · show I' 21 1 = nI (neH A.2.1.1)
      unfold neH
      rw [if_neg q]
      exact r2
    · have hi' : i < neH A.2.1.1 := hi
      show CS I' (hq P' i) (neE A.1 A.2.1.1 A.2.1.2 i)
      unfold neH at hi'
      unfold neE
      rw [if_neg q] at hi' ⊢
      by_cases e : i = 4
      · rw [if_pos e, e]; exact r4
      · rw [if_neg e]; exact r3 i (by omega)
