/-! the first account -/
def rho0 : Nat → Nat := fun k => if k = 5 then 1 else if k = 3 then 1 else if k = 1 then 8 else if k = 0 then 8 else 0
def A0 : AbS := (rho0, (0, fun _ _ => 0), (fun _ => 0, fun _ _ => 0), (0, fun _ => 0))
theorem rho0_hi {k : Nat} (h : 6 ≤ k) : rho0 k = 0 := by
  unfold rho0
  rw [if_neg (by omega), if_neg (by omega), if_neg (by omega), if_neg (by omega)]
theorem good0 : Good rho0 := by
  refine ⟨⟨by decide, by decide, fun c hc => ?_, fun c hc _ => ?_⟩, by decide, by decide, by decide, by decide, fun w hw => ?_, fun t ht => ?_, rfl⟩
  · show rho0 (9 + c) ≤ 99
    rw [rho0_hi (by omega)]; omega
  · show rho0 (9 + c) = 0
    rw [rho0_hi (by omega)]
  · have h : w < 0 := hw
    omega
  · rw [rho0_hi (by omega)]; omega
theorem ST_CS {b : Nat} {Ly : LL} {I : II} {P : PP} (h : ST b Ly I P) : CS I b rho0 := by
  obtain ⟨-, -, ⟨h1, h2, h3, h4, h5⟩, h6, ⟨h7, h8, h9⟩, h10⟩ := h
  refine ⟨⟨h1, h2, h3, h4, h5⟩, fun c hc => ?_, ⟨h7, h8, h9⟩, fun t ht => ?_, fun w f hw hf => ?_⟩
  · rw [h6 c]
    show _ = nI (rho0 (9 + c))
    rw [rho0_hi (by omega)]; rfl
  · rw [h10 t, rho0_hi (by omega)]; rfl
  · have h : w < 0 := hw
    omega
theorem gi0 : GI A0 := ⟨good0, ⟨by show 0 ≤ 5; omega, fun i hi => by have : i < 0 := hi; omega⟩, fun s hs => ⟨by show 0 ≤ 1; omega, fun h => by have : (0 : Nat) = 1 := h; omega⟩, by show 0 ≤ 40; omega, fun j hj => by have : j < 0 := hj; omega⟩
set_option maxRecDepth 100000 in
set_option maxHeartbeats 4000000 in
theorem lay0 {r : Option AV} {n : Nat} {Ly : LL} {I : II} {P : PP} (h : CPo r n Ly I P) : ∀ k, k < 134 → Ly k = layCL.getD k (.inl 0) := by
  obtain ⟨-, -, c0, -, ⟨w1, -, w3, w4, -, -⟩, ⟨y1, y2, -, -, y5⟩, ⟨l1, -, -⟩, ⟨s1, s2⟩, q⟩ := h
  intro k hk
  exact (by
    match k, hk with
    | 0, _ => exact c0
    | 1, _ => exact w1
    | 2, _ => exact w3.1.1
    | 3, _ => exact w3.1.2.1
    | 4, _ => exact w3.1.2.2.1
    | 5, _ => exact w3.1.2.2.2.1
    | 6, _ => exact w3.1.2.2.2.2.1
    | 7, _ => exact w3.1.2.2.2.2.2 0 (by omega)
    | 8, _ => exact w3.1.2.2.2.2.2 1 (by omega)
    | 9, _ => exact w3.1.2.2.2.2.2 2 (by omega)
    | 10, _ => exact w3.1.2.2.2.2.2 3 (by omega)
    | 11, _ => exact w3.1.2.2.2.2.2 4 (by omega)
    | 12, _ => exact w3.1.2.2.2.2.2 5 (by omega)
    | 13, _ => exact w3.1.2.2.2.2.2 6 (by omega)
    | 14, _ => exact w3.1.2.2.2.2.2 7 (by omega)
    | 15, _ => exact w4.1
    | 16, _ => exact w4.2.1
    | 17, _ => exact w4.2.2.1
    | 18, _ => exact w4.2.2.2.1
    | 19, _ => exact w4.2.2.2.2.1
    | 20, _ => exact w4.2.2.2.2.2
    | 21, _ => exact y1
    | 22, _ => exact y2
    | 23, _ => exact (y5 0 (by omega)).1.1.1
    | 24, _ => exact (y5 0 (by omega)).1.1.2.1
    | 25, _ => exact (y5 0 (by omega)).1.1.2.2.1
    | 26, _ => exact (y5 0 (by omega)).1.1.2.2.2.1
    | 27, _ => exact (y5 0 (by omega)).1.1.2.2.2.2.1
    | 28, _ => exact (y5 0 (by omega)).1.1.2.2.2.2.2 0 (by omega)
    | 29, _ => exact (y5 0 (by omega)).1.1.2.2.2.2.2 1 (by omega)
    | 30, _ => exact (y5 0 (by omega)).1.1.2.2.2.2.2 2 (by omega)
    | 31, _ => exact (y5 0 (by omega)).1.1.2.2.2.2.2 3 (by omega)
    | 32, _ => exact (y5 0 (by omega)).1.1.2.2.2.2.2 4 (by omega)
    | 33, _ => exact (y5 0 (by omega)).1.1.2.2.2.2.2 5 (by omega)
    | 34, _ => exact (y5 0 (by omega)).1.1.2.2.2.2.2 6 (by omega)
    | 35, _ => exact (y5 0 (by omega)).1.1.2.2.2.2.2 7 (by omega)
    | 36, _ => exact (y5 1 (by omega)).1.1.1
    | 37, _ => exact (y5 1 (by omega)).1.1.2.1
    | 38, _ => exact (y5 1 (by omega)).1.1.2.2.1
    | 39, _ => exact (y5 1 (by omega)).1.1.2.2.2.1
    | 40, _ => exact (y5 1 (by omega)).1.1.2.2.2.2.1
    | 41, _ => exact (y5 1 (by omega)).1.1.2.2.2.2.2 0 (by omega)
    | 42, _ => exact (y5 1 (by omega)).1.1.2.2.2.2.2 1 (by omega)
    | 43, _ => exact (y5 1 (by omega)).1.1.2.2.2.2.2 2 (by omega)
    | 44, _ => exact (y5 1 (by omega)).1.1.2.2.2.2.2 3 (by omega)
    | 45, _ => exact (y5 1 (by omega)).1.1.2.2.2.2.2 4 (by omega)
    | 46, _ => exact (y5 1 (by omega)).1.1.2.2.2.2.2 5 (by omega)
    | 47, _ => exact (y5 1 (by omega)).1.1.2.2.2.2.2 6 (by omega)
    | 48, _ => exact (y5 1 (by omega)).1.1.2.2.2.2.2 7 (by omega)
    | 49, _ => exact (y5 2 (by omega)).1.1.1
    | 50, _ => exact (y5 2 (by omega)).1.1.2.1
    | 51, _ => exact (y5 2 (by omega)).1.1.2.2.1
    | 52, _ => exact (y5 2 (by omega)).1.1.2.2.2.1
    | 53, _ => exact (y5 2 (by omega)).1.1.2.2.2.2.1
    | 54, _ => exact (y5 2 (by omega)).1.1.2.2.2.2.2 0 (by omega)
    | 55, _ => exact (y5 2 (by omega)).1.1.2.2.2.2.2 1 (by omega)
    | 56, _ => exact (y5 2 (by omega)).1.1.2.2.2.2.2 2 (by omega)
    | 57, _ => exact (y5 2 (by omega)).1.1.2.2.2.2.2 3 (by omega)
    | 58, _ => exact (y5 2 (by omega)).1.1.2.2.2.2.2 4 (by omega)
    | 59, _ => exact (y5 2 (by omega)).1.1.2.2.2.2.2 5 (by omega)
    | 60, _ => exact (y5 2 (by omega)).1.1.2.2.2.2.2 6 (by omega)
    | 61, _ => exact (y5 2 (by omega)).1.1.2.2.2.2.2 7 (by omega)
    | 62, _ => exact (y5 3 (by omega)).1.1.1
    | 63, _ => exact (y5 3 (by omega)).1.1.2.1
    | 64, _ => exact (y5 3 (by omega)).1.1.2.2.1
    | 65, _ => exact (y5 3 (by omega)).1.1.2.2.2.1
    | 66, _ => exact (y5 3 (by omega)).1.1.2.2.2.2.1
    | 67, _ => exact (y5 3 (by omega)).1.1.2.2.2.2.2 0 (by omega)
    | 68, _ => exact (y5 3 (by omega)).1.1.2.2.2.2.2 1 (by omega)
    | 69, _ => exact (y5 3 (by omega)).1.1.2.2.2.2.2 2 (by omega)
    | 70, _ => exact (y5 3 (by omega)).1.1.2.2.2.2.2 3 (by omega)
    | 71, _ => exact (y5 3 (by omega)).1.1.2.2.2.2.2 4 (by omega)
    | 72, _ => exact (y5 3 (by omega)).1.1.2.2.2.2.2 5 (by omega)
    | 73, _ => exact (y5 3 (by omega)).1.1.2.2.2.2.2 6 (by omega)
    | 74, _ => exact (y5 3 (by omega)).1.1.2.2.2.2.2 7 (by omega)
    | 75, _ => exact (y5 4 (by omega)).1.1.1
    | 76, _ => exact (y5 4 (by omega)).1.1.2.1
    | 77, _ => exact (y5 4 (by omega)).1.1.2.2.1
    | 78, _ => exact (y5 4 (by omega)).1.1.2.2.2.1
    | 79, _ => exact (y5 4 (by omega)).1.1.2.2.2.2.1
    | 80, _ => exact (y5 4 (by omega)).1.1.2.2.2.2.2 0 (by omega)
    | 81, _ => exact (y5 4 (by omega)).1.1.2.2.2.2.2 1 (by omega)
    | 82, _ => exact (y5 4 (by omega)).1.1.2.2.2.2.2 2 (by omega)
    | 83, _ => exact (y5 4 (by omega)).1.1.2.2.2.2.2 3 (by omega)
    | 84, _ => exact (y5 4 (by omega)).1.1.2.2.2.2.2 4 (by omega)
    | 85, _ => exact (y5 4 (by omega)).1.1.2.2.2.2.2 5 (by omega)
    | 86, _ => exact (y5 4 (by omega)).1.1.2.2.2.2.2 6 (by omega)
    | 87, _ => exact (y5 4 (by omega)).1.1.2.2.2.2.2 7 (by omega)
    | 88, _ => exact l1.1
    | 89, _ => exact l1.2.1
    | 90, _ => exact l1.2.2.1
    | 91, _ => exact l1.2.2.2
    | 92, _ => exact s1
    | 93, _ => exact (s2 0 (by omega)).2.1
    | 94, _ => exact (s2 0 (by omega)).2.2.2.2.1.1
    | 95, _ => exact (s2 0 (by omega)).2.2.2.2.1.2.1
    | 96, _ => exact (s2 0 (by omega)).2.2.2.2.1.2.2.1
    | 97, _ => exact (s2 0 (by omega)).2.2.2.2.1.2.2.2.1
    | 98, _ => exact (s2 0 (by omega)).2.2.2.2.1.2.2.2.2.1
    | 99, _ => exact (s2 0 (by omega)).2.2.2.2.1.2.2.2.2.2 0 (by omega)
    | 100, _ => exact (s2 0 (by omega)).2.2.2.2.1.2.2.2.2.2 1 (by omega)
    | 101, _ => exact (s2 0 (by omega)).2.2.2.2.1.2.2.2.2.2 2 (by omega)
    | 102, _ => exact (s2 0 (by omega)).2.2.2.2.1.2.2.2.2.2 3 (by omega)
    | 103, _ => exact (s2 0 (by omega)).2.2.2.2.1.2.2.2.2.2 4 (by omega)
    | 104, _ => exact (s2 0 (by omega)).2.2.2.2.1.2.2.2.2.2 5 (by omega)
    | 105, _ => exact (s2 0 (by omega)).2.2.2.2.1.2.2.2.2.2 6 (by omega)
    | 106, _ => exact (s2 0 (by omega)).2.2.2.2.1.2.2.2.2.2 7 (by omega)
    | 107, _ => exact (s2 1 (by omega)).2.1
    | 108, _ => exact (s2 1 (by omega)).2.2.2.2.1.1
    | 109, _ => exact (s2 1 (by omega)).2.2.2.2.1.2.1
    | 110, _ => exact (s2 1 (by omega)).2.2.2.2.1.2.2.1
    | 111, _ => exact (s2 1 (by omega)).2.2.2.2.1.2.2.2.1
    | 112, _ => exact (s2 1 (by omega)).2.2.2.2.1.2.2.2.2.1
    | 113, _ => exact (s2 1 (by omega)).2.2.2.2.1.2.2.2.2.2 0 (by omega)
    | 114, _ => exact (s2 1 (by omega)).2.2.2.2.1.2.2.2.2.2 1 (by omega)
    | 115, _ => exact (s2 1 (by omega)).2.2.2.2.1.2.2.2.2.2 2 (by omega)
    | 116, _ => exact (s2 1 (by omega)).2.2.2.2.1.2.2.2.2.2 3 (by omega)
    | 117, _ => exact (s2 1 (by omega)).2.2.2.2.1.2.2.2.2.2 4 (by omega)
    | 118, _ => exact (s2 1 (by omega)).2.2.2.2.1.2.2.2.2.2 5 (by omega)
    | 119, _ => exact (s2 1 (by omega)).2.2.2.2.1.2.2.2.2.2 6 (by omega)
    | 120, _ => exact (s2 1 (by omega)).2.2.2.2.1.2.2.2.2.2 7 (by omega)
    | 121, _ => exact q.1.1
    | 122, _ => exact q.1.2.1
    | 123, _ => exact q.1.2.2.1
    | 124, _ => exact q.1.2.2.2.1
    | 125, _ => exact q.1.2.2.2.2.1
    | 126, _ => exact q.1.2.2.2.2.2 0 (by omega)
    | 127, _ => exact q.1.2.2.2.2.2 1 (by omega)
    | 128, _ => exact q.1.2.2.2.2.2 2 (by omega)
    | 129, _ => exact q.1.2.2.2.2.2 3 (by omega)
    | 130, _ => exact q.1.2.2.2.2.2 4 (by omega)
    | 131, _ => exact q.1.2.2.2.2.2 5 (by omega)
    | 132, _ => exact q.1.2.2.2.2.2 6 (by omega)
    | 133, _ => exact q.1.2.2.2.2.2 7 (by omega)
    | k + 134, hk => exact absurd hk (by omega))
theorem pc0 {r : Option AV} {n : Nat} {Ly : LL} {I : II} {P : PP} (h : CPo r n Ly I P) : PC P := by
  obtain ⟨-, -, -, ⟨a1, a2, a3, a4, a5⟩, ⟨-, ⟨w1, w2⟩, w3, -, ⟨w5, w6, w7, w8, w9⟩, -⟩, ⟨-, -, y3, -, y5⟩, ⟨-, ⟨l1, l2, l3⟩, -⟩, ⟨-, s2⟩, q⟩ := h
  refine ⟨⟨a1, a2, a3, a4, a5, w1, w2, w5, w6, w7, w8, w9, y3, l1, l2, l3, (s2 0 (by omega)).1, (s2 1 (by omega)).1, (s2 0 (by omega)).2.2.1, (s2 1 (by omega)).2.2.1⟩, fun b hb => ?_, fun i hi => ⟨23 + 13 * i, by unfold HB; omega, (y5 i hi).2⟩⟩
  have hst : ST b Ly I P := by
    unfold SB at hb
    rcases hb with e | e | e | e | e | e | e | e | e <;> subst e
    · exact w3
    · exact (y5 0 (by omega)).1
    · exact (y5 1 (by omega)).1
    · exact (y5 2 (by omega)).1
    · exact (y5 3 (by omega)).1
    · exact (y5 4 (by omega)).1
    · exact (s2 0 (by omega)).2.2.2.2
    · exact (s2 1 (by omega)).2.2.2.2
    · exact q
  exact hst.2.1
theorem PC_of2 {P P' : PP} (h : PC P) (hb : ∀ i, i < 5 → HB (hq P' i)) (hf : ∀ a, a < 134 → a ≠ 22 → P' a = P a) : PC P' := by
  have h2 : PC (fun a => if a < 134 then P' a else P a) := PC_of h (fun i hi => by
    show HB (((if (22 : Nat) < 134 then P' 22 else P 22) i).getD 0)
    rw [if_pos (by omega)]
    exact hb i hi) (fun a ha => by
    show (if a < 134 then P' a else P a) = P a
    split
    · exact hf a (by assumption) ha
    · rfl)
  obtain ⟨k1, k2, k3⟩ := h2
  refine ⟨k1, fun b hs => ?_, k3⟩
  have hn : b < 134 ∧ b + 2 < 134 ∧ b + 3 < 134 := by unfold SB at hs; omega
  have := k2 b hs
  simp only [if_pos hn.1, if_pos hn.2.1, if_pos hn.2.2] at this
  exact this
/-- what a memory holds while the account is A -/
def Ac (n : Nat) (Ly : LL) (I : II) (P : PP) (A : AbS) : Prop := 134 ≤ n ∧ (∀ k, k < 134 → Ly k = layCL.getD k (.inl 0)) ∧ GI A ∧ CI I P A
theorem Ac.sh {n : Nat} {Ly : LL} {I : II} {P : PP} {A : AbS} (h : Ac n Ly I P A) : ShC n Ly P := ⟨h.1, h.2.1, h.2.2.2.2.1.1.2.2⟩
theorem inv0 {r : Option AV} {n : Nat} {Ly : LL} {I : II} {P : PP} (h : CPo r n Ly I P) : Ac 134 Ly I P A0 := by
  have hL := lay0 h
  have hP := pc0 h
  obtain ⟨-, -, -, -, ⟨-, -, w3, -, -, w6⟩, ⟨-, -, -, y4, y5⟩, ⟨-, -, l4⟩, ⟨-, s2⟩, -⟩ := h
  have hq0 : ∀ i, i < 5 → hq P i = 23 + 13 * i := fun i hi => by
    unfold hq
    rw [(y5 i hi).2]
    rfl
  have hB : ∀ i, i < 5 → HB (hq P i) := fun i hi => by rw [hq0 i hi]; unfold HB; omega
  refine ⟨Nat.le_refl _, hL, gi0, ⟨ST_CS w3, Or.inr w6⟩, ⟨⟨hB, fun i j hi hj he => ?_, hP⟩, y4, fun i hi => ?_⟩, fun s hs => ⟨(s2 s hs).2.2.2.1, fun h => ?_⟩, l4, fun j hj => ?_⟩
  · rw [hq0 i hi, hq0 j hj] at he; omega
  · have : i < 0 := hi
    omega
  · have : (0 : Nat) = 1 := h
    omega
  · have : j < 0 := hj
    omega
