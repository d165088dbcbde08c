/-! chips strewn over the board -/
def onR (ρ : Nat → Nat) (a b m r c : Nat) : (Nat → Nat) × Nat := if (r * a + c * b) % m = 0 ∧ gR ρ (16 * r + c) < 99 then (stR ρ (9 + (16 * r + c)) (gR ρ (16 * r + c) + 1), 1) else (ρ, 0)
def rwR (ρ : Nat → Nat) (a b m r : Nat) : Nat → (Nat → Nat) × Nat
  | 0 => (ρ, 0)
  | c + 1 => ((onR (rwR ρ a b m r c).1 a b m r c).1, (rwR ρ a b m r c).2 + (onR (rwR ρ a b m r c).1 a b m r c).2)
def alR (ρ : Nat → Nat) (a b m : Nat) : Nat → (Nat → Nat) × Nat
  | 0 => (ρ, 0)
  | r + 1 => ((rwR (alR ρ a b m r).1 a b m r (ρ 1)).1, (alR ρ a b m r).2 + (rwR (alR ρ a b m r).1 a b m r (ρ 1)).2)
def cnR (ρ : Nat → Nat) (a b m r : Nat) : Nat → Nat
  | 0 => 0
  | c + 1 => cnR ρ a b m r c + (if (r * a + c * b) % m = 0 ∧ gR ρ (16 * r + c) < 99 then 1 else 0)
def caR (ρ : Nat → Nat) (a b m : Nat) : Nat → Nat
  | 0 => 0
  | r + 1 => caR ρ a b m r + cnR ρ a b m r (ρ 1)
theorem on_g {ρ : Nat → Nat} {a b m r c : Nat} (h : Good ρ) (hr : r < ρ 0) (hc : c < ρ 1) : Good (onR ρ a b m r c).1 ∧ (∀ j, j ≠ 9 + (16 * r + c) → (onR ρ a b m r c).1 j = ρ j) ∧ ((onR ρ a b m r c).2 = 0 → (onR ρ a b m r c).1 = ρ) ∧ (onR ρ a b m r c).2 = if (r * a + c * b) % m = 0 ∧ gR ρ (16 * r + c) < 99 then 1 else 0 := by
  have b1 := h.1.1.2
  have b2 := h.1.2.1.2
  unfold onR
  by_cases q : (r * a + c * b) % m = 0 ∧ gR ρ (16 * r + c) < 99
  · rw [if_pos q, if_pos q]
    exact ⟨h.ch (c := 16 * r + c) (by omega) (by omega) (by omega) (by omega), fun j hj => stR_n hj, fun z => absurd z (show ¬ (1 : Nat) = 0 by decide), rfl⟩
  · rw [if_neg q, if_neg q]
    exact ⟨h, fun _ _ => rfl, fun _ => rfl, rfl⟩
theorem rw_g {ρ : Nat → Nat} {a b m r : Nat} (h : Good ρ) (hr : r < ρ 0) : ∀ c, c ≤ ρ 1 → Good (rwR ρ a b m r c).1 ∧ (∀ j, j < 9 → (rwR ρ a b m r c).1 j = ρ j) ∧ (∀ j, (j < 9 + 16 * r ∨ 9 + (16 * r + c) ≤ j) → (rwR ρ a b m r c).1 j = ρ j) ∧ ((rwR ρ a b m r c).2 = 0 → (rwR ρ a b m r c).1 = ρ) ∧ (rwR ρ a b m r c).2 = cnR ρ a b m r c ∧ cnR ρ a b m r c ≤ c
  | 0, _ => ⟨h, fun _ _ => rfl, fun _ _ => rfl, fun _ => rfl, rfl, Nat.le_refl _⟩
  | c + 1, hc => by
    obtain ⟨h1, h2, h3, h4, h5, h6⟩ := rw_g (a := a) (b := b) (m := m) h hr c (by omega)
    obtain ⟨o1, o2, o3, o4⟩ := on_g (a := a) (b := b) (m := m) (r := r) (c := c) h1 (by rw [h2 0 (by omega)]; exact hr) (by rw [h2 1 (by omega)]; omega)
    have hgg : gR (rwR ρ a b m r c).1 (16 * r + c) = gR ρ (16 * r + c) := h3 _ (by omega)
    rw [hgg] at o4
    refine ⟨o1, fun j hj => ?_, fun j hj => ?_, fun hz => ?_, ?_, ?_⟩
    · show (onR (rwR ρ a b m r c).1 a b m r c).1 j = ρ j
      rw [o2 j (by omega), h2 j hj]
    · show (onR (rwR ρ a b m r c).1 a b m r c).1 j = ρ j
      rw [o2 j (by omega), h3 j (by omega)]
    · have hz' : (rwR ρ a b m r c).2 + (onR (rwR ρ a b m r c).1 a b m r c).2 = 0 := hz
      show (onR (rwR ρ a b m r c).1 a b m r c).1 = ρ
      rw [o3 (by omega), h4 (by omega)]
    · show (rwR ρ a b m r c).2 + (onR (rwR ρ a b m r c).1 a b m r c).2 = cnR ρ a b m r c + _
      rw [o4, h5]
    · show cnR ρ a b m r c + _ ≤ c + 1
      split <;> omega
theorem cn_congr {ρ σ : Nat → Nat} {a b m r : Nat} : ∀ c, (∀ k, k < c → gR ρ (16 * r + k) = gR σ (16 * r + k)) → cnR ρ a b m r c = cnR σ a b m r c
  | 0, _ => rfl
  | c + 1, h => by
    show cnR ρ a b m r c + _ = cnR σ a b m r c + _
    rw [cn_congr c (fun k hk => h k (by omega)), h c (by omega)]
theorem al_g {ρ : Nat → Nat} {a b m : Nat} (h : Good ρ) : ∀ r, r ≤ ρ 0 → Good (alR ρ a b m r).1 ∧ (∀ j, j < 9 → (alR ρ a b m r).1 j = ρ j) ∧ (∀ j, 9 + 16 * r ≤ j → (alR ρ a b m r).1 j = ρ j) ∧ ((alR ρ a b m r).2 = 0 → (alR ρ a b m r).1 = ρ) ∧ (alR ρ a b m r).2 = caR ρ a b m r ∧ caR ρ a b m r ≤ 16 * r
  | 0, _ => ⟨h, fun _ _ => rfl, fun _ _ => rfl, fun _ => rfl, rfl, by show 0 ≤ _; omega⟩
  | r + 1, hr => by
    obtain ⟨h1, h2, h3, h4, h5, h6⟩ := al_g (a := a) (b := b) (m := m) h r (by omega)
    have b2 := h.1.2.1.2
    obtain ⟨o1, o2, o3, o4, o5, o6⟩ := rw_g (a := a) (b := b) (m := m) (r := r) h1 (by rw [h2 0 (by omega)]; omega) (ρ 1) (by rw [h2 1 (by omega)]; omega)
    have hcn : cnR (alR ρ a b m r).1 a b m r (ρ 1) = cnR ρ a b m r (ρ 1) := cn_congr _ (fun k hk => h3 _ (by omega))
    rw [hcn] at o5 o6
    refine ⟨o1, fun j hj => ?_, fun j hj => ?_, fun hz => ?_, ?_, ?_⟩
    · show (rwR (alR ρ a b m r).1 a b m r (ρ 1)).1 j = ρ j
      rw [o2 j hj, h2 j hj]
    · show (rwR (alR ρ a b m r).1 a b m r (ρ 1)).1 j = ρ j
      rw [o3 j (by omega), h3 j (by omega)]
    · have hz' : (alR ρ a b m r).2 + (rwR (alR ρ a b m r).1 a b m r (ρ 1)).2 = 0 := hz
      show (rwR (alR ρ a b m r).1 a b m r (ρ 1)).1 = ρ
      rw [o4 (by omega), h4 (by omega)]
    · show (alR ρ a b m r).2 + (rwR (alR ρ a b m r).1 a b m r (ρ 1)).2 = caR ρ a b m r + cnR ρ a b m r (ρ 1)
      rw [o5, h5]
    · show caR ρ a b m r + cnR ρ a b m r (ρ 1) ≤ _
      omega
theorem cellAt_on {I : II} {ρ : Nat → Nat} (h : CS I 2 ρ) (hB : Bd ρ) {r c : Nat} (hr : r < ρ 0) (hc : c < ρ 1) : fX4_cellAt I 2 (nI r) (nI c) = some (nI (16 * r + c)) := by
  have b1 := hB.1.2
  have b2 := hB.2.1.2
  unfold fX4_cellAt
  rw [(hasCell_C h hB _ _).1 ((okC_nn (by omega) (by omega)).mpr ⟨hr, hc⟩), bd1, jf1, show (16 : Int32) = nI 16 from rfl, pk_mul, nI_add, Nat.mul_comm]
theorem mulrm {a b m r c : Nat} (ha : a ≤ 9) (hb : b ≤ 9) (h1 : 1 ≤ m) (hm : m ≤ 20) (hr : r < 16) (hc : c < 16) : (rm (nI r * nI a + nI c * nI b) (nI m) = (0 : Int32)) ↔ (r * a + c * b) % m = 0 := by
  have e1 : r * a ≤ 16 * 9 := Nat.mul_le_mul (by omega) ha
  have e2 : c * b ≤ 16 * 9 := Nat.mul_le_mul (by omega) hb
  have e3 := Nat.mod_lt (r * a + c * b) (show 0 < m by omega)
  rw [pk_mul, pk_mul, nI_add, rmN (by omega) (by omega) (by omega)]
  exact eqN (b := 0) (by omega) (by omega)
/-- the class counts -/
theorem strew_C0 {I : II} {ρ : Nat → Nat} (h : CS I 2 ρ) (hG : Good ρ) {a b m : Nat} (ha : a ≤ 9) (hb : b ≤ 9) (h1 : 1 ≤ m) (hm : m ≤ 20) : fX7_strewOver I (nI a) (nI b) (nI m) 0 = some (nI (caR ρ a b m (ρ 0)), I) := by
  have b1 := hG.1.1.2
  have b2 := hG.1.2.1.2
  have inner : ∀ (ct : Int32 → II → Option (Int32 × II)) (N r : Nat), r < ρ 0 → ∀ (n c fu : Nat), c + n = ρ 1 → n < fu → fX7_strewOver_L21 fu ct (nI a) (nI b) (nI m) 0 (nI r) (nI (N + cnR ρ a b m r c)) (nI c) I = ct (nI (N + cnR ρ a b m r (ρ 1))) I := by
    intro ct N r hr n
    induction n with
    | zero =>
      intro c fu hx hf
      obtain ⟨fu, rfl⟩ : ∃ m, fu = m + 1 := ⟨fu - 1, by omega⟩
      show (if (I 2 1) ≤ nI c then ct (nI (N + cnR ρ a b m r c)) I else _) = _
      rw [h.1.2.1, ifp (yle (by omega) (by omega) (by omega)), show c = ρ 1 by omega]
    | succ n ih =>
      intro c fu hx hf
      obtain ⟨fu, rfl⟩ : ∃ m, fu = m + 1 := ⟨fu - 1, by omega⟩
      have hgc := hG.1.2.2.1 (16 * r + c) (by omega)
      have hmr := mulrm (a := a) (b := b) (m := m) (r := r) (c := c) ha hb h1 hm (by omega) (by omega)
      show (if (I 2 1) ≤ nI c then ct (nI (N + cnR ρ a b m r c)) I else (fX4_cellAt I 2 (nI r) (nI c)).bind fun v3 => (fX4_chipsOf I 2 v3).bind fun v4 => (if nI m ≤ 0 then fX7_strewOver_L21 fu ct (nI a) (nI b) (nI m) 0 (nI r) (nI (N + cnR ρ a b m r c)) (nI c + 1) I else ck (nz (nI m)) ((if ¬ (rm ((nI r * nI a) + (nI c * nI b)) (nI m)) = 0 then fX7_strewOver_L21 fu ct (nI a) (nI b) (nI m) 0 (nI r) (nI (N + cnR ρ a b m r c)) (nI c + 1) I else (if 99 ≤ v4 then fX7_strewOver_L21 fu ct (nI a) (nI b) (nI m) 0 (nI r) (nI (N + cnR ρ a b m r c)) (nI c + 1) I else (if (0 : Int32) = 0 then fX7_strewOver_L21 fu ct (nI a) (nI b) (nI m) 0 (nI r) (nI (N + cnR ρ a b m r c) + 1) (nI c + 1) I else (fX7_setChips I v3 (v4 + 1)).bind fun v10 => fX7_strewOver_L21 fu ct (nI a) (nI b) (nI m) 0 (nI r) (nI (N + cnR ρ a b m r c) + 1) (nI c + 1) v10)))))) = _
      rw [h.1.2.1, ifn (nle (by omega) (by omega) (by omega)), cellAt_on h hG.1 hr (by omega), bd1, chipsOf_C (by omega), bd1, show I (2 + 1) (16 * r + c) = _ from h.2.1 _ (by omega), ifn (show ¬ nI m ≤ (0 : Int32) from nle (b := 0) (by omega) (by omega) (by omega)), ck_t (show nz (nI m) = true from decide_eq_true (nI_ne0 (by omega) (by omega))), jf0, nI_1, nI_1]
      by_cases q1 : (r * a + c * b) % m = 0
      · rw [ifn (fun z => z (hmr.mpr q1))]
        by_cases q2 : gR ρ (16 * r + c) < 99
        · rw [ifn (show ¬ (99 : Int32) ≤ nI (gR ρ (16 * r + c)) from nle (a := 99) (by omega) (by omega) (by omega))]
          have e : N + cnR ρ a b m r c + 1 = N + cnR ρ a b m r (c + 1) := by
            show _ = N + (cnR ρ a b m r c + _)
            rw [if_pos ⟨q1, q2⟩]; omega
          rw [e]
          exact ih (c + 1) fu (by omega) (by omega)
        · rw [ifp (show (99 : Int32) ≤ nI (gR ρ (16 * r + c)) from yle (a := 99) (by omega) (by omega) (by omega))]
          have e : N + cnR ρ a b m r c = N + cnR ρ a b m r (c + 1) := by
            show _ = N + (cnR ρ a b m r c + _)
            rw [if_neg (fun z => q2 z.2)]; rfl
          rw [e]
          exact ih (c + 1) fu (by omega) (by omega)
      · rw [ifp (fun z => q1 (hmr.mp z))]
        have e : N + cnR ρ a b m r c = N + cnR ρ a b m r (c + 1) := by
          show _ = N + (cnR ρ a b m r c + _)
          rw [if_neg (fun z => q1 z.1)]; rfl
        rw [e]
        exact ih (c + 1) fu (by omega) (by omega)
  have outer : ∀ (n r fu : Nat), r + n = ρ 0 → n < fu → fX7_strewOver_L6 fu (fun z13 I14 => some (z13, I14)) (nI a) (nI b) (nI m) 0 (nI (caR ρ a b m r)) (nI r) I = some (nI (caR ρ a b m (ρ 0)), I) := by
    intro n
    induction n with
    | zero =>
      intro r fu hx hf
      obtain ⟨fu, rfl⟩ : ∃ m, fu = m + 1 := ⟨fu - 1, by omega⟩
      show (if (I 2 0) ≤ nI r then some (nI (caR ρ a b m r), I) else _) = _
      rw [h.1.1, ifp (yle (by omega) (by omega) (by omega)), show r = ρ 0 by omega]
    | succ n ih =>
      intro r fu hx hf
      obtain ⟨fu, rfl⟩ : ∃ m, fu = m + 1 := ⟨fu - 1, by omega⟩
      show (if (I 2 0) ≤ nI r then some (nI (caR ρ a b m r), I) else fX7_strewOver_L21 2000 (fun z11 I12 => fX7_strewOver_L6 fu (fun z13 I14 => some (z13, I14)) (nI a) (nI b) (nI m) 0 z11 (nI r + 1) I12) (nI a) (nI b) (nI m) 0 (nI r) (nI (caR ρ a b m r)) 0 I) = _
      rw [h.1.1, ifn (nle (by omega) (by omega) (by omega)), nI_1]
      rw [show fX7_strewOver_L21 2000 (fun z11 I12 => fX7_strewOver_L6 fu (fun z13 I14 => some (z13, I14)) (nI a) (nI b) (nI m) 0 z11 (nI (r + 1)) I12) (nI a) (nI b) (nI m) 0 (nI r) (nI (caR ρ a b m r)) 0 I = _ from inner (fun z11 I12 => fX7_strewOver_L6 fu (fun z13 I14 => some (z13, I14)) (nI a) (nI b) (nI m) 0 z11 (nI (r + 1)) I12) (caR ρ a b m r) r (by omega) (ρ 1) 0 2000 (by omega) (by omega)]
      exact ih (r + 1) fu (by omega) (by omega)
  exact outer (ρ 0) 0 2000 (by omega) (by omega)
/-- the class puts them down -/
theorem strew_C1 {I : II} {ρ : Nat → Nat} (h : CR I ρ) (hG : Good ρ) {a b m : Nat} (ha : a ≤ 9) (hb : b ≤ 9) (h1 : 1 ≤ m) (hm : m ≤ 20) : ∃ I' v, fX7_strewOver I (nI a) (nI b) (nI m) 1 = some (v, I') ∧ CR I' (alR ρ a b m (ρ 0)).1 ∧ FC I I' := by
  have b1 := hG.1.1.2
  have b2 := hG.1.2.1.2
  have inner : ∀ (ct : Int32 → II → Option (Int32 × II)) (σ : Nat → Nat) (r : Nat) (I0 : II) (Q : Option (Int32 × II) → Prop), Good σ → r < σ 0 → (∀ K N, CR K (rwR σ a b m r (σ 1)).1 → FC I0 K → Q (ct (nI N) K)) → ∀ (n c N fu : Nat) (K : II), c + n = σ 1 → n < fu → CR K (rwR σ a b m r c).1 → FC I0 K → Q (fX7_strewOver_L21 fu ct (nI a) (nI b) (nI m) 1 (nI r) (nI N) (nI c) K) := by
    intro ct σ r I0 Q hS hr hct n
    have s1 := hS.1.1.2
    have s2 := hS.1.2.1.2
    induction n with
    | zero =>
      intro c N fu K hx hf hK hF
      obtain ⟨fu, rfl⟩ : ∃ m, fu = m + 1 := ⟨fu - 1, by omega⟩
      obtain ⟨g1, g2, g3, -⟩ := rw_g (a := a) (b := b) (m := m) (r := r) hS hr c (by omega)
      show Q (if (K 2 1) ≤ nI c then ct (nI N) K else _)
      rw [hK.1.1.2.1, g2 1 (by omega), ifp (yle (by omega) (by omega) (by omega))]
      rw [show c = σ 1 by omega] at hK
      exact hct K N hK hF
    | succ n ih =>
      intro c N fu K hx hf hK hF
      obtain ⟨fu, rfl⟩ : ∃ m, fu = m + 1 := ⟨fu - 1, by omega⟩
      obtain ⟨g1, g2, g3, -⟩ := rw_g (a := a) (b := b) (m := m) (r := r) hS hr c (by omega)
      have hnext : (rwR σ a b m r (c + 1)).1 = (onR (rwR σ a b m r c).1 a b m r c).1 := rfl
      unfold onR at hnext
      generalize hτ : (rwR σ a b m r c).1 = τ at *
      have t0 := g2 0 (by omega)
      have t1 := g2 1 (by omega)
      have hgc := g1.1.2.2.1 (16 * r + c) (by omega)
      have hmr := mulrm (a := a) (b := b) (m := m) (r := r) (c := c) ha hb h1 hm (by omega) (by omega)
      show Q (if (K 2 1) ≤ nI c then ct (nI N) K else (fX4_cellAt K 2 (nI r) (nI c)).bind fun v3 => (fX4_chipsOf K 2 v3).bind fun v4 => (if nI m ≤ 0 then fX7_strewOver_L21 fu ct (nI a) (nI b) (nI m) 1 (nI r) (nI N) (nI c + 1) K else ck (nz (nI m)) ((if ¬ (rm ((nI r * nI a) + (nI c * nI b)) (nI m)) = 0 then fX7_strewOver_L21 fu ct (nI a) (nI b) (nI m) 1 (nI r) (nI N) (nI c + 1) K else (if 99 ≤ v4 then fX7_strewOver_L21 fu ct (nI a) (nI b) (nI m) 1 (nI r) (nI N) (nI c + 1) K else (if (1 : Int32) = 0 then fX7_strewOver_L21 fu ct (nI a) (nI b) (nI m) 1 (nI r) (nI N + 1) (nI c + 1) K else (fX7_setChips K v3 (v4 + 1)).bind fun v10 => fX7_strewOver_L21 fu ct (nI a) (nI b) (nI m) 1 (nI r) (nI N + 1) (nI c + 1) v10))))))
      rw [hK.1.1.2.1, t1, ifn (nle (by omega) (by omega) (by omega)), cellAt_on hK.1 g1.1 (by omega) (by omega), bd1, chipsOf_C (by omega), bd1, show K (2 + 1) (16 * r + c) = _ from hK.1.2.1 _ (by omega), ifn (show ¬ nI m ≤ (0 : Int32) from nle (b := 0) (by omega) (by omega) (by omega)), ck_t (show nz (nI m) = true from decide_eq_true (nI_ne0 (by omega) (by omega))), jf1, nI_1, nI_1, nI_1]
      by_cases q1 : (r * a + c * b) % m = 0
      · rw [ifn (fun z => z (hmr.mpr q1))]
        by_cases q2 : gR τ (16 * r + c) < 99
        · rw [ifn (show ¬ (99 : Int32) ≤ nI (gR τ (16 * r + c)) from nle (a := 99) (by omega) (by omega) (by omega))]
          rw [if_pos ⟨q1, q2⟩] at hnext
          obtain ⟨L, l1, l2, l3, l4⟩ := setChips_C hK g1 (c := 16 * r + c) (v := gR τ (16 * r + c) + 1) (by omega) (by omega)
          rw [l1, bd1]
          exact ih (c + 1) (N + 1) fu L (by omega) (by omega) (by rw [hnext]; exact l2) (hF.tr (fun a ha => l3 a (by omega) (by omega)))
        · rw [ifp (show (99 : Int32) ≤ nI (gR τ (16 * r + c)) from yle (a := 99) (by omega) (by omega) (by omega))]
          rw [if_neg (fun z => q2 z.2)] at hnext
          exact ih (c + 1) N fu K (by omega) (by omega) (by rw [hnext]; exact hK) hF
      · rw [ifp (fun z => q1 (hmr.mp z))]
        rw [if_neg (fun z => q1 z.1)] at hnext
        exact ih (c + 1) N fu K (by omega) (by omega) (by rw [hnext]; exact hK) hF
  have outer : ∀ (n r N fu : Nat) (K : II), r + n = ρ 0 → n < fu → CR K (alR ρ a b m r).1 → FC I K → ∃ I' v, fX7_strewOver_L6 fu (fun z13 I14 => some (z13, I14)) (nI a) (nI b) (nI m) 1 (nI N) (nI r) K = some (v, I') ∧ CR I' (alR ρ a b m (ρ 0)).1 ∧ FC I I' := by
    intro n
    induction n with
    | zero =>
      intro r N fu K hx hf hK hF
      obtain ⟨fu, rfl⟩ : ∃ m, fu = m + 1 := ⟨fu - 1, by omega⟩
      obtain ⟨g1, g2, -⟩ := al_g (a := a) (b := b) (m := m) hG r (by omega)
      refine ⟨K, nI N, ?_, ?_, hF⟩
      · show (if (K 2 0) ≤ nI r then some (nI N, K) else _) = _
        rw [hK.1.1.1, g2 0 (by omega), ifp (yle (by omega) (by omega) (by omega))]
      · rw [show r = ρ 0 by omega] at hK
        exact hK
    | succ n ih =>
      intro r N fu K hx hf hK hF
      obtain ⟨fu, rfl⟩ : ∃ m, fu = m + 1 := ⟨fu - 1, by omega⟩
      obtain ⟨g1, g2, -⟩ := al_g (a := a) (b := b) (m := m) hG r (by omega)
      show ∃ I' v, (if (K 2 0) ≤ nI r then some (nI N, K) else fX7_strewOver_L21 2000 (fun z11 I12 => fX7_strewOver_L6 fu (fun z13 I14 => some (z13, I14)) (nI a) (nI b) (nI m) 1 z11 (nI r + 1) I12) (nI a) (nI b) (nI m) 1 (nI r) (nI N) 0 K) = some (v, I') ∧ _
      rw [hK.1.1.1, g2 0 (by omega), ifn (nle (by omega) (by omega) (by omega)), nI_1]
      refine inner (fun z11 I12 => fX7_strewOver_L6 fu (fun z13 I14 => some (z13, I14)) (nI a) (nI b) (nI m) 1 z11 (nI (r + 1)) I12) (alR ρ a b m r).1 r K (fun o => ∃ I' v, o = some (v, I') ∧ CR I' (alR ρ a b m (ρ 0)).1 ∧ FC I I') g1 (by rw [g2 0 (by omega)]; omega) (fun L M hL hFL => ?_) (ρ 1) 0 N 2000 K (by rw [g2 1 (by omega)]; omega) (by omega) hK FC.rf
      rw [g2 1 (by omega)] at hL
      exact ih (r + 1) M fu L (by omega) (by omega) hL (hF.tr hFL)
  exact outer (ρ 0) 0 0 2000 I (by omega) (by omega) h FC.rf
/-- the reference does both at once -/
theorem strew_M {J : II} {ρ : Nat → Nat} (h : MR J ρ) (hG : Good ρ) {a b m : Nat} (ha : a ≤ 9) (hb : b ≤ 9) (h1 : 1 ≤ m) (hm : m ≤ 20) (ct0 : Int32 → II → Option (Int32 × II)) (Q : Option (Int32 × II) → Prop) (hct : ∀ K, MR K (alR ρ a b m (ρ 0)).1 → FM1 J K → Q (ct0 (nI (alR ρ a b m (ρ 0)).2) K)) : Q (fX9_strew_L43 2000 ct0 (nI a) (nI b) (nI m) 0 0 J) := by
  have b1 := hG.1.1.2
  have b2 := hG.1.2.1.2
  have inner : ∀ (ct : Int32 → II → Option (Int32 × II)) (σ : Nat → Nat) (r N : Nat) (I0 : II), Good σ → r < σ 0 → (∀ K, MR K (rwR σ a b m r (σ 1)).1 → FM1 I0 K → Q (ct (nI (N + (rwR σ a b m r (σ 1)).2)) K)) → ∀ (n c fu : Nat) (K : II), c + n = σ 1 → n < fu → MR K (rwR σ a b m r c).1 → FM1 I0 K → Q (fX9_strew_L57 fu ct (nI a) (nI b) (nI m) (nI r) (nI (N + (rwR σ a b m r c).2)) (nI c) K) := by
    intro ct σ r N I0 hS hr hct n
    have s1 := hS.1.1.2
    have s2 := hS.1.2.1.2
    induction n with
    | zero =>
      intro c fu K hx hf hK hF
      obtain ⟨fu, rfl⟩ : ∃ m, fu = m + 1 := ⟨fu - 1, by omega⟩
      obtain ⟨g1, g2, g3, -⟩ := rw_g (a := a) (b := b) (m := m) (r := r) hS hr c (by omega)
      show Q (if (K 135 1) ≤ nI c then ct (nI (N + (rwR σ a b m r c).2)) K else _)
      rw [hK 1 (by omega), g2 1 (by omega), ifp (yle (by omega) (by omega) (by omega))]
      rw [show c = σ 1 by omega] at hK ⊢
      exact hct K hK hF
    | succ n ih =>
      intro c fu K hx hf hK hF
      obtain ⟨fu, rfl⟩ : ∃ m, fu = m + 1 := ⟨fu - 1, by omega⟩
      obtain ⟨g1, g2, g3, -⟩ := rw_g (a := a) (b := b) (m := m) (r := r) hS hr c (by omega)
      have hnext : (rwR σ a b m r (c + 1)).1 = (onR (rwR σ a b m r c).1 a b m r c).1 := rfl
      have hnum : (rwR σ a b m r (c + 1)).2 = (rwR σ a b m r c).2 + (onR (rwR σ a b m r c).1 a b m r c).2 := rfl
      unfold onR at hnext hnum
      have ih' := ih (c + 1) fu
      rw [hnum, hnext] at ih'
      generalize hτ : (rwR σ a b m r c).1 = τ at *
      generalize hν : (rwR σ a b m r c).2 = ν at *
      have t0 := g2 0 (by omega)
      have t1 := g2 1 (by omega)
      have hgc := g1.1.2.2.1 (16 * r + c) (by omega)
      have hmr := mulrm (a := a) (b := b) (m := m) (r := r) (c := c) ha hb h1 hm (by omega) (by omega)
      -- from the cell's place on
      have put : ∀ (s : Nat), s ≤ 1 → (∀ L, MR L (stR τ (9 + (16 * r + c)) (gR τ (16 * r + c) + s)) → FM1 I0 L → Q (fX9_strew_L57 fu ct (nI a) (nI b) (nI m) (nI r) (nI (N + ν + s)) (nI (c + 1)) L)) → Q (fX9_strew_J112 (fX9_strew_L57 fu ct (nI a) (nI b) (nI m) (nI r)) ct K (nI a) (nI b) (nI m) (nI (N + ν)) (nI r) (nI c) (nI (9 + (16 * r + c))) (nI s)) := by
        intro s hs hq
        unfold fX9_strew_J112 fX9_strew_J132
        rw [ckN (show 9 + (16 * r + c) < 367 by omega) (by omega), ckN (show 9 + (16 * r + c) < 367 by omega) (by omega), ckN (show 9 + (16 * r + c) < 367 by omega) (by omega), tnN (show 9 + (16 * r + c) < 2 ^ 31 by omega), hK.at9 (by omega), bd1, bd1, nI_1]
        have hs' : s = 0 ∨ s = 1 := by omega
        rcases hs' with e | e <;> subst e
        · rw [ifp (show nI 0 = (0 : Int32) from rfl), ifp (show nI 0 = (0 : Int32) from rfl), add0, add0]
          exact hq _ hK.up (hF.tr FM1.up)
        · rw [ifn (show ¬ nI 1 = (0 : Int32) by decide), ifn (show ¬ nI 1 = (0 : Int32) by decide), nI_1, nI_1]
          exact hq _ hK.up (hF.tr FM1.up)
      show Q (if (K 135 1) ≤ nI c then ct (nI (N + ν)) K else ck (nz (nI m)) ((if ¬ (rm ((nI r * nI a) + (nI c * nI b)) (nI m)) = 0 then fX9_strew_J112 (fX9_strew_L57 fu ct (nI a) (nI b) (nI m) (nI r)) ct K (nI a) (nI b) (nI m) (nI (N + ν)) (nI r) (nI c) ((9 + (16 * nI r)) + nI c) 0 else ck (ix ((9 + (16 * nI r)) + nI c) 367) ((if 99 ≤ (K 135 ((9 + (16 * nI r)) + nI c).toNatClampNeg) then fX9_strew_J112 (fX9_strew_L57 fu ct (nI a) (nI b) (nI m) (nI r)) ct K (nI a) (nI b) (nI m) (nI (N + ν)) (nI r) (nI c) ((9 + (16 * nI r)) + nI c) 0 else fX9_strew_J112 (fX9_strew_L57 fu ct (nI a) (nI b) (nI m) (nI r)) ct K (nI a) (nI b) (nI m) (nI (N + ν)) (nI r) (nI c) ((9 + (16 * nI r)) + nI c) 1)))))
      rw [hK 1 (by omega), t1, ifn (nle (by omega) (by omega) (by omega)), ck_t (show nz (nI m) = true from decide_eq_true (nI_ne0 (by omega) (by omega))), c9, ckN (show 9 + (16 * r + c) < 367 by omega) (by omega), tnN (show 9 + (16 * r + c) < 2 ^ 31 by omega), hK.at9 (by omega)]
      have e0 : stR τ (9 + (16 * r + c)) (gR τ (16 * r + c) + 0) = τ := stR_id rfl
      by_cases q1 : (r * a + c * b) % m = 0
      · rw [ifn (fun z => z (hmr.mpr q1))]
        by_cases q2 : gR τ (16 * r + c) < 99
        · rw [ifn (show ¬ (99 : Int32) ≤ nI (gR τ (16 * r + c)) from nle (a := 99) (by omega) (by omega) (by omega))]
          rw [if_pos ⟨q1, q2⟩] at ih'
          exact put 1 (by omega) (fun L hL hFL => ih' L (by omega) (by omega) hL hFL)
        · rw [ifp (show (99 : Int32) ≤ nI (gR τ (16 * r + c)) from yle (a := 99) (by omega) (by omega) (by omega))]
          rw [if_neg (fun z => q2 z.2)] at ih'
          exact put 0 (by omega) (fun L hL hFL => ih' L (by omega) (by omega) (by rw [e0] at hL; exact hL) hFL)
      · rw [ifp (fun z => q1 (hmr.mp z))]
        rw [if_neg (fun z => q1 z.1)] at ih'
        exact put 0 (by omega) (fun L hL hFL => ih' L (by omega) (by omega) (by rw [e0] at hL; exact hL) hFL)
  have outer : ∀ (n r fu : Nat) (K : II), r + n = ρ 0 → n < fu → MR K (alR ρ a b m r).1 → FM1 J K → Q (fX9_strew_L43 fu ct0 (nI a) (nI b) (nI m) (nI (alR ρ a b m r).2) (nI r) K) := by
    intro n
    induction n with
    | zero =>
      intro r fu K hx hf hK hF
      obtain ⟨fu, rfl⟩ : ∃ m, fu = m + 1 := ⟨fu - 1, by omega⟩
      obtain ⟨g1, g2, -⟩ := al_g (a := a) (b := b) (m := m) hG r (by omega)
      show Q (if (K 135 0) ≤ nI r then ct0 (nI (alR ρ a b m r).2) K else _)
      rw [hK 0 (by omega), g2 0 (by omega), ifp (yle (by omega) (by omega) (by omega))]
      rw [show r = ρ 0 by omega] at hK ⊢
      exact hct K hK hF
    | succ n ih =>
      intro r fu K hx hf hK hF
      obtain ⟨fu, rfl⟩ : ∃ m, fu = m + 1 := ⟨fu - 1, by omega⟩
      obtain ⟨g1, g2, -⟩ := al_g (a := a) (b := b) (m := m) hG r (by omega)
      show Q (if (K 135 0) ≤ nI r then ct0 (nI (alR ρ a b m r).2) K else fX9_strew_L57 2000 (fun z19 I20 => fX9_strew_L43 fu ct0 (nI a) (nI b) (nI m) z19 (nI r + 1) I20) (nI a) (nI b) (nI m) (nI r) (nI (alR ρ a b m r).2) 0 K)
      rw [hK 0 (by omega), g2 0 (by omega), ifn (nle (by omega) (by omega) (by omega)), nI_1]
      refine inner (fun z19 I20 => fX9_strew_L43 fu ct0 (nI a) (nI b) (nI m) z19 (nI (r + 1)) I20) (alR ρ a b m r).1 r (alR ρ a b m r).2 J g1 (by rw [g2 0 (by omega)]; omega) (fun L hL hFL => ?_) (ρ 1) 0 2000 K (by rw [g2 1 (by omega)]; omega) (by omega) hK hF
      rw [g2 1 (by omega)] at hL ⊢
      exact ih (r + 1) fu L (by omega) (by omega) hL hFL
  exact outer (ρ 0) 0 2000 J (by omega) (by omega) h FM1.rf
theorem op_strew (x y z : Int32) : OpS (fun I P => fX8_strew I P x y z) (fun J => fX9_strew J x y z) := by
  intro A I P J hG hC hM
  show ∃ a I1 P1 J1 A', fX8_strew I P x y z = some (a, I1, P1) ∧ fX9_strew J x y z = some (a, J1) ∧ _
  have b1 := hG.1.1.1.2
  unfold fX8_strew fX9_strew
  simp only [isB_sp]
  rcases rng x 0 9 (by omega) (by omega) with ⟨a, -, ha, rfl, e3⟩ | ⟨-, e3⟩
  · rw [show fX9_in (nI a) 0 9 = _ from e3, bd1, bd1, jf1, jf1]
    rcases rng y 0 9 (by omega) (by omega) with ⟨b, -, hb, rfl, e4⟩ | ⟨-, e4⟩
    · rw [show fX9_in (nI b) 0 9 = _ from e4, bd1, bd1, jf1, jf1]
      rcases rng z 1 20 (by omega) (by omega) with ⟨m, h1, hm, rfl, e5⟩ | ⟨-, e5⟩
      · rw [show fX9_in (nI m) 1 20 = _ from e5, bd1, bd1, if1, if1, strew_C0 hC.1.1 hG.1 ha hb h1 hm, bd1]
        simp only []
        obtain ⟨I1, P1, J1, r1, r2, r3, r4, r6, r7, r5⟩ := doIt hG hC hM
        obtain ⟨g1, g2, g3, g4, g5, g6⟩ := al_g (a := a) (b := b) (m := m) hG.1 (A.1 0) (Nat.le_refl _)
        rw [r2, bd1]
        refine strew_M r4 hG.1 ha hb h1 hm _ (fun o => ∃ a_1 I1 P1 J1 A', (if ¬ nI (caR A.1 a b m (A.1 0)) = 0 then (fX1_record I P 2).bind fun v9 => (fX7_strewOver v9.1 (nI a) (nI b) (nI m) 1).bind fun v10 => some (nI (caR A.1 a b m (A.1 0)), v10.2, v9.2) else some ((-5), I, P)) = some (a_1, I1, P1) ∧ o = some (a_1, J1) ∧ GI A' ∧ CI I1 P1 A' ∧ MI J1 A' ∧ FrC I I1 ∧ FrM J J1) (fun K hK hF => ?_)
        rw [g5]
        by_cases q : caR A.1 a b m (A.1 0) = 0
        · rw [q, ifn (show ¬ ¬ nI 0 = (0 : Int32) from fun z => z rfl), ifn (show ¬ ¬ nI 0 = (0 : Int32) from fun z => z rfl)]
          rw [g4 (by omega)] at hK
          have hM1 : MI J1 A := by
            obtain ⟨h1, h2, h3, h4⟩ := id hM
            exact ⟨r4, by rw [r7 134 (by omega), r7 137 (by omega)]; exact h2, by rw [r7 139 (by omega), r7 138 (by omega)]; exact h3, by rw [r7 134 (by omega), r7 146 (by omega)]; exact h4⟩
          exact ⟨_, I, P, K, A, rfl, rfl, hG, hC, hM1.fm hF hK, FrC.rf, fun a ha => by rw [hF.1 a (by omega), r7 a (by omega)]⟩
        · have q' : ¬ nI (caR A.1 a b m (A.1 0)) = (0 : Int32) := fun z => q ((eqN (b := 0) (by omega) (by omega)).mp z)
          rw [ifp q', ifp q', r1, bd1]
          simp only []
          obtain ⟨I2, v, s1, s2, s3⟩ := strew_C1 r3 hG.1 ha hb h1 hm
          obtain ⟨J3, d1, d2, d3, d4, d5, d6⟩ := r5 _ I2 K (nI (caR A.1 a b m (A.1 0))) g1 s3 s2 hF hK
          rw [s1, bd1, d1, bd1]
          exact ⟨_, _, P1, J3, _, rfl, rfl, d2, d3, d4, d5, d6⟩
      · rw [show fX9_in z 1 20 = _ from e5, bd1, bd1, if0, if0]
        exact refuse hG hC hM _
    · rw [show fX9_in y 0 9 = _ from e4, bd1, bd1, jf0, jf0]
      exact refuse hG hC hM _
  · rw [show fX9_in x 0 9 = _ from e3, bd1, bd1, jf0, jf0]
    exact refuse hG hC hM _
