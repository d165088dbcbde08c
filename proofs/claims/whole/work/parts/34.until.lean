/-! rounds until so many heaps; the counts -/
theorem CI.as {I I' : II} {P : PP} {A : AbS} (h : CI I P A) (hG : GI A) (hf : ∀ a, a < 121 → I' a = I a) : CI I' P A := by
  obtain ⟨h1, ⟨h2, h3, h4⟩, h5, h6⟩ := h
  refine ⟨⟨h1.1.fm hG.1.2.1 (fun a _ _ => hf a (by omega)), h1.2.fm (fun a _ _ => hf a (by omega))⟩, ⟨h2, by rw [hf 21 (by omega)]; exact h3, fun i hi => ?_⟩, fun s hs => ⟨by rw [hf _ (by omega)]; exact (h5 s hs).1, fun hk => ?_⟩, by rw [hf 88 (by omega), hf 89 (by omega)]; exact h6⟩
  · have hi5 : i < 5 := Nat.lt_of_lt_of_le hi hG.2.1.1
    have := HB_n (h2.1 i hi5)
    exact (h4 i hi).fm (hG.2.1.2 i hi).2.1 (fun a _ _ => hf a (by omega))
  · exact ((h5 s hs).2 hk).fm ((hG.2.2.1 s hs).2 hk).2.1 (fun a _ _ => hf a (by omega))
theorem n5 {k : Nat} (h : k < 2 ^ 31) : ¬ nI k = (-5 : Int32) := by
  intro z
  have := nI_nneg h
  rw [z] at this
  exact absurd this (by decide)
theorem until_lp {ρ : Nat → Nat} (hG : Good ρ) {t : Nat} (ht : t ≤ 256) (ctC : Int32 → II → Option (Int32 × II)) (ctM : Int32 → II → Option (Int32 × II)) (K0 L0 : II) : ∀ (n k fu fv : Nat) (K L : II), k + n = 200 → n + 2 < fu → n + 2 < fv → CR K (rds ρ k) → FC K0 K → MR L (rds ρ k) → FM1 L0 L → L 134 7 = nI (mF (gR (rds ρ k))) → t < mF (gR (rds ρ k)) →
    ∃ z y K' L', fX8_roundsUntil_L75 fu ctC (nI t) (-5) (nI (k + 1)) K = ctC z K' ∧ fX9_roundsUntil_L44 fv ctM (nI t) (nI k) L = ctM y L' ∧ FC K0 K' ∧ FM1 L0 L' ∧ ∃ m, m ≤ 128 ∧ L' 134 7 = nI m ∧ ((m ≤ t ∧ z = y) ∨ (t < m ∧ z = -5)) := by
  intro n
  induction n with
  | zero =>
    intro k fu fv K L hk hfu hfv c1 c2 m1 m2 m3 m4
    obtain ⟨fu, rfl⟩ : ∃ m, fu = m + 1 := ⟨fu - 1, by omega⟩
    obtain ⟨fv, rfl⟩ : ∃ m, fv = m + 1 := ⟨fv - 1, by omega⟩
    have hm := mF_le (gR (rds ρ k))
    refine ⟨-5, nI k, K, L, ?_, ?_, c2, m2, _, hm, m3, Or.inr ⟨m4, rfl⟩⟩
    · show (if (200 : Int32) < nI (k + 1) then ctC (-5) K else _) = _
      rw [ifp (show (200 : Int32) < nI (k + 1) from (nI_ltI (a := 200) (by omega) (by omega)).mpr (by omega))]
    · show (if (L 134 7) ≤ nI t then ctM (nI k) L else (if (200 : Int32) ≤ nI k then ctM (nI k) L else _)) = _
      rw [m3, ifn (nle (by omega) (by omega) m4), ifp (show (200 : Int32) ≤ nI k from yle (a := 200) (by omega) (by omega) (by omega))]
  | succ n ih =>
    intro k fu fv K L hk hfu hfv c1 c2 m1 m2 m3 m4
    obtain ⟨fu, rfl⟩ : ∃ m, fu = m + 1 := ⟨fu - 1, by omega⟩
    obtain ⟨fv, rfl⟩ : ∃ m, fv = m + 1 := ⟨fv - 1, by omega⟩
    have hm := mF_le (gR (rds ρ k))
    have hm' := mF_le (gR (rds ρ (k + 1)))
    have g := rds_g hG k
    have g' := rds_g hG (k + 1)
    obtain ⟨K1, a1, a2, a3⟩ := makeRounds_C c1 g.1 (k := 1) (by omega)
    change CR K1 (rds ρ (k + 1)) at a2
    obtain ⟨K2, b1, b2, b3, b4⟩ := a2.num g'.1
    obtain ⟨L1, p1, p2, p3⟩ := m_round m1 g.1
    change MR L1 (rds ρ (k + 1)) at p2
    obtain ⟨L2, q1, q2, q3⟩ := findHeaps_sp p2 g'.1.1
    have e1 : fX8_roundsUntil_L75 (fu + 1) ctC (nI t) (-5) (nI (k + 1)) K = (if nI t < nI (mF (gR (rds ρ (k + 1)))) then fX8_roundsUntil_L75 fu ctC (nI t) (-5) (nI (k + 1 + 1)) K2 else fX8_roundsUntil_L75 fu ctC (nI t) (nI (k + 1)) (nI (k + 1 + 1)) K2) := by
      show (if (200 : Int32) < nI (k + 1) then ctC (-5) K else (if ¬ (-5 : Int32) = (-5) then ctC (-5) K else (fX7_makeRounds K 1).bind fun v9 => (fX0_numberIn v9 3).bind fun v10 => (if nI t < v10.1 then fX8_roundsUntil_L75 fu ctC (nI t) (-5) (nI (k + 1) + 1) v10.2 else fX8_roundsUntil_L75 fu ctC (nI t) (nI (k + 1)) (nI (k + 1) + 1) v10.2))) = _
      rw [ifn (show ¬ (200 : Int32) < nI (k + 1) from fun z => by have := (nI_ltI (a := 200) (by omega) (by omega)).mp z; omega), ifn (fun z => z rfl), show fX7_makeRounds K 1 = _ from a1, bd1, b1, bd1, nI_1]
    have e2 : fX9_roundsUntil_L44 (fv + 1) ctM (nI t) (nI k) L = fX9_roundsUntil_L44 fv ctM (nI t) (nI (k + 1)) L2 := by
      show (if (L 134 7) ≤ nI t then ctM (nI k) L else (if (200 : Int32) ≤ nI k then ctM (nI k) L else (fX9_oneRound L).bind fun v8 => (fX9_findHeaps v8).bind fun v9 => fX9_roundsUntil_L44 fv ctM (nI t) (nI k + 1) v9)) = _
      rw [m3, ifn (nle (by omega) (by omega) m4), ifn (show ¬ (200 : Int32) ≤ nI k from nle (a := 200) (by omega) (by omega) (by omega)), p1, bd1, q1, bd1, nI_1]
    rw [e1, e2]
    have hF : FC K0 K2 := c2.tr (a3.tr b4)
    have hL : FM1 L0 L2 := m2.tr (p3.tr q3.w)
    by_cases q : t < mF (gR (rds ρ (k + 1)))
    · rw [ifp ((nI_ltI (by omega) (by omega)).mpr q)]
      exact ih (k + 1) fu fv K2 L2 (by omega) (by omega) (by omega) b2 hF (p2.fm q3) hL q2.1 q
    · rw [ifn (fun z => q ((nI_ltI (by omega) (by omega)).mp z))]
      obtain ⟨fu, rfl⟩ : ∃ m, fu = m + 1 := ⟨fu - 1, by omega⟩
      obtain ⟨fv, rfl⟩ : ∃ m, fv = m + 1 := ⟨fv - 1, by omega⟩
      refine ⟨nI (k + 1), nI (k + 1), K2, L2, ?_, ?_, hF, hL, _, hm', q2.1, Or.inl ⟨by omega, rfl⟩⟩
      · show (if (200 : Int32) < nI (k + 1 + 1) then ctC (nI (k + 1)) K2 else (if ¬ nI (k + 1) = (-5) then ctC (nI (k + 1)) K2 else _)) = _
        by_cases r : (200 : Int32) < nI (k + 1 + 1)
        · rw [ifp r]
        · rw [ifn r, ifp (n5 (by omega))]
      · show (if (L2 134 7) ≤ nI t then ctM (nI (k + 1)) L2 else _) = _
        rw [q2.1, ifp (yle (by omega) (by omega) (by omega))]
theorem op_roundsUntil (x : Int32) : OpS (fun I P => (fX8_roundsUntil I x).bind fun r => some (r.1, r.2, P)) (fun J => fX9_roundsUntil J x) := by
  intro A I P J hG hC hM
  show ∃ a I1 P1 J1 A', ((fX8_roundsUntil I x).bind fun r => some (r.1, r.2, P)) = some (a, I1, P1) ∧ fX9_roundsUntil J x = some (a, J1) ∧ _
  have g2 := hG.1.2.1
  have hmF := mF_le (gR A.1)
  unfold fX8_roundsUntil fX9_roundsUntil
  rw [isB_sp]
  rcases rng x 0 256 (by omega) (by omega) with ⟨t, -, ht, rfl, e3⟩ | ⟨-, e3⟩
  · obtain ⟨I2, n1, n2, n3, n4⟩ := hC.num hG
    obtain ⟨J2, f1, f2, f3, f4⟩ := hM.fnd hG
    obtain ⟨J3, b1, b2, b3⟩ := begin_M f3.1
    have hJ3 : J3 134 7 = nI (mF (gR A.1)) := by rw [b3 134 (by omega)]; exact f2.1
    have w2 : nI (A.1 2) = (0 : Int32) ↔ A.1 2 = 0 := eqN (b := 0) (by omega) (by omega)
    rw [show fX9_in (nI t) 0 256 = _ from e3, bd1, bd1, if1, if1, n1, f1, bd1, bd1, f2.1]
    simp only []
    rw [show I2 2 4 = _ from n2.1.1.1.2.2.1, f3.1 2 (by omega)]
    -- back to the row from the scratch
    have back : ∀ (L : II), FM1 J3 L → ∃ L', fX9_goBack L = some L' ∧ MI L' A ∧ FrM J L' := by
      intro L hL
      obtain ⟨L', l1, l2, l3⟩ := goBack_M (I := L) (ρ := A.1) (fun k hk => by rw [hL.1 136 (by omega)]; exact b2 k hk)
      obtain ⟨h1, h2, h3, h4⟩ := id f3
      refine ⟨L', l1, ⟨l2, by rw [l3 134 (by omega), l3 137 (by omega), hL.2 3 (by omega), hL.1 137 (by omega), b3 134 (by omega), b3 137 (by omega)]; exact h2, by rw [l3 139 (by omega), l3 138 (by omega), hL.1 139 (by omega), hL.1 138 (by omega), b3 139 (by omega), b3 138 (by omega)]; exact h3, by rw [l3 134 (by omega), l3 146 (by omega), hL.2 13 (by omega), hL.1 146 (by omega), b3 134 (by omega), b3 146 (by omega)]; exact h4⟩, fun a ha => ?_⟩
      rw [l3 a (by omega), hL.1 a (by omega), b3 a (by omega), f4.1 a (by omega)]
    by_cases q1 : mF (gR A.1) ≤ t
    · rw [ifn (fun z => by have := (nI_ltI (by omega) (by omega)).mp z; omega), ifp (yle (by omega) (by omega) q1), b1, bd1, bd1]
      obtain ⟨L', l1, l2, l3⟩ := back J3 FM1.rf
      rw [show fX9_roundsUntil_L44 2000 (fun z10 I11 => (if nI t < (I11 134 7) then (fX9_goBack I11).bind fun v13 => some ((-5), v13) else (fX9_goBack I11).bind fun v14 => some (z10, v14))) (nI t) 0 J3 = (if (J3 134 7) ≤ nI t then (if nI t < (J3 134 7) then (fX9_goBack J3).bind fun v13 => some ((-5), v13) else (fX9_goBack J3).bind fun v14 => some (0, v14)) else _) from rfl, hJ3, ifp (yle (by omega) (by omega) q1), ifn (fun z => by have := (nI_ltI (by omega) (by omega)).mp z; omega), l1, bd1]
      exact ⟨_, I2, P, L', A, rfl, rfl, hG, n2, l2, n4.w, l3⟩
    · rw [ifp ((nI_ltI (by omega) (by omega)).mpr (by omega)), ifn (nle (by omega) (by omega) (by omega))]
      by_cases q2 : A.1 2 = 0
      · rw [ifn (fun z => z (w2.mpr q2)), ifn (fun z => z (w2.mpr q2)), bd1]
        exact ⟨_, I2, P, J2, A, rfl, rfl, hG, n2, f3, n4.w, f4.w.w⟩
      · rw [ifp (fun z => q2 (w2.mp z)), ifp (fun z => q2 (w2.mp z)), b1, bd1]
        obtain ⟨K0, k1, k2, k3⟩ := copy_G (I := I2) (a := 121) (b := 2) (by omega) n2.1.1 hG.1
        have hK0 := n2.as hG (I' := K0) (fun a ha => k3 a (by omega))
        rw [k1, bd1]
        obtain ⟨z, y, K', L', u1, u2, u3, u4, m, u5, u6, u7⟩ := until_lp hG.1 ht (fun z12 I13 => (fX7_load I13 121).bind fun v14 => some (z12, v14)) (fun z17 I18 => (if nI t < (I18 134 7) then (fX9_goBack I18).bind fun v20 => some ((-5), v20) else (fX9_goBack I18).bind fun v21 => some (z17, v21))) K0 J3 200 0 2000 2000 K0 J3 (by omega) (by omega) (by omega) hK0.1 FC.rf (fun k hk => by rw [b3 135 (by omega)]; exact f3.1 k hk) FM1.rf hJ3 (by show t < mF (gR A.1); omega)
        rw [show fX8_roundsUntil_L75 2000 (fun z12 I13 => (fX7_load I13 121).bind fun v14 => some (z12, v14)) (nI t) (-5) 1 K0 = _ from u1, show fX9_roundsUntil_L44 2000 (fun z17 I18 => (if nI t < (I18 134 7) then (fX9_goBack I18).bind fun v20 => some ((-5), v20) else (fX9_goBack I18).bind fun v21 => some (z17, v21))) (nI t) 0 J3 = _ from u2, u6]
        obtain ⟨K2, l1, l2, l3⟩ := load_C (I := K') (b := 121) (by omega) (k2.fm hG.1.2.1 (fun a _ _ => u3 a (by omega))) hG.1
        obtain ⟨L2, p1, p2, p3⟩ := back L' u4
        have hCI : CI K2 P A := hK0.fc hG (u3.tr l3) l2
        have hFr : FrC I K2 := fun a ha => by rw [l3 a (by omega), u3 a (by omega), k3 a (by omega), n4 a (by omega)]
        rw [l1, p1, bd1, bd1, bd1, bd1]
        rcases u7 with ⟨h1, h2⟩ | ⟨h1, h2⟩
        · rw [ifn (fun z => by have := (nI_ltI (by omega) (by omega)).mp z; omega), h2]
          exact ⟨_, K2, P, L2, A, rfl, rfl, hG, hCI, p2, hFr, p3⟩
        · rw [ifp ((nI_ltI (by omega) (by omega)).mpr h1), h2]
          exact ⟨_, K2, P, L2, A, rfl, rfl, hG, hCI, p2, hFr, p3⟩
  · rw [show fX9_in x 0 256 = _ from e3, bd1, bd1, if0, if0, bd1]
    exact refuse hG hC hM _
theorem pocC {I : II} {ρ : Nat → Nat} (h : CS I 2 ρ) (g2 : ρ 2 ≤ 8) : fX4_allPockets I 2 = some (nI (sm (fun w => ρ (wI w 3)) (ρ 2))) := by
  have lp : ∀ (n x : Nat) (fu : Nat), x + n = ρ 2 → n < fu → fX4_allPockets_L4 fu (fun z3 => some z3) 2 I (nI (sm (fun w => ρ (wI w 3)) x)) (nI x) = some (nI (sm (fun w => ρ (wI w 3)) (ρ 2))) := by
    intro n
    induction n with
    | zero =>
      intro x fu hx hf
      obtain ⟨fu, rfl⟩ : ∃ m, fu = m + 1 := ⟨fu - 1, by omega⟩
      show (if (I 2 4) ≤ nI x then some (nI (sm (fun w => ρ (wI w 3)) x)) else _) = _
      rw [h.1.2.2.1, ifp (yle (by omega) (by omega) (by omega)), show x = ρ 2 by omega]
    | succ n ih =>
      intro x fu hx hf
      obtain ⟨fu, rfl⟩ : ∃ m, fu = m + 1 := ⟨fu - 1, by omega⟩
      show (if (I 2 4) ≤ nI x then some (nI (sm (fun w => ρ (wI w 3)) x)) else (fX4_walkerAt I 2 (nI x)).bind fun v2 => (match v2 with | none => fX4_allPockets_L4 fu (fun z3 => some z3) 2 I (nI (sm (fun w => ρ (wI w 3)) x) + 0) (nI x + 1) | some a3 => fX4_allPockets_L4 fu (fun z3 => some z3) 2 I (nI (sm (fun w => ρ (wI w 3)) x) + (I a3 3)) (nI x + 1))) = _
      rw [h.1.2.2.1, ifn (nle (by omega) (by omega) (by omega)), walkerAt_C h.1.2.2.1 g2 (show x < ρ 2 by omega), bd1]
      simp only []
      rw [show I (7 + x) 3 = _ from h.2.2.2.2 x 3 (by omega) (by omega), nI_add, nI_1]
      exact ih (x + 1) fu (by omega) (by omega)
  exact lp (ρ 2) 0 2000 (by omega) (by omega)
theorem stpC {I : II} {ρ : Nat → Nat} (h : CS I 2 ρ) (g2 : ρ 2 ≤ 8) : fX4_allSteps I 2 = some (nI (sm (fun w => ρ (wI w 6)) (ρ 2))) := by
  have lp : ∀ (n x : Nat) (fu : Nat), x + n = ρ 2 → n < fu → fX4_allSteps_L4 fu (fun z3 => some z3) 2 I (nI (sm (fun w => ρ (wI w 6)) x)) (nI x) = some (nI (sm (fun w => ρ (wI w 6)) (ρ 2))) := by
    intro n
    induction n with
    | zero =>
      intro x fu hx hf
      obtain ⟨fu, rfl⟩ : ∃ m, fu = m + 1 := ⟨fu - 1, by omega⟩
      show (if (I 2 4) ≤ nI x then some (nI (sm (fun w => ρ (wI w 6)) x)) else _) = _
      rw [h.1.2.2.1, ifp (yle (by omega) (by omega) (by omega)), show x = ρ 2 by omega]
    | succ n ih =>
      intro x fu hx hf
      obtain ⟨fu, rfl⟩ : ∃ m, fu = m + 1 := ⟨fu - 1, by omega⟩
      show (if (I 2 4) ≤ nI x then some (nI (sm (fun w => ρ (wI w 6)) x)) else (fX4_walkerAt I 2 (nI x)).bind fun v2 => (match v2 with | none => fX4_allSteps_L4 fu (fun z3 => some z3) 2 I (nI (sm (fun w => ρ (wI w 6)) x) + 0) (nI x + 1) | some a3 => fX4_allSteps_L4 fu (fun z3 => some z3) 2 I (nI (sm (fun w => ρ (wI w 6)) x) + (I a3 6)) (nI x + 1))) = _
      rw [h.1.2.2.1, ifn (nle (by omega) (by omega) (by omega)), walkerAt_C h.1.2.2.1 g2 (show x < ρ 2 by omega), bd1]
      simp only []
      rw [show I (7 + x) 6 = _ from h.2.2.2.2 x 6 (by omega) (by omega), nI_add, nI_1]
      exact ih (x + 1) fu (by omega) (by omega)
  exact lp (ρ 2) 0 2000 (by omega) (by omega)
theorem pocM {J : II} {ρ : Nat → Nat} (h : MR J ρ) (g2 : ρ 2 ≤ 8) : fX9_pocketed J = some (nI (sm (fun w => ρ (wI w 3)) (ρ 2))) := by
  have lp : ∀ (n x : Nat) (fu : Nat), x + n = ρ 2 → n < fu → fX9_pocketed_L4 fu (fun z3 => some z3) J (nI (sm (fun w => ρ (wI w 3)) x)) (nI x) = some (nI (sm (fun w => ρ (wI w 3)) (ρ 2))) := by
    intro n
    induction n with
    | zero =>
      intro x fu hx hf
      obtain ⟨fu, rfl⟩ : ∃ m, fu = m + 1 := ⟨fu - 1, by omega⟩
      show (if (J 135 2) ≤ nI x then some (nI (sm (fun w => ρ (wI w 3)) x)) else _) = _
      rw [h 2 (by omega), ifp (yle (by omega) (by omega) (by omega)), show x = ρ 2 by omega]
    | succ n ih =>
      intro x fu hx hf
      obtain ⟨fu, rfl⟩ : ∃ m, fu = m + 1 := ⟨fu - 1, by omega⟩
      show (if (J 135 2) ≤ nI x then some (nI (sm (fun w => ρ (wI w 3)) x)) else (fX9_of J (nI x) 3).bind fun v2 => fX9_pocketed_L4 fu (fun z3 => some z3) J (nI (sm (fun w => ρ (wI w 3)) x) + v2) (nI x + 1)) = _
      rw [h 2 (by omega), ifn (nle (by omega) (by omega) (by omega)), show fX9_of J (nI x) 3 = _ from m_of h (by omega) 3 (by omega), bd1, nI_add, nI_1]
      exact ih (x + 1) fu (by omega) (by omega)
  exact lp (ρ 2) 0 2000 (by omega) (by omega)
theorem op_count (x : Int32) : OpS (fun I P => (fX8_count I x).bind fun r => some (r.1, r.2, P)) (fun J => fX9_count J x) := by
  intro A I P J hG hC hM
  show ∃ a I1 P1 J1 A', ((fX8_count I x).bind fun r => some (r.1, r.2, P)) = some (a, I1, P1) ∧ fX9_count J x = some (a, J1) ∧ _
  have g2 := hG.1.2.1
  have m0 := hM.1
  obtain ⟨⟨a0, a1, a4, a6, a7⟩, c2, ⟨t1, t2, t3⟩, -, -⟩ := hC.1.1
  obtain ⟨I2, n1, n2, n3, n4⟩ := hC.num hG
  obtain ⟨J2, f1, f2, f3, f4⟩ := hM.fnd hG
  unfold fX8_count fX9_count
  rw [sumC (g := gR A.1) c2, sumM m0, pocC hC.1.1 g2, pocM m0 g2, n1, f1, stpC hC.1.1 g2, a0, a1, a4, a6, a7, show I 5 1 = _ from t1, show I 5 2 = _ from t2, m0 0 (by omega), m0 1 (by omega), m0 2 (by omega), m0 3 (by omega), m0 4 (by omega), m0 6 (by omega), m0 7 (by omega), m0 8 (by omega), hC.2.1.2.1, hM.2.1.1, hC.2.2.2.1, hM.2.2.2.1, hG.1.2.2.2.2.2.2.2]
  have R := fun v => refuse hG hC hM v
  by_cases q0 : x = 0
  · rw [ifp q0, ifp q0, bd1]; exact R _
  rw [ifn q0, ifn q0]
  by_cases q1 : x = 1
  · rw [ifp q1, ifp q1, bd1]; exact R _
  rw [ifn q1, ifn q1]
  by_cases q2 : x = 2
  · rw [ifp q2, ifp q2, bd1]; exact R _
  rw [ifn q2, ifn q2]
  by_cases q3 : x = 3
  · rw [ifp q3, ifp q3, bd1, bd1, bd1]; exact R _
  rw [ifn q3, ifn q3]
  by_cases q4 : x = 4
  · rw [ifp q4, ifp q4, bd1, bd1, bd1]; exact R _
  rw [ifn q4, ifn q4]
  by_cases q5 : x = 5
  · rw [ifp q5, ifp q5, bd1, bd1, bd1, f2.1]
    exact ⟨_, I2, P, J2, A, rfl, rfl, hG, n2, f3, n4.w, f4.w.w⟩
  rw [ifn q5, ifn q5]
  by_cases q6 : x = 6
  · rw [ifp q6, ifp q6, bd1]; exact R _
  rw [ifn q6, ifn q6]
  by_cases q7 : x = 7
  · rw [ifp q7, ifp q7, bd1]; exact R _
  rw [ifn q7, ifn q7]
  by_cases q8 : x = 8
  · rw [ifp q8, ifp q8, bd1, bd1]; exact R _
  rw [ifn q8, ifn q8]
  by_cases q9 : x = 9
  · rw [ifp q9, ifp q9, bd1]; exact R _
  rw [ifn q9, ifn q9]
  by_cases q10 : x = 10
  · rw [ifp q10, ifp q10, bd1]; exact R _
  rw [ifn q10, ifn q10]
  by_cases q11 : x = 11
  · rw [ifp q11, ifp q11, bd1]; exact R _
  rw [ifn q11, ifn q11]
  by_cases q12 : x = 12
  · rw [ifp q12, ifp q12, bd1]; exact R _
  rw [ifn q12, ifn q12, bd1]
  exact R _
