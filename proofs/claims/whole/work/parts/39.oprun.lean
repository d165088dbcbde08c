/-! a plan from the first order to the last -/
theorem letterOf_C {K : II} {oc j : Nat} (h : K 88 4 = nI oc) (ho : oc ≤ 40) (hj : j < oc) {x : Int32} (hx : K 90 j = x) (hb : bC x = true) : fX2_letterOf K (nI j) = some x := by
  unfold fX2_letterOf
  rw [h, ifn (show ¬ nI j < (0 : Int32) from fun z => by have := (nI_ltI (b := 0) (by omega) (by omega)).mp z; omega), ifn (nle (by omega) (by omega) hj), ifn (show ¬ (40 : Int32) ≤ nI j from nle (a := 40) (by omega) (by omega) (by omega)), ckN (show j < 40 by omega) (by omega), tnN (show j < 2 ^ 31 by omega), hx, ck_t hb]
theorem numberOf_C {K : II} {oc j N : Nat} (h : K 88 4 = nI oc) (ho : oc ≤ 40) (hj : j < oc) {x : Int32} (hx : K 90 j = x) (hn : K 91 j = nI N) (hN : N ≤ 50) : fX2_numberOf K (nI j) = some (if x = 35 then nI N else nI (max N 1)) := by
  unfold fX2_numberOf
  rw [h, ifn (show ¬ nI j < (0 : Int32) from fun z => by have := (nI_ltI (b := 0) (by omega) (by omega)).mp z; omega), ifn (nle (by omega) (by omega) hj), ifp (show nI j < (40 : Int32) from (nI_ltI (b := 40) (by omega) (by omega)).mpr (by omega)), ckN (show j < 40 by omega) (by omega), ckN (show j < 40 by omega) (by omega), ckN (show j < 40 by omega) (by omega), tnN (show j < 2 ^ 31 by omega), hx, hn]
  by_cases q : x = 35
  · rw [ifn (fun z => z q), if_pos q]
  · rw [ifp q, if_neg q, show (1 : Int32) = nI 1 from rfl, mxN (by omega) (by omega)]
theorem run_lp {ρ : Nat → Nat} (hG : Good ρ) {oc : Nat} {K1 L1 : II} {P1 : PP} (hP : PLr (ρ 2) K1 L1 oc) (v4 : Int32) (ctC : II → Option (Int32 × II × PP)) (ctM : II → Option (Int32 × II)) : ∀ (n j w : Nat) (σ : Nat → Nat) (o : Option Nat) (K L : II) (fu fv : Nat), j + n = oc → n < fu → n < fv → Good σ → σ 2 = ρ 2 → CR K σ → MR L σ → FC K1 K → FM1 L1 L → (0 < ρ 2 → o = some (7 + w) ∧ w < ρ 2) →
    ∃ σ' K' L', fX8_run_L67 fu ctC v4 P1 o (nI j) K = ctC K' ∧ fX9_run_L22 fv ctM (nI w) (nI j) L = ctM L' ∧ Good σ' ∧ σ' 2 = ρ 2 ∧ CR K' σ' ∧ MR L' σ' ∧ FC K1 K' ∧ FM1 L1 L' := by
  intro n
  induction n with
  | zero =>
    intro j w σ o K L fu fv hj hfu hfv hS s2 c1 m1 fK fL ho
    obtain ⟨fu, rfl⟩ : ∃ m, fu = m + 1 := ⟨fu - 1, by omega⟩
    obtain ⟨fv, rfl⟩ : ∃ m, fv = m + 1 := ⟨fv - 1, by omega⟩
    have h40 := hP.2.2.1
    refine ⟨σ, K, L, ?_, ?_, hS, s2, c1, m1, fK, fL⟩
    · show (if (K 88 4) ≤ nI j then ctC K else _) = _
      rw [fK 88 (by omega), hP.1, ifp (yle (by omega) (by omega) (by omega))]
    · show (if (L 134 15) ≤ nI j then ctM L else _) = _
      rw [fL.2 15 (by omega), hP.2.1, ifp (yle (by omega) (by omega) (by omega))]
  | succ n ih =>
    intro j w σ o K L fu fv hj hfu hfv hS s2 c1 m1 fK fL
    obtain ⟨fu, rfl⟩ : ∃ m, fu = m + 1 := ⟨fu - 1, by omega⟩
    obtain ⟨fv, rfl⟩ : ∃ m, fv = m + 1 := ⟨fv - 1, by omega⟩
    have h40 := hP.2.2.1
    have h8 := hG.2.1
    obtain ⟨x, N, x1, x2, x3, x4, x5, x6⟩ := hP.2.2.2 j (by omega)
    have hN : N ≤ 50 := by
      rcases x6 with y | y
      · have := y.2.2; omega
      · exact y.2.2
    have k4 : K 88 4 = nI oc := by rw [fK 88 (by omega)]; exact hP.1
    have eL := letterOf_C k4 h40 (show j < oc by omega) (x := x) (by rw [fK 90 (by omega)]; exact x3) x2
    have eN := numberOf_C k4 h40 (show j < oc by omega) (x := x) (N := N) (by rw [fK 90 (by omega)]; exact x3) (by rw [fK 91 (by omega)]; exact x5) hN
    have cj : ∀ {α : Type} {k : Option α}, ck (ix (nI j) 40) k = k := ckN (show j < 40 by omega) (by omega)
    have eC : fX8_run_L67 (fu + 1) ctC v4 P1 o (nI j) K = (if ¬ x = 35 then (if ¬ x = 114 then (match o with | none => fX8_run_L67 fu ctC v4 P1 none (nI (j + 1)) K | some a11 => (fX7_obey K a11 x (if x = 35 then nI N else nI (max N 1))).bind fun v12 => fX8_run_L67 fu ctC v4 P1 (some a11) (nI (j + 1)) v12) else (fX7_makeRounds K (if x = 35 then nI N else nI (max N 1))).bind fun v13 => fX8_run_L67 fu ctC v4 P1 o (nI (j + 1)) v13) else (fX4_walkerAt K 2 (if x = 35 then nI N else nI (max N 1))).bind fun v14 => fX8_run_L67 fu ctC v4 P1 v14 (nI (j + 1)) K) := by
      show (if (K 88 4) ≤ nI j then ctC K else (fX2_letterOf K (nI j)).bind fun v7 => (fX2_numberOf K (nI j)).bind fun v8 => (if ¬ v7 = 35 then (if ¬ v7 = 114 then (match o with | none => fX8_run_L67 fu ctC v4 P1 none (nI j + 1) K | some a11 => (fX7_obey K a11 v7 v8).bind fun v12 => fX8_run_L67 fu ctC v4 P1 (some a11) (nI j + 1) v12) else (fX7_makeRounds K v8).bind fun v13 => fX8_run_L67 fu ctC v4 P1 o (nI j + 1) v13) else (fX4_walkerAt K 2 v8).bind fun v14 => fX8_run_L67 fu ctC v4 P1 v14 (nI j + 1) K)) = _
      rw [k4, ifn (nle (by omega) (by omega) (by omega)), eL, bd1, eN, bd1, nI_1]
    have eM : fX9_run_L22 (fv + 1) ctM (nI w) (nI j) L = (if ¬ x = 35 then (fX9_carryOut L (nI w) x (L 148 j)).bind fun v9 => fX9_run_L22 fv ctM (nI w) (nI (j + 1)) v9 else fX9_run_L22 fv ctM (L 148 j) (nI (j + 1)) L) := by
      show (if (L 134 15) ≤ nI j then ctM L else ck (ix (nI j) 40) ((if ¬ (L 147 (nI j).toNatClampNeg) = 35 then ck (ix (nI j) 40) (ck (ix (nI j) 40) ((fX9_carryOut L (nI w) (L 147 (nI j).toNatClampNeg) (L 148 (nI j).toNatClampNeg)).bind fun v9 => fX9_run_L22 fv ctM (nI w) (nI j + 1) v9)) else ck (ix (nI j) 40) (fX9_run_L22 fv ctM (L 148 (nI j).toNatClampNeg) (nI j + 1) L)))) = _
      rw [fL.2 15 (by omega), hP.2.1, ifn (nle (by omega) (by omega) (by omega)), nI_1, tnN (show j < 2 ^ 31 by omega), fL.1 147 (by omega), x4]
      simp only [cj]
    intro ho
    rw [eC, eM, fL.1 148 (by omega)]
    rcases x6 with ⟨y1, y2, y3⟩ | ⟨y1, y2, y3⟩
    · rw [ifn (show ¬ ¬ x = 35 from fun z => z y1), ifn (show ¬ ¬ x = 35 from fun z => z y1), if_pos y1, y2, walkerAt_C (ρ := σ) c1.1.1.2.2.1 (by omega) (by omega), bd1]
      exact ih (j + 1) N σ _ K L fu fv (by omega) (by omega) (by omega) hS s2 c1 m1 fK fL (fun _ => ⟨rfl, y3⟩)
    · rw [ifp y1, ifp y1, if_neg y1, y2]
      by_cases q : x = 114
      · rw [ifn (fun z => z q)]
        obtain ⟨K', a1, a2, a3⟩ := makeRounds_C c1 hS (k := max N 1) (by omega)
        obtain ⟨L', b1, b2, b3⟩ := carry15 (m := max N 1) (by omega) hS m1
        have g := rds_g hS (max N 1)
        have e : fX9_carryOut L (nI w) x (nI (max N 1)) = some L' := by
          unfold fX9_carryOut
          rw [q, show fX9_directionOf 114 = some (-5) from rfl, bd1, ifn (fun z => z rfl), b1]
        rw [a1, bd1, e, bd1]
        exact ih (j + 1) w _ o K' L' fu fv (by omega) (by omega) (by omega) g.1 (by rw [g.2 2 (by omega) (by omega)]; exact s2) a2 b2 (fK.tr a3) (fL.tr b3) ho
      · rw [ifp q]
        have hx : 0 < ρ 2 ∧ (x = 110 ∨ x = 101 ∨ x = 115 ∨ x = 119 ∨ x = 103 ∨ x = 100) := by
          rcases x1 with e | e | e
          · exact absurd e q
          · exact absurd e y1
          · exact e
        obtain ⟨h1, h2⟩ := ho hx.1
        obtain ⟨σ', K', L', a1, a2, a3, a4, a5, a6, a7, a8⟩ := order_CM (m := max N 1) hS (show w < σ 2 by omega) (by omega) c1 m1 hx.2
        rw [h1]
        simp only []
        rw [a1, a2, bd1, bd1]
        exact ih (j + 1) w σ' _ K' L' fu fv (by omega) (by omega) (by omega) a5 (by omega) a3 a4 (fK.tr a7) (fL.tr a8) (fun _ => ⟨rfl, h2⟩)
theorem op_run : OpS (fun I P => fX8_run I P) (fun J => fX9_run J) := by
  intro A I P J hG hC hM
  show ∃ a I1 P1 J1 A', fX8_run I P = some (a, I1, P1) ∧ fX9_run J = some (a, J1) ∧ _
  have g2 := hG.1.2.1
  have hlen := hG.2.2.2.1
  have b5 : ¬ (-5 : Int32) = 0 := by decide
  unfold fX8_run fX9_run fX2_readOrders fX9_readPlan
  rw [show I 2 4 = nI (A.1 2) from hC.1.1.1.2.2.1, bd1, bd1, bd1]
  have f0 : FP I (up2 (up2 I 88 4 0) 88 5 0) := FP.a4.tr FP.a5
  have f1 : FQ J (up2 J 134 15 0) := FQ.a134
  have hC0 := hC.fp hG f0
  have hM0 := hM.fq f1
  -- what was read
  have rd : ∃ K' L' r s, fX2_readOrders_L12 2000 (fun I8 => (if (I8 88 1) = 0 then some ((I8 88 1), I8) else (if (I8 88 5) = 0 then some ((-1), I8) else some ((I8 88 1), I8)))) (nI (A.1 2)) 0 (up2 (up2 I 88 4 0) 88 5 0) = some (r, K') ∧ fX9_readPlan_L7 2000 (fun I42 => some ((-5), I42)) 0 (up2 J 134 15 0) = some (s, L') ∧ FP (up2 (up2 I 88 4 0) 88 5 0) K' ∧ FQ (up2 J 134 15 0) L' ∧ ((r = -1 ∧ s = -5 ∧ ∃ oc', PLr (A.1 2) K' L' oc') ∨ ∃ q, q ≤ 40 ∧ r = nI q ∧ s = nI q) := by
    by_cases q : A.2.2.2.1 = 0
    · have k1 := hC0.2.2.2.1
      have l1 := hM0.2.2.2.1
      rw [q] at k1 l1
      refine ⟨_, _, nI 0, nI 0, ?_, ?_, FP.rf, FQ.rf, Or.inr ⟨0, by omega, rfl, rfl⟩⟩
      · show (if ((up2 (up2 I 88 4 0) 88 5 0) 88 1) ≤ 0 then (if ((up2 (up2 I 88 4 0) 88 5 0) 88 1) = 0 then some (((up2 (up2 I 88 4 0) 88 5 0) 88 1), (up2 (up2 I 88 4 0) 88 5 0)) else _) else _) = _
        rw [k1, ifp (show nI 0 ≤ (0 : Int32) by decide), ifp (show nI 0 = (0 : Int32) from rfl)]
      · show (if (0 : Int32) < ((up2 J 134 15 0) 134 13) then _ else (if ¬ (0 : Int32) = 0 then _ else fX9_readPlan_J19 _ _ (up2 J 134 15 0) 0)) = _
        rw [l1, ifn (show ¬ (0 : Int32) < nI 0 by decide), if0]
        unfold fX9_readPlan_J19
        rw [l1, ifp (show (0 : Int32) = nI 0 from rfl)]
        rfl
    · exact read_CM g2 hlen hG.2.2.2.2 _ _ hC0.2.2.2.1 hC0.2.2.2.2 hM0.2.2.2.1 hM0.2.2.2.2 (hM0.1 2 (by omega)) (by omega) A.2.2.2.1 0 0 2000 2000 _ _ (by omega) (by omega) (by omega) (by omega) FP.rf FQ.rf ⟨by rw [up2_b (by omega), up2_a]; rfl, up2_a, by omega, fun j hj => by omega⟩ (Nat.le_refl _) up2_a (fun _ _ => Or.inl rfl)
  obtain ⟨K', L', r, s, e1, e2, e3, e4, e5⟩ := rd
  rw [e1, e2, bd1, bd1]
  simp only []
  have hC1 := hC0.fp hG e3
  have hM1 := hM0.fq e4
  have frC : FrC I K' := fun a ha => by rw [e3.1 a (by omega) (by omega) (by omega), f0.1 a (by omega) (by omega) (by omega)]
  have frM : FrM J L' := fun a ha => by rw [e4.1 a (by omega) (by omega) (by omega), f1.1 a (by omega) (by omega) (by omega)]
  rcases e5 with ⟨h1, h2, oc, hPL⟩ | ⟨q, h1, h2, h3⟩
  · rw [h1, h2, ifp m1_neg, ifp m5_neg]
    obtain ⟨I1, P1, r1, r2, r3⟩ := record_C hC1 hG
    obtain ⟨I1', P1', J1, r1', rb, -, r4, r6, r7, r5⟩ := doIt hG hC1 hM1
    rw [r1] at r1'
    obtain ⟨rfl, rfl⟩ : I1 = I1' ∧ P1 = P1' := by
      have := Option.some.inj r1'
      exact ⟨congrArg Prod.fst this, congrArg Prod.snd this⟩
    obtain ⟨J1', b1, b2, b3⟩ := begin_M hM1.1
    rw [rb] at b1
    obtain rfl : J1 = J1' := Option.some.inj b1
    rw [r1, rb, bd1, bd1]
    simp only []
    have c1 : CR I1 A.1 := r2.1
    rw [stpC c1.1 g2, bd1]
    have hP1 : PLr (A.1 2) I1 J1 oc := by
      obtain ⟨p1, p2, p3, p4⟩ := hPL
      refine ⟨by rw [r3 88 (by omega)]; exact p1, by rw [r7 134 (by omega)]; exact p2, p3, fun j hj => ?_⟩
      rw [r3 90 (by omega), r3 91 (by omega), r7 147 (by omega), r7 148 (by omega)]
      exact p4 j hj
    have wa : ∃ o, fX4_walkerAt I1 2 0 = some o ∧ (0 < A.1 2 → o = some (7 + 0) ∧ 0 < A.1 2) := by
      by_cases w : 0 < A.1 2
      · exact ⟨some (7 + 0), walkerAt_C (w := 0) c1.1.1.2.2.1 g2 w, fun _ => ⟨rfl, w⟩⟩
      · refine ⟨none, ?_, fun z => absurd z w⟩
        unfold fX4_walkerAt
        rw [ifn (by decide), show I1 2 4 = nI (A.1 2) from c1.1.1.2.2.1, show A.1 2 = 0 by omega, ifp (by decide)]
    obtain ⟨o, o1, o2⟩ := wa
    rw [o1, bd1]
    obtain ⟨σ, K2, L2, u1, u2, u3, u4, u5, u6, u7, u8⟩ := run_lp hG.1 (P1 := P1) hP1 (nI (sm (fun w => A.1 (wI w 6)) (A.1 2))) (fun I15 => (fX4_allSteps I15 2).bind fun v16 => some ((v16 - (nI (sm (fun w => A.1 (wI w 6)) (A.1 2)))), I15, P1)) (fun I11 => (fX9_done I11 ((I11 135 8) - (I11 136 8))).bind fun v12 => some (v12.1, v12.2)) oc 0 0 A.1 o I1 J1 2000 2000 (by omega) (by have := hPL.2.2.1; omega) (by have := hPL.2.2.1; omega) hG.1 rfl c1 r4 FC.rf FM1.rf o2
    obtain ⟨J3, d1, d2, d3, d4, d5, d6⟩ := r5 σ K2 L2 (nI (σ 8) - nI (A.1 8)) u3 u7 u5 u8 u6
    rw [show fX8_run_L67 2000 (fun I15 => (fX4_allSteps I15 2).bind fun v16 => some ((v16 - (nI (sm (fun w => A.1 (wI w 6)) (A.1 2)))), I15, P1)) (nI (sm (fun w => A.1 (wI w 6)) (A.1 2))) P1 o 0 I1 = _ from u1, show fX9_run_L22 2000 (fun I11 => (fX9_done I11 ((I11 135 8) - (I11 136 8))).bind fun v12 => some (v12.1, v12.2)) 0 0 J1 = _ from u2, stpC u5.1 (by have := u3.2.1; omega), bd1, u6 8 (by omega), u8.1 136 (by omega), b2 8 (by omega), d1, bd1, ← u3.2.2.2.2.2.2.2, ← hG.1.2.2.2.2.2.2.2]
    exact ⟨_, K2, P1, J3, _, rfl, rfl, d2, d3, d4, frC.tr d5, frM.tr d6⟩
  · have hq : ¬ nI q < (0 : Int32) := fun z => by have := (nI_ltI (b := 0) (by omega) (by omega)).mp z; omega
    rw [h2, h3, ifn hq, ifn hq]
    exact ⟨_, K', P, L', A, rfl, rfl, hG, hC1, hM1, frC, frM⟩
