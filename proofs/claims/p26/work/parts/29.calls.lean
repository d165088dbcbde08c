/-! the class's calls, one by one: the answer and the account behind it, as 28 has them -/
theorem isB_in (x a b : Int32) : fX8_isBetween x a b = some (if a ≤ x ∧ x ≤ b then 1 else 0) := by
  unfold fX8_isBetween
  by_cases h1 : x < a
  · rw [ifp h1, if_neg]
    rintro ⟨h2, -⟩
    rw [Int32.lt_iff_toInt_lt] at h1
    rw [Int32.le_iff_toInt_le] at h2
    omega
  · rw [ifn h1]
    by_cases h2 : b < x
    · rw [ifp h2, if_neg]
      rintro ⟨-, h3⟩
      rw [Int32.lt_iff_toInt_lt] at h2
      rw [Int32.le_iff_toInt_le] at h3
      omega
    · rw [ifn h2, if_pos]
      rw [Int32.lt_iff_toInt_lt] at h1 h2
      exact ⟨Int32.le_iff_toInt_le.mpr (by omega), Int32.le_iff_toInt_le.mpr (by omega)⟩
theorem rgX_N {lo hi m : Nat} (h1 : lo < 2 ^ 31) (h2 : hi < 2 ^ 31) (hm : m < 2 ^ 31) : rgX lo hi (nI m) ↔ lo ≤ m ∧ m ≤ hi := ⟨fun h => ⟨(leN h1 hm).mp h.1, (leN hm h2).mp h.2⟩, fun h => ⟨(leN h1 hm).mpr h.1, (leN hm h2).mpr h.2⟩⟩
theorem rngX (x : Int32) (lo hi : Nat) (h1 : lo < 2 ^ 31) (h2 : hi < 2 ^ 31) : (∃ m, lo ≤ m ∧ m ≤ hi ∧ x = nI m ∧ rgX lo hi x ∧ fX8_isBetween x (nI lo) (nI hi) = some 1) ∨ (¬ rgX lo hi x ∧ (∀ m, m ≤ hi → lo ≤ m → x ≠ nI m) ∧ fX8_isBetween x (nI lo) (nI hi) = some 0) := by
  rw [isB_in]
  by_cases h : nI lo ≤ x ∧ x ≤ nI hi
  · rw [if_pos h]
    left
    have t1 := h.1
    rw [Int32.le_iff_toInt_le, nI_toInt h1] at t1
    obtain ⟨m, hm, rfl⟩ := nnI (x := x) (by omega)
    exact ⟨m, (leN h1 hm).mp h.1, (leN hm h2).mp h.2, rfl, h, rfl⟩
  · rw [if_neg h]
    right
    refine ⟨h, fun m hm hl e => h ?_, rfl⟩
    rw [e]
    exact ⟨(leN h1 (by omega)).mpr hl, (leN (by omega) h2).mpr hm⟩
theorem ceN {r c : Nat} (hr : r < 2 ^ 31) (hc : c < 2 ^ 31) : ce (nI r) (nI c) = 16 * r + c := by
  unfold ce
  rw [tnN hr, tnN hc]
theorem okWN {W w : Nat} (h : w < W) (hW : W < 2 ^ 31) : okW W (nI w) := by
  unfold okW
  rw [nI_toInt (by omega)]
  omega
theorem cellsX {I : II} {ρ : Nat → Nat} (h : CS I 2 ρ) (hB : Bd ρ) (x y : Int32) :
    (∃ r c, r < ρ 0 ∧ c < ρ 1 ∧ x = nI r ∧ y = nI c ∧ okC (ρ 0) (ρ 1) x y ∧ fX4_cellAt I 2 x y = some (nI (16 * r + c))) ∨ (¬ okC (ρ 0) (ρ 1) x y ∧ fX4_cellAt I 2 x y = some (-1)) := by
  have hc := hasCell_C h hB x y
  have b1 := hB.1.2
  have b2 := hB.2.1.2
  unfold fX4_cellAt
  by_cases q : okC (ρ 0) (ρ 1) x y
  · left
    obtain ⟨r, hr, rfl⟩ := nnI q.1.1
    obtain ⟨c, hcc, rfl⟩ := nnI q.2.1
    have q' := (okC_nn hr hcc).mp q
    refine ⟨r, c, q'.1, q'.2, rfl, rfl, q, ?_⟩
    rw [hc.1 q, bd1, ifn (by decide), show (16 : Int32) = nI 16 from rfl, pk_mul, nI_add, Nat.mul_comm]
  · right
    rw [hc.2 q, bd1, ifp (by decide)]
    exact ⟨q, rfl⟩
theorem walkersX {I : II} {ρ : Nat → Nat} (h : I 2 4 = nI (ρ 2)) (g2 : ρ 2 ≤ 8) (x : Int32) :
    (∃ w, w < ρ 2 ∧ x = nI w ∧ okW (ρ 2) x ∧ fX4_walkerAt I 2 x = some (some (7 + w))) ∨ (¬ okW (ρ 2) x ∧ fX4_walkerAt I 2 x = some none) := by
  have t2 : (nI (ρ 2)).toInt = (ρ 2 : Int) := nI_toInt (by omega)
  have z0 : (0 : Int32).toInt = 0 := by decide
  by_cases q : 0 ≤ x.toInt ∧ x.toInt < ρ 2
  · left
    obtain ⟨w, hw, rfl⟩ := nnI q.1
    have hw2 : w < ρ 2 := by have := q.2; rw [nI_toInt hw] at this; omega
    exact ⟨w, hw2, rfl, q, walkerAt_C h g2 hw2⟩
  · right
    refine ⟨q, ?_⟩
    unfold fX4_walkerAt
    by_cases q1 : x < 0
    · rw [ifp q1]
    · rw [ifn q1, h, ifp (by rw [Int32.le_iff_toInt_le, t2]; rw [Int32.lt_iff_toInt_lt, z0] at q1; omega)]
theorem doI {A : AbS} {I : II} {P : PP} (hG : GI A) (hC : CI I P A) : ∃ I1 P1, fX1_record I P 2 = some (I1, P1) ∧ CR I1 A.1 ∧ (∀ a, a < 21 → I1 a = I a) ∧
    ∀ (ρ : Nat → Nat) (I2 : II), Good ρ → FC I1 I2 → CR I2 ρ → GI (neA A ρ) ∧ CI I2 P1 (neA A ρ) ∧ FrC I I2 := by
  obtain ⟨I1, P1, r1, r2, r3⟩ := record_C hC hG
  refine ⟨I1, P1, r1, r2.1, fun a ha => r3 a (by omega), fun ρ I2 hr f1 c1 => ⟨hG.ne hr, r2.fc (hG.ne hG.1) f1 c1, fun a ha => ?_⟩⟩
  rw [f1 a (by omega), r3 a (by omega)]
theorem noI {A : AbS} {I : II} {P : PP} (hG : GI A) (hC : CI I P A) (v : Int32) : Rs (some (v, I, P)) I (v, A) := ⟨I, P, rfl, hG, hC, FrC.rf⟩
theorem noT {A : AbS} {I : II} {P : PP} (hG : GI A) (hC : CI I P A) (v : Int32) : Rt (some (v, I)) I P (v, A) := ⟨I, rfl, hG, hC, FrC.rf⟩
theorem k_put {A : AbS} {I : II} {P : PP} (hG : GI A) (hC : CI I P A) (x y v : Int32) : Rs (fX8_put I P x y v) I (aPut A x y v) := by
  have hB := hG.1.1
  have b1 := hB.1.2
  have b2 := hB.2.1.2
  unfold fX8_put aPut
  rcases cellsX hC.1.1 hB x y with ⟨r, c, hr, hc, rfl, rfl, o, e1⟩ | ⟨o, e1⟩
  · rw [e1, bd1, ifp (nI_nneg (by omega)), if_pos o, ceN (by omega) (by omega)]
    rcases rngX v 0 99 (by omega) (by omega) with ⟨m, -, hm, rfl, g, e3⟩ | ⟨g, -, e3⟩
    · rw [show fX8_isBetween (nI m) 0 99 = _ from e3, bd1, ifp (by decide), chipsOf_C (by omega), bd1, if_pos g, tnN (by omega)]
      obtain ⟨I1, P1, r1, r3, -, r5⟩ := doI hG hC
      rw [r1, bd1]
      simp only []
      obtain ⟨I2, s1, s2, s3, s4⟩ := setChips_C r3 hG.1 (c := 16 * r + c) (by omega) hm
      rw [s1, bd1]
      obtain ⟨d2, d3, d4⟩ := r5 _ I2 (hG.1.ch (c := 16 * r + c) (v := m) (by omega) (by omega) (by omega) hm) (fun a ha => s3 a (by omega) (by omega)) s2
      rw [show I (2 + 1) (16 * r + c) = _ from hC.1.1.2.1 _ (by omega)]
      exact ⟨I2, P1, rfl, d2, d3, d4⟩
    · rw [show fX8_isBetween v 0 99 = _ from e3, bd1, ifn (by decide), if_neg g]
      exact noI hG hC _
  · rw [e1, bd1, ifn (by decide), if_neg o]
    exact noI hG hC _
theorem k_setSort {A : AbS} {I : II} {P : PP} (hG : GI A) (hC : CI I P A) (x v : Int32) : Rs (fX8_setSort I P x v) I (aSetSort A x v) := by
  have g2 := hG.1.2.1
  unfold fX8_setSort fX8_isSort aSetSort
  rcases walkersX hC.1.1.1.2.2.1 g2 x with ⟨w, hw, rfl, o, e1⟩ | ⟨o, e1⟩
  · rw [e1, bd1, if_pos o, tnN (by omega)]
    simp only []
    rcases rngX v 0 2 (by omega) (by omega) with ⟨m, -, hm, rfl, g, e3⟩ | ⟨g, -, e3⟩
    · rw [show fX8_isBetween (nI m) 0 2 = _ from e3, bd1, show bB 1 = true from rfl, ck_t rfl, bd1, ifp (by decide), if_pos g, tnN (by omega)]
      obtain ⟨I1, P1, r1, r3, r6, r5⟩ := doI hG hC
      rw [r1, bd1, bd1]
      simp only []
      obtain ⟨d2, d3, d4⟩ := r5 _ (up2 I1 (7 + w) 5 (nI m)) (hG.1.so (w := w) (by omega) hm) (fun a ha => up2_n (by omega)) (r3.wk g2 hG.1.2.2.1.2 hw (by omega))
      rw [hC.1.fl hw (by omega)]
      exact ⟨_, P1, rfl, d2, d3, d4⟩
    · rw [show fX8_isBetween v 0 2 = _ from e3, bd1, show bB 0 = true from rfl, ck_t rfl, bd1, ifn (by decide), if_neg g]
      exact noI hG hC _
  · rw [e1, bd1, if_neg o]
    exact noI hG hC _
theorem k_empty {A : AbS} {I : II} {P : PP} (hG : GI A) (hC : CI I P A) (x : Int32) : Rs (fX8_empty I P x) I (aEmpty A x) := by
  have g2 := hG.1.2.1
  unfold fX8_empty aEmpty
  rcases walkersX hC.1.1.1.2.2.1 g2 x with ⟨w, hw, rfl, o, e1⟩ | ⟨o, e1⟩
  · have hW := hG.1.2.2.2.2.2.1 w hw
    have hc := (hW.cell hG.1.1).1
    have hgc := hG.1.1.2.2.1 _ hc
    have hw8 : w < 8 := by omega
    obtain ⟨-, -, -, w4, w5, w6⟩ := hW
    rw [e1, bd1, if_pos o, tnN (by omega)]
    simp only []
    rw [under_C hC.1 hG.1 hw, bd1, hC.1.fl hw (by omega), nI_add]
    have q0 : (nI (A.1 (wI w 3)) = (0 : Int32)) ↔ A.1 (wI w 3) = 0 := eqN (b := 0) (by omega) (by omega)
    by_cases a1 : gR A.1 (cw A.1 w) + A.1 (wI w 3) ≤ 99
    · have t1 : nI (gR A.1 (cw A.1 w) + A.1 (wI w 3)) ≤ (99 : Int32) := yle (b := 99) (by omega) (by omega) a1
      rw [ifp t1, if_neg (show ¬ 99 < gR A.1 (cw A.1 w) + A.1 (wI w 3) by omega)]
      by_cases a2 : A.1 (wI w 3) = 0
      · rw [ifn (fun z => z (q0.mpr a2)), if_pos a2]
        exact noI hG hC _
      · rw [ifp (fun z => a2 (q0.mp z)), if_neg a2]
        obtain ⟨I1, P1, r1, r3, r6, r5⟩ := doI hG hC
        rw [r1, bd1]
        simp only []
        rw [r3.fl hw (by omega)]
        obtain ⟨I2, s1, s2, s3⟩ := drop_C r3 hG.1 hw a1 (Nat.le_refl _)
        have hG2 := hG.1.dr hw a1 (Nat.le_refl _)
        have hw2 : w < drR A.1 w (A.1 (wI w 3)) 2 := by rw [dr_lo (by omega)]; exact hw
        have hcw : cw (drR A.1 w (A.1 (wI w 3))) w = cw A.1 w := by
          show 16 * _ + _ = 16 * _ + _
          rw [dr_wf (by omega) hc, dr_wf (by omega) hc, if_neg (by omega), if_neg (by omega), if_neg (by omega), if_neg (by omega)]
        have hu := under_C s2 hG2 hw2
        rw [hcw, gR_dr (by omega) hc, if_pos rfl] at hu
        obtain ⟨d2, d3, d4⟩ := r5 _ I2 hG2 s3 s2
        rw [s1, bd1, hu, bd1]
        exact ⟨_, P1, rfl, d2, d3, d4⟩
    · have t1 : ¬ nI (gR A.1 (cw A.1 w) + A.1 (wI w 3)) ≤ (99 : Int32) := nle (b := 99) (by omega) (by omega) (by omega)
      rw [ifn t1, if_pos (show 99 < gR A.1 (cw A.1 w) + A.1 (wI w 3) by omega)]
      exact noI hG hC _
  · rw [e1, bd1, if_neg o]
    exact noI hG hC _
theorem walkC_lp {A : AbS} {w m : Nat} (hw : w < A.1 2) (hm : m ≤ 100) (hG : Good A.1) {I1 : II} {P1 : PP} (c1 : CR I1 A.1) :
    ∃ I2, fX8_walk_L48 2000 (fun I8 => some ((I8 (7 + w) 3), I8, P1)) (nI m) (7 + w) P1 0 I1 = some (I2 (7 + w) 3, I2, P1) ∧ CR I2 (stps A.1 w m) ∧ FC I1 I2 := by
  have lp : ∀ (n x : Nat) (K : II) (fu : Nat), x + n = m → n < fu → CR K (stps A.1 w x) → FC I1 K → ∃ I2, fX8_walk_L48 fu (fun I8 => some ((I8 (7 + w) 3), I8, P1)) (nI m) (7 + w) P1 (nI x) K = some (I2 (7 + w) 3, I2, P1) ∧ CR I2 (stps A.1 w m) ∧ FC I1 I2 := by
    intro n
    induction n with
    | zero =>
      intro x K fu hx hf k1 k2
      obtain ⟨fu, rfl⟩ : ∃ m, fu = m + 1 := ⟨fu - 1, by omega⟩
      refine ⟨K, ?_, by rw [show m = x by omega]; exact k1, k2⟩
      show (if nI m ≤ nI x then some ((K (7 + w) 3), K, P1) else _) = _
      rw [ifp (yle (by omega) (by omega) (by omega))]
    | succ n ih =>
      intro x K fu hx hf k1 k2
      obtain ⟨fu, rfl⟩ : ∃ m, fu = m + 1 := ⟨fu - 1, by omega⟩
      have g := stps_g hG hw x
      obtain ⟨L, s1, s2, s3⟩ := makeStep_C k1 g.1 (w := w) (by rw [g.2 2 (by omega) (by omega)]; exact hw)
      show ∃ I2, (if nI m ≤ nI x then some ((K (7 + w) 3), K, P1) else (fX7_makeStep K (7 + w)).bind fun v7 => fX8_walk_L48 fu (fun I8 => some ((I8 (7 + w) 3), I8, P1)) (nI m) (7 + w) P1 (nI x + 1) v7) = some (I2 (7 + w) 3, I2, P1) ∧ _
      rw [ifn (nle (by omega) (by omega) (by omega)), s1, bd1, nI_1]
      exact ih (x + 1) L fu (by omega) (by omega) s2 (k2.tr s3)
  exact lp m 0 I1 2000 (by omega) (by omega) c1 FC.rf
theorem k_walk {A : AbS} {I : II} {P : PP} (hG : GI A) (hC : CI I P A) (x v : Int32) : Rs (fX8_walk I P x v) I (aWalk A x v) := by
  have g2 := hG.1.2.1
  unfold fX8_walk aWalk
  rcases walkersX hC.1.1.1.2.2.1 g2 x with ⟨w, hw, rfl, o, e1⟩ | ⟨o, e1⟩
  · have hw8 : w < 8 := by omega
    rw [e1, bd1, if_pos o, tnN (by omega)]
    simp only []
    rcases rngX v 1 100 (by omega) (by omega) with ⟨m, hm1, hm, rfl, g, e3⟩ | ⟨g, -, e3⟩
    · rw [show fX8_isBetween (nI m) 1 100 = _ from e3, bd1, ifp (by decide), if_pos g, tnN (by omega)]
      obtain ⟨I1, P1, r1, r3, r6, r5⟩ := doI hG hC
      rw [r1, bd1]
      simp only []
      obtain ⟨I2, s1, s2, s3⟩ := walkC_lp (P1 := P1) hw hm hG.1 r3
      have gg := stps_g hG.1 hw m
      obtain ⟨d2, d3, d4⟩ := r5 _ I2 gg.1 s3 s2
      rw [s1, s2.fl (by rw [gg.2 2 (by omega) (by omega)]; exact hw) (by omega)]
      exact ⟨_, P1, rfl, d2, d3, d4⟩
    · rw [show fX8_isBetween v 1 100 = _ from e3, bd1, ifn (by decide), if_neg g]
      exact noI hG hC _
  · rw [e1, bd1, if_neg o]
    exact noI hG hC _
theorem k_rounds {A : AbS} {I : II} {P : PP} (hG : GI A) (hC : CI I P A) (v : Int32) : Rs (fX8_rounds I P v) I (aRounds A v) := by
  have g2 := hG.1.2.1
  unfold fX8_rounds aRounds
  rcases rngX v 1 50 (by omega) (by omega) with ⟨m, hm1, hm, rfl, g, e3⟩ | ⟨g, -, e3⟩
  · have q0 : (nI (A.1 2) = (0 : Int32)) ↔ A.1 2 = 0 := eqN (b := 0) (by omega) (by omega)
    rw [show fX8_isBetween (nI m) 1 50 = _ from e3, bd1, if1, show I 2 4 = _ from hC.1.1.1.2.2.1, if_pos g, tnN (by omega)]
    by_cases a2 : A.1 2 = 0
    · rw [ifn (fun z => z (q0.mpr a2)), if_pos a2]
      exact noI hG hC _
    · rw [ifp (fun z => a2 (q0.mp z)), if_neg a2]
      obtain ⟨I1, P1, r1, r3, r6, r5⟩ := doI hG hC
      rw [r1, bd1]
      simp only []
      obtain ⟨I2, s1, s2, s3⟩ := makeRounds_C r3 hG.1 (k := m) (by omega)
      have gg := rds_g hG.1 m
      obtain ⟨I3, n1, n2, n3, n4⟩ := s2.num gg.1
      rw [s1, bd1, n1, bd1]
      obtain ⟨d2, d3, d4⟩ := r5 _ I3 gg.1 (s3.tr n4) n2
      exact ⟨_, P1, rfl, d2, d3, d4⟩
  · rw [show fX8_isBetween v 1 50 = _ from e3, bd1, ifn (by decide), if_neg g]
    exact noI hG hC _
theorem k_addTurn {A : AbS} {I : II} {P : PP} (hG : GI A) (hC : CI I P A) (v : Int32) : Rs (fX8_addTurn I P v) I (aAddTurn A v) := by
  have g2 := hG.1.2.1
  have g3 := hG.1.2.2.1
  have g5 := hG.1.2.2.2.2.1
  unfold fX8_addTurn aAddTurn
  rcases rngX v 0 9 (by omega) (by omega) with ⟨m, -, hm, rfl, g, e3⟩ | ⟨g, -, e3⟩
  · rw [show fX8_isBetween (nI m) 0 9 = _ from e3, bd1, if1, show I 5 1 = _ from hC.1.1.2.2.1.1, if_pos g, tnN (by omega)]
    by_cases a2 : A.1 3 = 30
    · rw [ifn (show ¬ nI (A.1 3) < (30 : Int32) from fun z => by have := (nI_ltI (b := 30) (by omega) (by omega)).mp z; omega), if_neg (by omega)]
      exact noI hG hC _
    · rw [ifp (show nI (A.1 3) < (30 : Int32) from (nI_ltI (b := 30) (by omega) (by omega)).mpr (by omega)), if_pos (by omega)]
      obtain ⟨I1, P1, r1, r3, r6, r5⟩ := doI hG hC
      rw [r1, bd1]
      simp only []
      have key : ∀ (s : Nat) (K : II), s < 30 → s ≤ A.1 3 → (∀ a, a ≠ 5 → K a = I1 a) → K 5 1 = nI s → K 5 3 = 0 → Rs ((fX5_append_J17 K 5 (nI m)).bind fun v5 => some ((v5 5 1), v5, P1)) I (nI (s + 1), neA A (atR A.1 s m)) := by
        intro s K hs hs3 k1 k2 k3
        unfold fX5_append_J17
        rw [k2, ifn (show ¬ nI s < (0 : Int32) from fun z => by have := (nI_ltI (b := 0) (by omega) (by omega)).mp z; omega), ifn (show ¬ (30 : Int32) ≤ nI s from nle (a := 30) (by omega) (by omega) (by omega)), ckN hs (by omega), tnN (show s < 2 ^ 31 by omega), bd1, up2_n (show (5 : Nat) ≠ 5 + 1 by omega), k2, nI_1, bd1, bd1, bd1, up2_b (by omega), up2_a]
        obtain ⟨a3, a4, a5, a6, a7⟩ := at_0 (ρ := A.1) (s := s) (x := m)
        have hGn : Good (atR A.1 s m) := hG.1.tu a7 (by rw [a3]; omega) (by rw [a3, a4]; omega) (by rw [a5]; omega) (fun t ht => by
          rw [a3] at ht
          rw [a6]
          split
          · exact hm
          · exact hG.1.2.2.2.2.2.2.1 t (by omega))
        obtain ⟨d2, d3, d4⟩ := r5 (atR A.1 s m) (up2 (up2 (up2 K (5 + 1) s (nI m)) 5 1 (nI (s + 1))) 5 2 0) hGn
          (fun a ha => by rw [up2_n (by omega), up2_n (by omega), up2_n (by omega), k1 a (by omega)])
          (r3.tu g2 (fun a ha hb => by rw [up2_n (by omega), up2_n (by omega), up2_n (by omega), k1 a ha]) a7 (by rw [up2_b (by omega), up2_a, a3]) (by rw [up2_a, a4]; rfl) (by rw [up2_b (by omega), up2_b (by omega), up2_n (by omega), k3, a5]; rfl) (fun t ht => by
            rw [a3] at ht
            rw [up2_n (by omega), up2_n (by omega), up2_at, a6]
            by_cases e : t = s
            · rw [if_pos e, if_pos e]
            · rw [if_neg e, if_neg e, k1 6 (by omega)]
              exact r3.1.2.2.2.1 t (by omega)))
        exact ⟨_, P1, rfl, d2, d3, d4⟩
      have e5 : I1 5 3 = nI (A.1 5) := r3.1.2.2.1.2.2
      have e51 : I1 5 1 = nI (A.1 3) := r3.1.2.2.1.1
      unfold fX5_append atS
      rw [e5]
      by_cases q : A.1 5 = 0
      · rw [q, ifp (show nI 0 = (0 : Int32) from rfl), if_pos rfl]
        exact key (A.1 3) I1 (by omega) (Nat.le_refl _) (fun _ _ => rfl) e51 (by rw [e5, q]; rfl)
      · have q1 : A.1 5 = 1 := by omega
        rw [q1, ifn (show ¬ nI 1 = (0 : Int32) by decide), bd1, bd1, if_neg (by omega)]
        exact key 0 (up2 (up2 I1 5 1 0) 5 3 0) (by omega) (by omega) (fun a ha => by rw [up2_n ha, up2_n ha]) (by rw [up2_b (by omega), up2_a]; rfl) up2_a
  · rw [show fX8_isBetween v 0 9 = _ from e3, bd1, if0, if_neg g]
    exact noI hG hC _
theorem ct_at {ρ : Nat → Nat} : ctR ρ 3 = 1 ∧ ctR ρ 4 = 0 ∧ ctR ρ 5 = 1 ∧ ctR ρ 337 = 0 ∧ ∀ j, j < 337 → j ≠ 3 → j ≠ 4 → j ≠ 5 → ctR ρ j = ρ j := by
  have a3 : ∀ j, ctR ρ j = if j = 4 then 0 else if j = 5 then 1 else if j = 3 then 1 else if j = 337 then 0 else ρ j := fun _ => rfl
  refine ⟨by rw [a3]; rfl, by rw [a3]; rfl, by rw [a3]; rfl, by rw [a3]; rfl, fun j h1 h2 h3 h4 => ?_⟩
  rw [a3, if_neg (by omega), if_neg (by omega), if_neg (by omega), if_neg (by omega)]
theorem Good.ct {ρ : Nat → Nat} (h : Good ρ) : Good (ctR ρ) := by
  obtain ⟨b3, b4, b5, b6, a7⟩ := ct_at (ρ := ρ)
  exact h.tu a7 (by rw [b3]; omega) (by rw [b3, b4]; omega) (by rw [b5]; omega) (fun t ht => by rw [b3] at ht; rw [show t = 0 by omega, b6]; omega)
theorem k_clearTurns {A : AbS} {I : II} {P : PP} (hG : GI A) (hC : CI I P A) : Rs (fX8_clearTurns I P) I (aClearTurns A) := by
  have g2 := hG.1.2.1
  unfold fX8_clearTurns fX5_begin aClearTurns
  obtain ⟨I1, P1, r1, r3, r6, r5⟩ := doI hG hC
  rw [r1, bd1]
  simp only []
  rw [bd1, bd1, bd1, bd1, bd1]
  obtain ⟨b3, b4, b5, b6, a7⟩ := ct_at (ρ := A.1)
  obtain ⟨d2, d3, d4⟩ := r5 (ctR A.1) (up2 (up2 (up2 (up2 I1 (5 + 1) 0 0) 5 1 1) 5 2 0) 5 3 1) hG.1.ct
    (fun a ha => by rw [up2_n (by omega), up2_n (by omega), up2_n (by omega), up2_n (by omega)])
    (r3.tu g2 (fun a ha hb => by rw [up2_n (by omega), up2_n (by omega), up2_n (by omega), up2_n (by omega)]) a7 (by rw [b3]; rfl) (by rw [b4]; rfl) (by rw [b5]; rfl) (fun t ht => by rw [b3] at ht; rw [show t = 0 by omega, b6]; rfl))
  rw [show I 5 1 = _ from hC.1.1.2.2.1.1]
  exact ⟨_, P1, rfl, d2, d3, d4⟩
theorem k_addWalker {A : AbS} {I : II} {P : PP} (hG : GI A) (hC : CI I P A) (x y z s p : Int32) : Rs (fX8_addWalker I P x y z s p) I (aAddWalker A x y z s p) := by
  have g2 := hG.1.2.1
  have b1 := hG.1.1.1.2
  have b2 := hG.1.1.2.1.2
  unfold fX8_addWalker fX8_isSort aAddWalker
  rcases cellsX hC.1.1 hG.1.1 x y with ⟨r, c, hr, hc, rfl, rfl, o, e1⟩ | ⟨o, e1⟩
  · rw [e1, bd1, ifp (nI_nneg (by omega)), if_pos o, tnN (by omega), tnN (by omega)]
    rcases rngX z 0 3 (by omega) (by omega) with ⟨d, -, hd, rfl, g3, e3⟩ | ⟨g3, -, e3⟩
    · rw [show fX8_isBetween (nI d) 0 3 = _ from e3, bd1, jf1]
      rcases rngX s 0 2 (by omega) (by omega) with ⟨so, -, hso, rfl, g4, e4⟩ | ⟨g4, -, e4⟩
      · rw [show fX8_isBetween (nI so) 0 2 = _ from e4, bd1, show bB 1 = true from rfl, ck_t rfl, bd1, jf1]
        rcases rngX p 1 9 (by omega) (by omega) with ⟨cap, hc1, hc9, rfl, g5, e5⟩ | ⟨g5, -, e5⟩
        · rw [show fX8_isBetween (nI cap) 1 9 = _ from e5, bd1, if1, show I 2 4 = _ from hC.1.1.1.2.2.1, if_pos (show rgX 0 3 (nI d) ∧ rgX 0 2 (nI so) ∧ rgX 1 9 (nI cap) from ⟨g3, g4, g5⟩)]
          by_cases q : A.1 2 = 8
          · rw [ifn (show ¬ nI (A.1 2) < (8 : Int32) from fun z => by have := (nI_ltI (b := 8) (by omega) (by omega)).mp z; omega), if_neg (show ¬ A.1 2 < 8 by omega)]
            exact noI hG hC _
          · have hw : A.1 2 < 8 := by omega
            rw [ifp (show nI (A.1 2) < (8 : Int32) from (nI_ltI (b := 8) (by omega) (by omega)).mpr hw), if_pos hw, tnN (by omega), tnN (by omega), tnN (by omega)]
            obtain ⟨I1, P1, r1, r3, r6, r5⟩ := doI hG hC
            rw [r1, bd1]
            simp only []
            have hwa : fX4_walkerAt (up2 I1 2 4 (nI (A.1 2 + 1))) 2 (nI (A.1 2)) = some (some (7 + A.1 2)) := walkerAt_C (ρ := fun _ => A.1 2 + 1) up2_a (by show A.1 2 + 1 ≤ 8; omega) (by show A.1 2 < A.1 2 + 1; omega)
            rw [nI_1, bd1, hwa, bd1]
            simp only []
            unfold fX6_begin
            rw [bd1, bd1, bd1, bd1, bd1, bd1, bd1, bd1, bd1, bd1]
            have hGn := hG.1.aw (r := r) (c := c) (d := d) (so := so) (cap := cap) hw hr hc hd hso hc1 hc9
            obtain ⟨d2, d3, d4⟩ := r5 (awR A.1 r c d so cap) (up2 (up2 (up2 (up2 (up2 (up2 (up2 (up2 (up2 (up2 I1 2 4 (nI (A.1 2 + 1))) (7 + A.1 2) 0 (nI r)) (7 + A.1 2) 1 (nI c)) (7 + A.1 2) 2 (nI d)) (7 + A.1 2) 3 0) (7 + A.1 2) 4 (nI cap)) (7 + A.1 2) 5 (nI so)) (7 + A.1 2) 6 0) (7 + A.1 2) 7 0) (7 + A.1 2) 8 0) hGn
              (fun a ha => by simp only [up2_n (show a ≠ 7 + A.1 2 by omega), up2_n (show a ≠ 2 by omega)])
              (r3.aw hG.1 hw (by simp only [up2_n (show 2 ≠ 7 + A.1 2 by omega)]; exact up2_a) (fun j hj => by simp only [up2_n (show 2 ≠ 7 + A.1 2 by omega)]; exact up2_b hj) (fun a ha hb => by simp only [up2_n hb, up2_n ha]) (fun f hf => by
                rw [aw_w hw hf]
                have hf' : f = 0 ∨ f = 1 ∨ f = 2 ∨ f = 3 ∨ f = 4 ∨ f = 5 ∨ f = 6 ∨ f = 7 ∨ f = 8 := by omega
                simp only [up2_at]
                rcases hf' with e | e | e | e | e | e | e | e | e <;> subst e <;> rfl))
            exact ⟨_, P1, rfl, d2, d3, d4⟩
        · rw [show fX8_isBetween p 1 9 = _ from e5, bd1, if0, if_neg (show ¬ (rgX 0 3 (nI d) ∧ rgX 0 2 (nI so) ∧ rgX 1 9 p) from fun z => g5 z.2.2)]
          exact noI hG hC _
      · rw [show fX8_isBetween s 0 2 = _ from e4, bd1, show bB 0 = true from rfl, ck_t rfl, bd1, jf0, if_neg (fun z => g4 z.2.1)]
        exact noI hG hC _
    · rw [show fX8_isBetween z 0 3 = _ from e3, bd1, jf0, if_neg (fun z => g3 z.1)]
      exact noI hG hC _
  · rw [e1, bd1, ifn (by decide), if_neg o]
    exact noI hG hC _
theorem k_reset {A : AbS} {I : II} {P : PP} (hG : GI A) (hC : CI I P A) (x y : Int32) : Rs (fX8_reset I P x y) I (aReset A x y) := by
  unfold fX8_reset aReset
  rcases rngX x 2 16 (by omega) (by omega) with ⟨r, h1, h2, rfl, g3, e3⟩ | ⟨g3, -, e3⟩
  · rw [show fX8_isBetween (nI r) 2 16 = _ from e3, bd1, jf1]
    rcases rngX y 2 16 (by omega) (by omega) with ⟨c, h3, h4, rfl, g4, e4⟩ | ⟨g4, -, e4⟩
    · rw [show fX8_isBetween (nI c) 2 16 = _ from e4, bd1, if1, if_pos ⟨g3, g4⟩, tnN (by omega), tnN (by omega)]
      obtain ⟨I1, P1, r1, r3, r6, r5⟩ := doI hG hC
      rw [r1, bd1]
      simp only []
      unfold fX7_clearBoard fX0_forget
      rw [bd1, bd1, bd1, bd1, bd1, bd1, bd1, bd1, bd1]
      obtain ⟨v0, v1, v2, v6, v7, v8, vg⟩ := rs_v (ρ := A.1) (r := r) (c := c)
      have hCR : CR (up2 (up2 (up2 (up2 (fl2 (up2 (up2 I1 2 0 (nI r)) 2 1 (nI c)) 3 256 0) 2 4 0) 2 6 0) 2 7 0) 15 6 1) (rsK A.1 r c 256) := by
        refine ⟨⟨⟨rfl, rfl, rfl, rfl, rfl⟩, fun i hi => ?_, ?_, fun t ht => ?_, fun u e hu he => by rw [v2] at hu; omega⟩, Or.inr up2_a⟩
        · rw [up2_n (by omega), up2_n (by omega), up2_n (by omega), up2_n (by omega), fl2_a, if_pos hi, vg i hi]
          rfl
        · rw [up2_n (by omega), up2_n (by omega), up2_n (by omega), up2_n (by omega), fl2_n (by omega), up2_n (by omega), up2_n (by omega), rs_o (j := 3) (by omega), rs_o (j := 4) (by omega), rs_o (j := 5) (by omega)]
          exact r3.1.2.2.1
        · rw [rs_o (j := 3) (by omega)] at ht
          rw [up2_n (by omega), up2_n (by omega), up2_n (by omega), up2_n (by omega), fl2_n (by omega), up2_n (by omega), up2_n (by omega), rs_o (by omega)]
          exact r3.1.2.2.2.1 t ht
      obtain ⟨d2, d3, d4⟩ := r5 (rsK A.1 r c 256) _ (hG.1.rs h1 h2 h3 h4)
        (fun a ha => by rw [up2_n (by omega), up2_n (by omega), up2_n (by omega), up2_n (by omega), fl2_n (by omega), up2_n (by omega), up2_n (by omega)]) hCR
      exact ⟨_, P1, rfl, d2, d3, d4⟩
    · rw [show fX8_isBetween y 2 16 = _ from e4, bd1, if0, if_neg (fun z => g4 z.2)]
      exact noI hG hC _
  · rw [show fX8_isBetween x 2 16 = _ from e3, bd1, jf0, if_neg (fun z => g3 z.1)]
    exact noI hG hC _
theorem k_strew {A : AbS} {I : II} {P : PP} (hG : GI A) (hC : CI I P A) (x y z : Int32) : Rs (fX8_strew I P x y z) I (aStrew A x y z) := by
  have b1 := hG.1.1.1.2
  unfold fX8_strew aStrew
  rcases rngX x 0 9 (by omega) (by omega) with ⟨a, -, ha, rfl, g3, e3⟩ | ⟨g3, -, e3⟩
  · rw [show fX8_isBetween (nI a) 0 9 = _ from e3, bd1, jf1]
    rcases rngX y 0 9 (by omega) (by omega) with ⟨b, -, hb, rfl, g4, e4⟩ | ⟨g4, -, e4⟩
    · rw [show fX8_isBetween (nI b) 0 9 = _ from e4, bd1, jf1]
      rcases rngX z 1 20 (by omega) (by omega) with ⟨m, h1, hm, rfl, g5, e5⟩ | ⟨g5, -, e5⟩
      · rw [show fX8_isBetween (nI m) 1 20 = _ from e5, bd1, if1, strew_C0 hC.1.1 hG.1 ha hb h1 hm, bd1, if_pos (show rgX 0 9 (nI a) ∧ rgX 0 9 (nI b) ∧ rgX 1 20 (nI m) from ⟨g3, g4, g5⟩), tnN (by omega), tnN (by omega), tnN (by omega)]
        simp only []
        obtain ⟨I1, P1, r1, r3, r6, r5⟩ := doI hG hC
        obtain ⟨a1, a2, a3, a4, a5, a6⟩ := al_g (a := a) (b := b) (m := m) hG.1 (A.1 0) (Nat.le_refl _)
        by_cases q : caR A.1 a b m (A.1 0) = 0
        · rw [q, ifn (show ¬ ¬ nI 0 = (0 : Int32) from fun z => z rfl), if_pos rfl]
          exact noI hG hC _
        · have q' : ¬ nI (caR A.1 a b m (A.1 0)) = (0 : Int32) := fun z => q ((eqN (b := 0) (by omega) (by omega)).mp z)
          rw [ifp q', r1, bd1, if_neg q]
          simp only []
          obtain ⟨I2, v, s1, s2, s3⟩ := strew_C1 r3 hG.1 ha hb h1 hm
          obtain ⟨d2, d3, d4⟩ := r5 _ I2 a1 s3 s2
          rw [s1, bd1]
          exact ⟨_, P1, rfl, d2, d3, d4⟩
      · rw [show fX8_isBetween z 1 20 = _ from e5, bd1, if0, if_neg (fun z => g5 z.2.2)]
        exact noI hG hC _
    · rw [show fX8_isBetween y 0 9 = _ from e4, bd1, jf0, if_neg (fun z => g4 z.2.1)]
      exact noI hG hC _
  · rw [show fX8_isBetween x 0 9 = _ from e3, bd1, jf0, if_neg (fun z => g3 z.1)]
    exact noI hG hC _
