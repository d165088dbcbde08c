/-! the calls, one by one: the same answer from both, and the account kept -/
def OpS (f : II → PP → Option (Int32 × II × PP)) (g : II → Option (Int32 × II)) : Prop := ∀ (A : AbS) (I : II) (P : PP) (J : II), GI A → CI I P A → MI J A → ∃ a I1 P1 J1 A', f I P = some (a, I1, P1) ∧ g J = some (a, J1) ∧ GI A' ∧ CI I1 P1 A' ∧ MI J1 A' ∧ FrC I I1 ∧ FrM J J1
theorem if1 {α : Type} {a b : α} : (if ¬ (1 : Int32) = 0 then a else b) = a := if_pos (by decide)
theorem if0 {α : Type} {a b : α} : (if ¬ (0 : Int32) = 0 then a else b) = b := if_neg (by decide)
theorem jf1 {α : Type} {a b : α} : (if (1 : Int32) = 0 then a else b) = b := if_neg (by decide)
theorem jf0 {α : Type} {a b : α} : (if (0 : Int32) = 0 then a else b) = a := if_pos rfl
theorem nnI {x : Int32} (h : 0 ≤ x.toInt) : ∃ m, m < 2 ^ 31 ∧ x = nI m := by
  have hl := Int32.toInt_lt x
  refine ⟨x.toInt.toNat, by omega, ?_⟩
  rw [← Int32.toInt_inj, nI_toInt (by omega)]
  omega
theorem isB_sp (x a b : Int32) : fX8_isBetween x a b = fX9_in x a b := rfl
theorem rng (x : Int32) (lo hi : Nat) (h1 : lo < 2 ^ 31) (h2 : hi < 2 ^ 31) : (∃ m, lo ≤ m ∧ m ≤ hi ∧ x = nI m ∧ fX9_in x (nI lo) (nI hi) = some 1) ∨ ((∀ m, m ≤ hi → lo ≤ m → x ≠ nI m) ∧ fX9_in x (nI lo) (nI hi) = some 0) := by
  rw [in_sp]
  by_cases h : nI lo ≤ x ∧ x ≤ nI hi
  · rw [if_pos h]
    left
    have t1 := h.1
    rw [Int32.le_iff_toInt_le, nI_toInt h1] at t1
    obtain ⟨m, hm, rfl⟩ := nnI (x := x) (by omega)
    exact ⟨m, (leN h1 hm).mp h.1, (leN hm h2).mp h.2, rfl, rfl⟩
  · rw [if_neg h]
    right
    refine ⟨fun m hm hl e => h ?_, rfl⟩
    rw [e]
    exact ⟨(leN h1 (by omega)).mpr hl, (leN (by omega) h2).mpr hm⟩
theorem cells {I J : II} {ρ : Nat → Nat} (h : CS I 2 ρ) (hJ : MR J ρ) (hB : Bd ρ) (x y : Int32) :
    (∃ r c, r < ρ 0 ∧ c < ρ 1 ∧ x = nI r ∧ y = nI c ∧ fX4_cellAt I 2 x y = some (nI (16 * r + c)) ∧ fX9_isCell J x y = some 1) ∨ (fX4_cellAt I 2 x y = some (-1) ∧ fX9_isCell J x y = some 0) := by
  have hc := hasCell_C h hB x y
  have hm := isCell_sp hJ hB x y
  have b1 := hB.1.2
  have b2 := hB.2.1.2
  unfold fX4_cellAt
  by_cases q : okC (ρ 0) (ρ 1) x y
  · left
    obtain ⟨r, hr, rfl⟩ := nnI q.1.1
    obtain ⟨c, hcc, rfl⟩ := nnI q.2.1
    have q' := (okC_nn hr hcc).mp q
    refine ⟨r, c, q'.1, q'.2, rfl, rfl, ?_, hm.1 q⟩
    rw [hc.1 q, bd1, ifn (by decide), show (16 : Int32) = nI 16 from rfl, pk_mul, nI_add, Nat.mul_comm]
  · right
    rw [hc.2 q, bd1, ifp (by decide)]
    exact ⟨rfl, hm.2 q⟩
theorem walkers {I J : II} {ρ : Nat → Nat} (h : I 2 4 = nI (ρ 2)) (hJ : J 135 2 = nI (ρ 2)) (g2 : ρ 2 ≤ 8) (x : Int32) :
    (∃ w, w < ρ 2 ∧ x = nI w ∧ fX4_walkerAt I 2 x = some (some (7 + w)) ∧ fX9_noWalker J x = some 0) ∨ ((∀ w, w < ρ 2 → x ≠ nI w) ∧ fX4_walkerAt I 2 x = some none ∧ fX9_noWalker J x = some 1) := by
  have t2 : (nI (ρ 2)).toInt = (ρ 2 : Int) := nI_toInt (by omega)
  have tm : (nI (ρ 2) - 1).toInt = (ρ 2 : Int) - 1 := pk_sub_toInt (b := 1) (by omega) (by omega)
  have z0 : (0 : Int32).toInt = 0 := by decide
  unfold fX9_noWalker
  rw [in_sp, hJ, bd1]
  by_cases q : 0 ≤ x.toInt ∧ x.toInt < ρ 2
  · left
    obtain ⟨w, hw, rfl⟩ := nnI q.1
    have hw2 : w < ρ 2 := by have := q.2; rw [nI_toInt hw] at this; omega
    refine ⟨w, hw2, rfl, walkerAt_C h g2 hw2, ?_⟩
    rw [ifp (by rw [if_pos ⟨by rw [Int32.le_iff_toInt_le, z0]; exact q.1, by rw [Int32.le_iff_toInt_le, tm]; omega⟩]; decide)]
  · right
    refine ⟨fun w hw e => q (by rw [e, nI_toInt (by omega)]; omega), ?_, ?_⟩
    · unfold fX4_walkerAt
      by_cases q1 : x < 0
      · rw [ifp q1]
      · rw [ifn q1, h, ifp (by rw [Int32.le_iff_toInt_le, t2]; rw [Int32.lt_iff_toInt_lt, z0] at q1; omega)]
    · rw [ifn (by rw [if_neg (fun z => q (by rw [Int32.le_iff_toInt_le, Int32.le_iff_toInt_le, tm, z0] at z; omega))]; decide)]
/-- recorded and begun; then done -/
theorem doIt {A : AbS} {I J : II} {P : PP} (hG : GI A) (hC : CI I P A) (hM : MI J A) : ∃ I1 P1 J1, fX1_record I P 2 = some (I1, P1) ∧ fX9_begin J = some J1 ∧ CR I1 A.1 ∧ MR J1 A.1 ∧ (∀ a, a < 21 → I1 a = I a) ∧ (∀ a, a ≠ 136 → J1 a = J a) ∧
    ∀ (ρ : Nat → Nat) (I2 J2 : II) (v : Int32), Good ρ → FC I1 I2 → CR I2 ρ → FM1 J1 J2 → MR J2 ρ → ∃ J3, fX9_done J2 v = some (v, J3) ∧ GI (neA A ρ) ∧ CI I2 P1 (neA A ρ) ∧ MI J3 (neA A ρ) ∧ FrC I I2 ∧ FrM J J3 := by
  obtain ⟨I1, P1, r1, r2, r3⟩ := record_C hC hG
  obtain ⟨J1, b1, b2, b3⟩ := begin_M hM.1
  refine ⟨I1, P1, J1, r1, b1, r2.1, fun k hk => by rw [b3 135 (by omega)]; exact hM.1 k hk, fun a ha => r3 a (by omega), b3, fun ρ I2 J2 v hr f1 c1 f2 m1 => ?_⟩
  have hM1 : MI J1 A := by
    obtain ⟨h1, h2, h3, h4⟩ := hM
    exact ⟨fun k hk => by rw [b3 135 (by omega)]; exact h1 k hk, by rw [b3 134 (by omega), b3 137 (by omega)]; exact h2, by rw [b3 139 (by omega), b3 138 (by omega)]; exact h3, by rw [b3 134 (by omega), b3 146 (by omega)]; exact h4⟩
  obtain ⟨J3, d1, d2, d3⟩ := done_M v (hM1.fm f2 m1) hG (fun k hk => by rw [f2.1 136 (by omega)]; exact b2 k hk)
  refine ⟨J3, d1, hG.ne hr, r2.fc (hG.ne hG.1) f1 c1, d2, fun a ha => ?_, fun a ha => ?_⟩
  · rw [f1 a (by omega), r3 a (by omega)]
  · rw [d3 a ha, f2.1 a (by omega), b3 a (by omega)]
/-- refused: nothing changes -/
theorem refuse {A : AbS} {I J : II} {P : PP} (hG : GI A) (hC : CI I P A) (hM : MI J A) (v : Int32) : ∃ a I1 P1 J1 A', (some (v, I, P) : Option (Int32 × II × PP)) = some (a, I1, P1) ∧ (some (v, J) : Option (Int32 × II)) = some (a, J1) ∧ GI A' ∧ CI I1 P1 A' ∧ MI J1 A' ∧ FrC I I1 ∧ FrM J J1 := ⟨v, I, P, J, A, rfl, rfl, hG, hC, hM, FrC.rf, FrM.rf⟩
theorem Good.ch {ρ : Nat → Nat} {c v : Nat} (h : Good ρ) (hc : c < 256) (h1 : c / 16 < ρ 0) (h2 : c % 16 < ρ 1) (hv : v ≤ 99) : Good (stR ρ (9 + c) v) := by
  obtain ⟨⟨b1, b2, b3, b4⟩, g2, g3, g4, g5, g6, g7, g8⟩ := h
  have o : ∀ j, (j < 9 ∨ 264 < j) → stR ρ (9 + c) v j = ρ j := fun j hj => stR_n (by omega)
  refine ⟨⟨?_, ?_, fun i hi => ?_, fun i hi hcc => ?_⟩, ?_, ?_, ?_, ?_, fun u hu => ?_, fun t ht => ?_, ?_⟩
  · rw [o 0 (by omega)]; exact b1
  · rw [o 1 (by omega)]; exact b2
  · rw [gR_st]
    show (if i = c then v else gR ρ i) ≤ 99
    split
    · exact hv
    · exact b3 i hi
  · rw [o 0 (by omega), o 1 (by omega)] at hcc
    rw [gR_st]
    show (if i = c then v else gR ρ i) = 0
    rw [if_neg (fun e => by rw [e] at hcc; omega)]
    exact b4 i hi hcc
  · rw [o 2 (by omega)]; exact g2
  · rw [o 3 (by omega)]; exact g3
  · rw [o 3 (by omega), o 4 (by omega)]; exact g4
  · rw [o 5 (by omega)]; exact g5
  · rw [o 2 (by omega)] at hu
    have w0 := g6 u hu
    unfold Wk at w0 ⊢
    rw [o 0 (by omega), o 1 (by omega), o (wI u 0) (by unfold wI; omega), o (wI u 1) (by unfold wI; omega), o (wI u 2) (by unfold wI; omega), o (wI u 3) (by unfold wI; omega), o (wI u 4) (by unfold wI; omega), o (wI u 5) (by unfold wI; omega)]
    exact w0
  · rw [o 3 (by omega)] at ht
    rw [o _ (by omega)]; exact g7 t ht
  · rw [o 8 (by omega), o 2 (by omega), g8]
    refine sm_congr _ (fun u hu => ?_)
    show ρ (wI u 6) = stR ρ (9 + c) v (wI u 6)
    rw [o _ (by unfold wI; omega)]
theorem c9 (r c : Nat) : (9 : Int32) + 16 * nI r + nI c = nI (9 + (16 * r + c)) := by
  rw [show (9 : Int32) = nI 9 from rfl, show (16 : Int32) = nI 16 from rfl, pk_mul, nI_add, nI_add, Nat.add_assoc]
theorem MR.at9 {J : II} {ρ : Nat → Nat} (h : MR J ρ) {c : Nat} (hc : c < 256) : J 135 (9 + c) = nI (gR ρ c) := h _ (by omega)
theorem op_put (x y v : Int32) : OpS (fun I P => fX8_put I P x y v) (fun J => fX9_put J x y v) := by
  intro A I P J hG hC hM
  have hB := hG.1.1
  have b1 := hB.1.2
  have b2 := hB.2.1.2
  show ∃ a I1 P1 J1 A', fX8_put I P x y v = some (a, I1, P1) ∧ fX9_put J x y v = some (a, J1) ∧ _
  unfold fX8_put fX9_put
  rcases cells hC.1.1 hM.1 hB x y with ⟨r, c, hr, hc, rfl, rfl, e1, e2⟩ | ⟨e1, e2⟩
  · rw [e1, e2, bd1, bd1, ifp (nI_nneg (by omega)), ifp (by decide), isB_sp]
    rcases rng v 0 99 (by omega) (by omega) with ⟨m, -, hm, rfl, e3⟩ | ⟨-, e3⟩
    · rw [show fX9_in (nI m) 0 99 = _ from e3, bd1, bd1, ifp (by decide), ifp (by decide), chipsOf_C (by omega), bd1]
      obtain ⟨I1, P1, J1, r1, r2, r3, r4, -, -, r5⟩ := doIt hG hC hM
      rw [r1, r2, bd1, bd1]
      simp only []
      obtain ⟨I2, s1, s2, s3, s4⟩ := setChips_C r3 hG.1 (c := 16 * r + c) (by omega) hm
      rw [s1, bd1, c9, ckN (show 9 + (16 * r + c) < 367 by omega) (by omega), ckN (show 9 + (16 * r + c) < 367 by omega) (by omega), tnN (show 9 + (16 * r + c) < 2 ^ 31 by omega), r4.at9 (by omega), bd1]
      obtain ⟨J3, d1, d2, d3, d4, d5, d6⟩ := r5 _ I2 _ (nI (gR A.1 (16 * r + c))) (hG.1.ch (c := 16 * r + c) (v := m) (by omega) (by omega) (by omega) hm) (fun a ha => s3 a (by omega) (by omega)) s2 FM1.up r4.up
      rw [d1, bd1, show I (2 + 1) (16 * r + c) = _ from hC.1.1.2.1 _ (by omega)]
      exact ⟨_, I2, P1, J3, _, rfl, rfl, d2, d3, d4, d5, d6⟩
    · rw [show fX9_in v 0 99 = _ from e3, bd1, bd1, ifn (by decide), ifn (by decide)]
      exact refuse hG hC hM _
  · rw [e1, e2, bd1, bd1, ifn (by decide), ifn (by decide)]
    exact refuse hG hC hM _
theorem Good.so {ρ : Nat → Nat} {w v : Nat} (h : Good ρ) (hw : w < 8) (hv : v ≤ 2) : Good (stR ρ (wI w 5) v) := by
  obtain ⟨hB, g2, g3, g4, g5, g6, g7, g8⟩ := h
  obtain ⟨b1, b2, b3, b4⟩ := hB
  have o : ∀ j, j < 265 → stR ρ (wI w 5) v j = ρ j := fun j hj => stR_n (by unfold wI; omega)
  have q : ∀ u f, f < 9 → f ≠ 5 → stR ρ (wI w 5) v (wI u f) = ρ (wI u f) := fun u f hf hne => stR_n (wI_ne hf (by omega) (by omega))
  refine ⟨⟨?_, ?_, fun c hc2 => ?_, fun c hc2 hcc => ?_⟩, ?_, ?_, ?_, ?_, fun u hu => ?_, fun t ht => ?_, ?_⟩
  · rw [o 0 (by omega)]; exact b1
  · rw [o 1 (by omega)]; exact b2
  · unfold gR; rw [o _ (by omega)]; exact b3 c hc2
  · rw [o 0 (by omega), o 1 (by omega)] at hcc
    unfold gR; rw [o _ (by omega)]; exact b4 c hc2 hcc
  · rw [o 2 (by omega)]; exact g2
  · rw [o 3 (by omega)]; exact g3
  · rw [o 3 (by omega), o 4 (by omega)]; exact g4
  · rw [o 5 (by omega)]; exact g5
  · rw [o 2 (by omega)] at hu
    have w0 := g6 u hu
    unfold Wk at w0 ⊢
    rw [o 0 (by omega), o 1 (by omega), q u 0 (by omega) (by omega), q u 1 (by omega) (by omega), q u 2 (by omega) (by omega), q u 3 (by omega) (by omega), q u 4 (by omega) (by omega)]
    refine ⟨w0.1, w0.2.1, w0.2.2.1, w0.2.2.2.1, w0.2.2.2.2.1, ?_⟩
    by_cases e : u = w
    · rw [e, stR_s]; exact hv
    · rw [stR_n (wI_ne (by omega) (by omega) (by omega))]; exact w0.2.2.2.2.2
  · rw [o 3 (by omega)] at ht
    rw [stR_n (by unfold wI; omega)]; exact g7 t ht
  · rw [o 8 (by omega), o 2 (by omega), g8]
    refine sm_congr _ (fun u hu => ?_)
    show ρ (wI u 6) = stR ρ (wI w 5) v (wI u 6)
    rw [q u 6 (by omega) (by omega)]
theorem op_setSort (x v : Int32) : OpS (fun I P => fX8_setSort I P x v) (fun J => fX9_setSort J x v) := by
  intro A I P J hG hC hM
  have g2 := hG.1.2.1
  show ∃ a I1 P1 J1 A', fX8_setSort I P x v = some (a, I1, P1) ∧ fX9_setSort J x v = some (a, J1) ∧ _
  unfold fX8_setSort fX9_setSort fX8_isSort
  rcases walkers hC.1.1.1.2.2.1 (hM.1 2 (by omega)) g2 x with ⟨w, hw, rfl, e1, e2⟩ | ⟨-, e1, e2⟩
  · rw [e1, e2, bd1, bd1, ifp rfl, isB_sp]
    simp only []
    rcases rng v 0 2 (by omega) (by omega) with ⟨m, -, hm, rfl, e3⟩ | ⟨-, e3⟩
    · rw [show fX9_in (nI m) 0 2 = _ from e3, bd1, bd1, show bB 1 = true from rfl, ck_t rfl, bd1, ifp (by decide), ifp (by decide)]
      obtain ⟨I1, P1, J1, r1, r2, r3, r4, r6, -, r5⟩ := doIt hG hC hM
      rw [r1, r2, bd1, bd1, bd1, show fX9_of J1 (nI w) 5 = _ from m_of r4 (by omega) 5 (by omega), bd1, show fX9_lay J1 (nI w) 5 (nI m) = _ from m_lay (by omega) 5 (by omega) _, bd1]
      simp only []
      obtain ⟨J3, d1, d2, d3, d4, d5, d6⟩ := r5 _ (up2 I1 (7 + w) 5 (nI m)) _ (nI (A.1 (wI w 5))) (hG.1.so (w := w) (by omega) hm) (fun a ha => up2_n (by omega)) (r3.wk g2 hG.1.2.2.1.2 hw (by omega)) FM1.up r4.up
      rw [d1, bd1, hC.1.fl hw (by omega)]
      exact ⟨_, _, P1, J3, _, rfl, rfl, d2, d3, d4, d5, d6⟩
    · rw [show fX9_in v 0 2 = _ from e3, bd1, bd1, show bB 0 = true from rfl, ck_t rfl, bd1, ifn (by decide), ifn (by decide)]
      exact refuse hG hC hM _
  · rw [e1, e2, bd1, bd1, ifn (by decide)]
    exact refuse hG hC hM _
theorem op_empty (x : Int32) : OpS (fun I P => fX8_empty I P x) (fun J => fX9_empty J x) := by
  intro A I P J hG hC hM
  have g2 := hG.1.2.1
  show ∃ a I1 P1 J1 A', fX8_empty I P x = some (a, I1, P1) ∧ fX9_empty J x = some (a, J1) ∧ _
  unfold fX8_empty fX9_empty
  rcases walkers hC.1.1.1.2.2.1 (hM.1 2 (by omega)) g2 x with ⟨w, hw, rfl, e1, e2⟩ | ⟨-, e1, e2⟩
  · have hW := hG.1.2.2.2.2.2.1 w hw
    have hc := (hW.cell hG.1.1).1
    have hgc := hG.1.1.2.2.1 _ hc
    have hw8 : w < 8 := by omega
    obtain ⟨-, -, -, w4, w5, w6⟩ := hW
    rw [e1, e2, bd1, bd1, ifp rfl]
    simp only []
    rw [under_C hC.1 hG.1 hw, bd1, m_cell hM.1 hw8, bd1, e9, ckN (show 9 + cw A.1 w < 367 by omega) (by omega), tnN (show 9 + cw A.1 w < 2 ^ 31 by omega), hM.1.at9 hc, show fX9_of J (nI w) 3 = _ from m_of hM.1 hw8 3 (by omega), bd1, bd1, hC.1.fl hw (by omega), nI_add]
    have q0 : (nI (A.1 (wI w 3)) = (0 : Int32)) ↔ A.1 (wI w 3) = 0 := eqN (b := 0) (by omega) (by omega)
    by_cases a1 : gR A.1 (cw A.1 w) + A.1 (wI w 3) ≤ 99
    · have t1 : nI (gR A.1 (cw A.1 w) + A.1 (wI w 3)) ≤ (99 : Int32) := yle (b := 99) (by omega) (by omega) a1
      rw [ifp t1, ifp t1]
      by_cases a2 : A.1 (wI w 3) = 0
      · rw [ifn (fun z => z (q0.mpr a2)), ifn (fun z => z (q0.mpr a2))]
        exact refuse hG hC hM _
      · rw [ifp (fun z => a2 (q0.mp z)), ifp (fun z => a2 (q0.mp z))]
        obtain ⟨I1, P1, J1, r1, r2, r3, r4, r6, -, r5⟩ := doIt hG hC hM
        rw [r1, r2, bd1, bd1, show fX9_of J1 (nI w) 3 = _ from m_of r4 hw8 3 (by omega), bd1]
        simp only []
        rw [r3.fl hw (by omega)]
        obtain ⟨I2, s1, s2, s3⟩ := drop_C r3 hG.1 hw a1 (Nat.le_refl _)
        obtain ⟨J2, t1, t2, t3⟩ := m_drop r4 hw8 hc (Nat.le_refl (A.1 (wI w 3)))
        have hG2 := hG.1.dr hw a1 (Nat.le_refl _)
        have hw2 : w < drR A.1 w (A.1 (wI w 3)) 2 := by rw [dr_lo (by omega)]; exact hw
        have hcw : cw (drR A.1 w (A.1 (wI w 3))) w = cw A.1 w := by
          show 16 * _ + _ = 16 * _ + _
          rw [dr_wf (by omega) hc, dr_wf (by omega) hc, if_neg (by omega), if_neg (by omega), if_neg (by omega), if_neg (by omega)]
        have hu := under_C s2 hG2 hw2
        have hcell := m_cell t2 hw8
        have h9 := t2.at9 (c := cw A.1 w) hc
        rw [hcw] at hu hcell
        rw [s1, bd1, hu, bd1, t1, bd1, hcell, bd1, e9, ckN (show 9 + cw A.1 w < 367 by omega) (by omega), tnN (show 9 + cw A.1 w < 2 ^ 31 by omega), h9]
        obtain ⟨J3, d1, d2, d3, d4, d5, d6⟩ := r5 _ I2 J2 (nI (gR (drR A.1 w (A.1 (wI w 3))) (cw A.1 w))) hG2 s3 s2 t3 t2
        rw [d1, bd1]
        exact ⟨_, _, P1, J3, _, rfl, rfl, d2, d3, d4, d5, d6⟩
    · have t1 : ¬ nI (gR A.1 (cw A.1 w) + A.1 (wI w 3)) ≤ (99 : Int32) := nle (b := 99) (by omega) (by omega) (by omega)
      rw [ifn t1, ifn t1]
      exact refuse hG hC hM _
  · rw [e1, e2, bd1, bd1, ifn (by decide)]
    exact refuse hG hC hM _
theorem walk_lp {A : AbS} {w m : Nat} (hw : w < A.1 2) (hm : m ≤ 100) (hG : Good A.1) {I1 : II} {P1 : PP} {J1 : II} (c1 : CR I1 A.1) (m1 : MR J1 A.1) :
    (∃ I2, fX8_walk_L48 2000 (fun I8 => some ((I8 (7 + w) 3), I8, P1)) (nI m) (7 + w) P1 0 I1 = some (I2 (7 + w) 3, I2, P1) ∧ CR I2 (stps A.1 w m) ∧ FC I1 I2) ∧
    ∀ (ct : II → Option (Int32 × II)), ∃ J2, fX9_walk_L29 2000 ct (nI w) (nI m) 0 J1 = ct J2 ∧ MR J2 (stps A.1 w m) ∧ FM1 J1 J2 := by
  constructor
  · have lp : ∀ (n x : Nat) (K : II) (fu : Nat), x + n = m → n < fu → CR K (stps A.1 w x) → FC I1 K → ∃ I2, fX8_walk_L48 fu (fun I8 => some ((I8 (7 + w) 3), I8, P1)) (nI m) (7 + w) P1 (nI x) K = some (I2 (7 + w) 3, I2, P1) ∧ CR I2 (stps A.1 w m) ∧ FC I1 I2 := by
      intro n
      induction n with
      | zero =>
        intro x K fu hx hf k1 k2
        obtain ⟨fu, rfl⟩ : ∃ m, fu = m + 1 := ⟨fu - 1, by omega⟩
        refine ⟨K, ?_, by rw [show m = x by omega]; exact k1, k2⟩
        show (if nI m ≤ nI x then some ((K (7 + w) 3), K, P1) else _) = _
        rw [ifp (yle (by omega) (by omega) (by omega))]
      | succ n ih =>
        intro x K fu hx hf k1 k2
        obtain ⟨fu, rfl⟩ : ∃ m, fu = m + 1 := ⟨fu - 1, by omega⟩
        have g := stps_g hG hw x
        obtain ⟨L, s1, s2, s3⟩ := makeStep_C k1 g.1 (w := w) (by rw [g.2 2 (by omega) (by omega)]; exact hw)
        show ∃ I2, (if nI m ≤ nI x then some ((K (7 + w) 3), K, P1) else (fX7_makeStep K (7 + w)).bind fun v7 => fX8_walk_L48 fu (fun I8 => some ((I8 (7 + w) 3), I8, P1)) (nI m) (7 + w) P1 (nI x + 1) v7) = some (I2 (7 + w) 3, I2, P1) ∧ _
        rw [ifn (nle (by omega) (by omega) (by omega)), s1, bd1, nI_1]
        exact ih (x + 1) L fu (by omega) (by omega) s2 (k2.tr s3)
    exact lp m 0 I1 2000 (by omega) (by omega) c1 FC.rf
  · intro ct
    have lp : ∀ (n x : Nat) (K : II) (fu : Nat), x + n = m → n < fu → MR K (stps A.1 w x) → FM1 J1 K → ∃ J2, fX9_walk_L29 fu ct (nI w) (nI m) (nI x) K = ct J2 ∧ MR J2 (stps A.1 w m) ∧ FM1 J1 J2 := by
      intro n
      induction n with
      | zero =>
        intro x K fu hx hf k1 k2
        obtain ⟨fu, rfl⟩ : ∃ m, fu = m + 1 := ⟨fu - 1, by omega⟩
        refine ⟨K, ?_, by rw [show m = x by omega]; exact k1, k2⟩
        show (if nI m ≤ nI x then ct K else _) = _
        rw [ifp (yle (by omega) (by omega) (by omega))]
      | succ n ih =>
        intro x K fu hx hf k1 k2
        obtain ⟨fu, rfl⟩ : ∃ m, fu = m + 1 := ⟨fu - 1, by omega⟩
        have g := stps_g hG hw x
        obtain ⟨L, s1, s2, s3⟩ := m_step k1 g.1 (w := w) (by rw [g.2 2 (by omega) (by omega)]; exact hw)
        show ∃ J2, (if nI m ≤ nI x then ct K else (fX9_step K (nI w)).bind fun v7 => fX9_walk_L29 fu ct (nI w) (nI m) (nI x + 1) v7) = ct J2 ∧ _
        rw [ifn (nle (by omega) (by omega) (by omega)), s1, bd1, nI_1]
        exact ih (x + 1) L fu (by omega) (by omega) s2 (k2.tr s3)
    exact lp m 0 J1 2000 (by omega) (by omega) m1 FM1.rf
theorem op_walk (x v : Int32) : OpS (fun I P => fX8_walk I P x v) (fun J => fX9_walk J x v) := by
  intro A I P J hG hC hM
  have g2 := hG.1.2.1
  show ∃ a I1 P1 J1 A', fX8_walk I P x v = some (a, I1, P1) ∧ fX9_walk J x v = some (a, J1) ∧ _
  unfold fX8_walk fX9_walk
  rcases walkers hC.1.1.1.2.2.1 (hM.1 2 (by omega)) g2 x with ⟨w, hw, rfl, e1, e2⟩ | ⟨-, e1, e2⟩
  · have hw8 : w < 8 := by omega
    rw [e1, e2, bd1, bd1, ifp rfl, isB_sp]
    simp only []
    rcases rng v 1 100 (by omega) (by omega) with ⟨m, hm1, hm, rfl, e3⟩ | ⟨-, e3⟩
    · rw [show fX9_in (nI m) 1 100 = _ from e3, bd1, bd1, ifp (by decide), ifp (by decide)]
      obtain ⟨I1, P1, J1, r1, r2, r3, r4, r6, -, r5⟩ := doIt hG hC hM
      rw [r1, r2, bd1, bd1]
      simp only []
      obtain ⟨⟨I2, s1, s2, s3⟩, tt⟩ := walk_lp (P1 := P1) hw hm hG.1 r3 r4
      obtain ⟨J2, t1, t2, t3⟩ := tt (fun I8 => (fX9_of I8 (nI w) 3).bind fun v9 => (fX9_done I8 v9).bind fun v10 => some (v10.1, v10.2))
      have g := stps_g hG.1 hw m
      obtain ⟨J3, d1, d2, d3, d4, d5, d6⟩ := r5 _ I2 J2 (nI (stps A.1 w m (wI w 3))) g.1 s3 s2 t3 t2
      rw [s1, t1, show fX9_of J2 (nI w) 3 = _ from m_of t2 hw8 3 (by omega), bd1, d1, bd1, s2.fl (by rw [g.2 2 (by omega) (by omega)]; exact hw) (by omega)]
      exact ⟨_, _, P1, J3, _, rfl, rfl, d2, d3, d4, d5, d6⟩
    · rw [show fX9_in v 1 100 = _ from e3, bd1, bd1, ifn (by decide), ifn (by decide)]
      exact refuse hG hC hM _
  · rw [e1, e2, bd1, bd1, ifn (by decide)]
    exact refuse hG hC hM _
theorem rounds_lp {ρ : Nat → Nat} {m : Nat} (hm : m ≤ 100) (hG : Good ρ) {J1 : II} (m1 : MR J1 ρ) (ct : II → Option (Int32 × II)) : ∃ J2, fX9_rounds_L31 2000 ct (nI m) 0 J1 = ct J2 ∧ MR J2 (rds ρ m) ∧ FM1 J1 J2 := by
  have lp : ∀ (n x : Nat) (K : II) (fu : Nat), x + n = m → n < fu → MR K (rds ρ x) → FM1 J1 K → ∃ J2, fX9_rounds_L31 fu ct (nI m) (nI x) K = ct J2 ∧ MR J2 (rds ρ m) ∧ FM1 J1 J2 := by
    intro n
    induction n with
    | zero =>
      intro x K fu hx hf k1 k2
      obtain ⟨fu, rfl⟩ : ∃ m, fu = m + 1 := ⟨fu - 1, by omega⟩
      refine ⟨K, ?_, by rw [show m = x by omega]; exact k1, k2⟩
      show (if nI m ≤ nI x then ct K else _) = _
      rw [ifp (yle (by omega) (by omega) (by omega))]
    | succ n ih =>
      intro x K fu hx hf k1 k2
      obtain ⟨fu, rfl⟩ : ∃ m, fu = m + 1 := ⟨fu - 1, by omega⟩
      have g := rds_g hG x
      obtain ⟨L, s1, s2, s3⟩ := m_round k1 g.1
      show ∃ J2, (if nI m ≤ nI x then ct K else (fX9_oneRound K).bind fun v6 => fX9_rounds_L31 fu ct (nI m) (nI x + 1) v6) = ct J2 ∧ _
      rw [ifn (nle (by omega) (by omega) (by omega)), s1, bd1, nI_1]
      exact ih (x + 1) L fu (by omega) (by omega) s2 (k2.tr s3)
  exact lp m 0 J1 2000 (by omega) (by omega) m1 FM1.rf
theorem op_rounds (v : Int32) : OpS (fun I P => fX8_rounds I P v) (fun J => fX9_rounds J v) := by
  intro A I P J hG hC hM
  have g2 := hG.1.2.1
  show ∃ a I1 P1 J1 A', fX8_rounds I P v = some (a, I1, P1) ∧ fX9_rounds J v = some (a, J1) ∧ _
  unfold fX8_rounds fX9_rounds
  rw [isB_sp]
  rcases rng v 1 50 (by omega) (by omega) with ⟨m, hm1, hm, rfl, e3⟩ | ⟨-, e3⟩
  · have q0 : (nI (A.1 2) = (0 : Int32)) ↔ A.1 2 = 0 := eqN (b := 0) (by omega) (by omega)
    rw [show fX9_in (nI m) 1 50 = _ from e3, bd1, bd1, if1, if1, show I 2 4 = _ from hC.1.1.1.2.2.1, hM.1 2 (by omega)]
    by_cases a2 : A.1 2 = 0
    · rw [ifn (fun z => z (q0.mpr a2)), ifn (fun z => z (q0.mpr a2))]
      exact refuse hG hC hM _
    · rw [ifp (fun z => a2 (q0.mp z)), ifp (fun z => a2 (q0.mp z))]
      obtain ⟨I1, P1, J1, r1, r2, r3, r4, r6, -, r5⟩ := doIt hG hC hM
      rw [r1, r2, bd1, bd1]
      simp only []
      obtain ⟨I2, s1, s2, s3⟩ := makeRounds_C r3 hG.1 (k := m) (by omega)
      obtain ⟨J2, t1, t2, t3⟩ := rounds_lp (m := m) (by omega) hG.1 r4 (fun I7 => (fX9_findHeaps I7).bind fun v8 => (fX9_done v8 (v8 134 7)).bind fun v9 => some (v9.1, v9.2))
      have g := rds_g hG.1 m
      obtain ⟨I3, n1, n2, n3, n4⟩ := s2.num g.1
      obtain ⟨J3, f1, f2, f3⟩ := findHeaps_sp t2 g.1.1
      rw [s1, bd1, n1, bd1, t1, f1, bd1, f2.1]
      obtain ⟨J4, d1, d2, d3, d4, d5, d6⟩ := r5 _ I3 J3 (nI (mF (gR (rds A.1 m)))) g.1 (s3.tr n4) n2 (t3.tr f3.w) (t2.fm f3)
      rw [d1, bd1]
      exact ⟨_, _, P1, J4, _, rfl, rfl, d2, d3, d4, d5, d6⟩
  · rw [show fX9_in v 1 50 = _ from e3, bd1, bd1, ifn (by decide), ifn (by decide)]
    exact refuse hG hC hM _
