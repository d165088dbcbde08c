/-! the calls that ask only -/
theorem CI.num {A : AbS} {I : II} {P : PP} (hC : CI I P A) (hG : GI A) : ∃ I', fX0_numberIn I 3 = some (nI (mF (gR A.1)), I') ∧ CI I' P A ∧ CH I' (gR A.1) ∧ FC I I' := by
  obtain ⟨I', n1, n2, n3, n4⟩ := hC.1.num hG.1
  exact ⟨I', n1, hC.fc hG n4 n2, n3, n4⟩
theorem MI.fnd {A : AbS} {J : II} (hM : MI J A) (hG : GI A) : ∃ J', fX9_findHeaps J = some J' ∧ MH J' (gR A.1) ∧ MI J' A ∧ FM0 J J' := by
  obtain ⟨J', f1, f2, f3⟩ := findHeaps_sp hM.1 hG.1.1
  exact ⟨J', f1, f2, hM.fm f3.w (hM.1.fm f3), f3⟩
theorem op_chips (x y : Int32) : OpS (fun I P => (fX8_chips I x y).bind fun a => some (a, I, P)) (fun J => (fX9_chips J x y).bind fun a => some (a, J)) := by
  intro A I P J hG hC hM
  show ∃ a I1 P1 J1 A', ((fX8_chips I x y).bind fun a => some (a, I, P)) = some (a, I1, P1) ∧ ((fX9_chips J x y).bind fun a => some (a, J)) = some (a, J1) ∧ _
  have b1 := hG.1.1.1.2
  have b2 := hG.1.1.2.1.2
  unfold fX8_chips fX9_chips
  rcases cells hC.1.1 hM.1 hG.1.1 x y with ⟨r, c, hr, hc, rfl, rfl, e1, e2⟩ | ⟨e1, e2⟩
  · rw [e1, e2, bd1, bd1, ifp (nI_nneg (by omega)), jf1, chipsOf_C (by omega), bd1, c9, ckN (show 9 + (16 * r + c) < 367 by omega) (by omega), tnN (show 9 + (16 * r + c) < 2 ^ 31 by omega), hM.1.at9 (by omega), show I (2 + 1) (16 * r + c) = _ from hC.1.1.2.1 _ (by omega), bd1, bd1]
    exact refuse hG hC hM _
  · rw [e1, e2, bd1, bd1, ifn (by decide), jf0, bd1, bd1]
    exact refuse hG hC hM _
theorem op_walker (x y : Int32) : OpS (fun I P => (fX8_walker I x y).bind fun a => some (a, I, P)) (fun J => (fX9_walker J x y).bind fun a => some (a, J)) := by
  intro A I P J hG hC hM
  show ∃ a I1 P1 J1 A', ((fX8_walker I x y).bind fun a => some (a, I, P)) = some (a, I1, P1) ∧ ((fX9_walker J x y).bind fun a => some (a, J)) = some (a, J1) ∧ _
  have g2 := hG.1.2.1
  unfold fX8_walker fX9_walker
  rcases walkers hC.1.1.1.2.2.1 (hM.1 2 (by omega)) g2 x with ⟨w, hw, rfl, e1, e2⟩ | ⟨-, e1, e2⟩
  · rw [e1, e2, bd1, bd1, jf0]
    simp only []
    rcases rng y 0 8 (by omega) (by omega) with ⟨f, -, hf, rfl, e3⟩ | ⟨hn, e3⟩
    · rw [show fX9_in (nI f) 0 8 = _ from e3, bd1, jf1, m_of hM.1 (by omega) f (by omega), bd1, bd1]
      have h := hC.1.fl hw (f := f) (by omega)
      have hf' : f = 0 ∨ f = 1 ∨ f = 2 ∨ f = 3 ∨ f = 4 ∨ f = 5 ∨ f = 6 ∨ f = 7 ∨ f = 8 := by omega
      rw [← h]
      rcases hf' with e | e | e | e | e | e | e | e | e <;> subst e <;> exact refuse hG hC hM _
    · rw [show fX9_in y 0 8 = _ from e3, bd1, jf0, bd1]
      have hh : ∀ k, k ≤ 8 → y ≠ nI k := fun k hk => hn k hk (by omega)
      rw [ifn (show ¬ y = (0 : Int32) from hh 0 (by omega)), ifn (show ¬ y = (1 : Int32) from hh 1 (by omega)), ifn (show ¬ y = (2 : Int32) from hh 2 (by omega)), ifn (show ¬ y = (3 : Int32) from hh 3 (by omega)), ifn (show ¬ y = (4 : Int32) from hh 4 (by omega)), ifn (show ¬ y = (5 : Int32) from hh 5 (by omega)), ifn (show ¬ y = (6 : Int32) from hh 6 (by omega)), ifn (show ¬ y = (7 : Int32) from hh 7 (by omega)), ifn (show ¬ y = (8 : Int32) from hh 8 (by omega)), bd1]
      exact refuse hG hC hM _
  · rw [e1, e2, bd1, bd1, bd1, jf1, bd1]
    exact refuse hG hC hM _
theorem op_turn (x : Int32) : OpS (fun I P => (fX8_turn I x).bind fun a => some (a, I, P)) (fun J => (fX9_turn J x).bind fun a => some (a, J)) := by
  intro A I P J hG hC hM
  show ∃ a I1 P1 J1 A', ((fX8_turn I x).bind fun a => some (a, I, P)) = some (a, I1, P1) ∧ ((fX9_turn J x).bind fun a => some (a, J)) = some (a, J1) ∧ _
  have g3 := hG.1.2.2.1
  unfold fX8_turn fX9_turn
  rw [show I 5 1 = _ from hC.1.1.2.2.1.1, hM.1 3 (by omega)]
  by_cases q : 0 ≤ x
  · rw [ifp q, ifp q]
    obtain ⟨m, hm, rfl⟩ := nnI (x := x) (by rw [Int32.le_iff_toInt_le] at q; exact q)
    by_cases q2 : A.1 3 ≤ m
    · rw [ifp (yle (by omega) (by omega) q2), ifp (yle (by omega) (by omega) q2), bd1, bd1]
      exact refuse hG hC hM _
    · rw [ifn (nle (by omega) (by omega) (by omega)), ifn (nle (by omega) (by omega) (by omega)), ifp (show nI m < (30 : Int32) from (nI_ltI (b := 30) (by omega) (by omega)).mpr (by omega)), ckN (show m < 30 by omega) (by omega), tnN hm, e337, ckN (show 337 + m < 367 by omega) (by omega), tnN (show 337 + m < 2 ^ 31 by omega), hM.1 _ (show 337 + m < 367 by omega), show I 6 m = _ from hC.1.1.2.2.2.1 m (by omega), bd1, bd1]
      exact refuse hG hC hM _
  · rw [ifn q, ifn q, bd1, bd1]
    exact refuse hG hC hM _
theorem op_type (x : Int32) (hx : bC x = true) : OpS (fun I P => (fX8_type I x).bind fun r => some (r.1, r.2, P)) (fun J => fX9_type J x) := by
  intro A I P J hG hC hM
  show ∃ a I1 P1 J1 A', ((fX8_type I x).bind fun r => some (r.1, r.2, P)) = some (a, I1, P1) ∧ fX9_type J x = some (a, J1) ∧ _
  obtain ⟨c1, ⟨c2, c3, c4⟩, c5, c6, c7⟩ := id hC
  obtain ⟨m1, m2, m4, m5, m6⟩ := id hM
  obtain ⟨g1, ⟨g2, g3⟩, g4, g5, g6⟩ := id hG
  unfold fX8_type fX2_append fX9_type
  rw [c6, m5, ifn (show ¬ nI A.2.2.2.1 < (0 : Int32) from fun z => by have := (nI_ltI (b := 0) (by omega) (by omega)).mp z; omega)]
  by_cases q : A.2.2.2.1 = 40
  · rw [ifn (show ¬ nI A.2.2.2.1 < (40 : Int32) from fun z => by have := (nI_ltI (b := 40) (by omega) (by omega)).mp z; omega), ifn (show ¬ ¬ nI A.2.2.2.1 = (40 : Int32) from fun z => z (by rw [q]; rfl)), bd1, if0, bd1]
    exact refuse hG hC hM _
  · rw [ifp (show nI A.2.2.2.1 < (40 : Int32) from (nI_ltI (b := 40) (by omega) (by omega)).mpr (by omega)), ifp (show ¬ nI A.2.2.2.1 = (40 : Int32) from fun z => q ((eqN (b := 40) (by omega) (by omega)).mp z)), ckN (show A.2.2.2.1 < 40 by omega) (by omega), ckN (show A.2.2.2.1 < 40 by omega) (by omega), ck_t hx, ck_t hx, tnN (show A.2.2.2.1 < 2 ^ 31 by omega)]
    simp only [bd1, up2_n (show (88 : Nat) ≠ 89 by omega), up2_n (show (134 : Nat) ≠ 146 by omega), c6, m5, nI_1, if1, up2_a]
    refine ⟨_, up2 (up2 I 89 A.2.2.2.1 x) 88 1 (nI (A.2.2.2.1 + 1)), P, _, (A.1, A.2.1, A.2.2.1, (A.2.2.2.1 + 1, fun j => if j = A.2.2.2.1 then x else A.2.2.2.2 j)), rfl, rfl, ⟨g1, ⟨g2, g3⟩, g4, by show A.2.2.2.1 + 1 ≤ 40; omega, fun j hj => ?_⟩, ⟨⟨c1.1.fm g1.2.1 (fun a _ _ => by rw [up2_n (by omega), up2_n (by omega)]), c1.2.fm (fun a _ _ => by rw [up2_n (by omega), up2_n (by omega)])⟩, ⟨c2, by rw [up2_n (by omega), up2_n (by omega)]; exact c3, fun i hi => ?_⟩, fun s hs => ⟨by rw [up2_n (by omega), up2_n (by omega)]; exact (c5 s hs).1, fun hk => ((c5 s hs).2 hk).fm ((g4 s hs).2 hk).2.1 (fun a _ _ => by rw [up2_n (by omega), up2_n (by omega)])⟩, up2_a, fun j hj => ?_⟩, ⟨fun k hk => by rw [up2_n (by omega), up2_n (by omega)]; exact m1 k hk, by rw [up2_b (by omega), up2_n (by omega), up2_n (by omega), up2_n (by omega)]; exact m2, by rw [up2_n (by omega), up2_n (by omega), up2_n (by omega), up2_n (by omega)]; exact m4, up2_a, fun j hj => ?_⟩, fun a ha => by rw [up2_n (by omega), up2_n (by omega)], fun a ha => by rw [up2_n (by omega), up2_n (by omega)]⟩
    · have hj' : j < A.2.2.2.1 + 1 := hj
      show bC (if j = A.2.2.2.1 then x else A.2.2.2.2 j) = true
      by_cases e : j = A.2.2.2.1
      · rw [if_pos e]; exact hx
      · rw [if_neg e]; exact g6 j (by omega)
    · have hi5 : i < 5 := Nat.lt_of_lt_of_le hi g2
      have hbi := HB_n (c2.1 i hi5)
      exact (c4 i hi).fm (g3 i hi).2.1 (fun a _ _ => by rw [up2_n (by omega), up2_n (by omega)])
    · have hj' : j < A.2.2.2.1 + 1 := hj
      show _ = (if j = A.2.2.2.1 then x else A.2.2.2.2 j)
      rw [up2_n (by omega), up2_at]
      by_cases e : j = A.2.2.2.1
      · rw [if_pos e, if_pos e]
      · rw [if_neg e, if_neg e]; exact c7 j (by omega)
    · have hj' : j < A.2.2.2.1 + 1 := hj
      show _ = (if j = A.2.2.2.1 then x else A.2.2.2.2 j)
      rw [up2_n (by omega), up2_at]
      by_cases e : j = A.2.2.2.1
      · rw [if_pos e, if_pos e]
      · rw [if_neg e, if_neg e]; exact m6 j (by omega)
theorem op_clearText : OpS (fun I P => (fX8_clearText I).bind fun r => some (r.1, r.2, P)) (fun J => fX9_clearText J) := by
  intro A I P J hG hC hM
  show ∃ a I1 P1 J1 A', ((fX8_clearText I).bind fun r => some (r.1, r.2, P)) = some (a, I1, P1) ∧ fX9_clearText J = some (a, J1) ∧ _
  obtain ⟨c1, ⟨c2, c3, c4⟩, c5, c6, c7⟩ := id hC
  obtain ⟨m1, m2, m4, m5, m6⟩ := id hM
  obtain ⟨g1, ⟨g2, g3⟩, g4, g5, g6⟩ := id hG
  unfold fX8_clearText fX9_clearText
  rw [c6, m5, bd1, bd1, bd1]
  refine ⟨_, up2 I 88 1 0, P, _, (A.1, A.2.1, A.2.2.1, (0, A.2.2.2.2)), rfl, rfl, ⟨g1, ⟨g2, g3⟩, g4, by show 0 ≤ 40; omega, fun j hj => by have : j < 0 := hj; omega⟩, ⟨⟨c1.1.fm g1.2.1 (fun a _ _ => by rw [up2_n (by omega)]), c1.2.fm (fun a _ _ => by rw [up2_n (by omega)])⟩, ⟨c2, by rw [up2_n (by omega)]; exact c3, fun i hi => ?_⟩, fun s hs => ⟨by rw [up2_n (by omega)]; exact (c5 s hs).1, fun hk => ((c5 s hs).2 hk).fm ((g4 s hs).2 hk).2.1 (fun a _ _ => by rw [up2_n (by omega)])⟩, up2_a, fun j hj => by have : j < 0 := hj; omega⟩, ⟨fun k hk => by rw [up2_n (by omega)]; exact m1 k hk, by rw [up2_b (by omega), up2_n (by omega)]; exact m2, by rw [up2_n (by omega), up2_n (by omega)]; exact m4, up2_a, fun j hj => by have : j < 0 := hj; omega⟩, fun a ha => by rw [up2_n (by omega)], fun a ha => by rw [up2_n (by omega)]⟩
  have hi5 : i < 5 := Nat.lt_of_lt_of_le hi g2
  have hbi := HB_n (c2.1 i hi5)
  exact (c4 i hi).fm (g3 i hi).2.1 (fun a _ _ => by rw [up2_n (by omega)])
theorem op_heapOf (x y : Int32) : OpS (fun I P => (fX8_heapOf I x y).bind fun r => some (r.1, r.2, P)) (fun J => fX9_heapOf J x y) := by
  intro A I P J hG hC hM
  show ∃ a I1 P1 J1 A', ((fX8_heapOf I x y).bind fun r => some (r.1, r.2, P)) = some (a, I1, P1) ∧ fX9_heapOf J x y = some (a, J1) ∧ _
  have b1 := hG.1.1.1.2
  have b2 := hG.1.1.2.1.2
  have hb := hG.1.1.2.2.1
  unfold fX8_heapOf fX9_heapOf
  rcases cells hC.1.1 hM.1 hG.1.1 x y with ⟨r, c, hr, hc, rfl, rfl, e1, e2⟩ | ⟨e1, e2⟩
  · have hgc := hb (16 * r + c) (by omega)
    obtain ⟨J2, f1, f2, f3, f4⟩ := hM.fnd hG
    have hl := f2.2.1 (16 * r + c) (by omega)
    rw [e1, e2, bd1, bd1, ifp (nI_nneg (by omega)), if1, chipsOf_C (by omega), bd1, show I (2 + 1) (16 * r + c) = _ from hC.1.1.2.1 _ (by omega), f1, bd1, show (16 : Int32) = nI 16 from rfl, pk_mul, nI_add, ckN (show 16 * r + c < 256 by omega) (by omega), tnN (show 16 * r + c < 2 ^ 31 by omega), hl]
    by_cases q : gR A.1 (16 * r + c) = 0
    · rw [ifn (show ¬ ¬ nI (gR A.1 (16 * r + c)) = (0 : Int32) from fun z => z (by rw [q]; rfl)), show lb (gR A.1) (-5) 256 (16 * r + c) = -5 from if_neg (fun z => by have := z.1; omega), ifn (by decide), bd1]
      exact ⟨_, I, P, J2, A, rfl, rfl, hG, hC, f3, FrC.rf, f4.w.w⟩
    · have hlab := labF_lt (show 16 * r + c < 256 by omega) (show 0 < gR A.1 (16 * r + c) by omega)
      have hm := mF_le (gR A.1)
      obtain ⟨I2, n1, n2, n3, n4⟩ := hC.num hG
      have hh : fX0_heapWith I2 (nI (16 * r + c)) = some (nI (labF (gR A.1) (16 * r + c))) := by
        unfold fX0_heapWith
        rw [ifn (fun z => by have := (nI_ltI (b := 0) (by omega) (by omega)).mp z; omega), ifn (fun z => by have := (leN (a := 256) (by omega) (by omega)).mp z; omega), ckN (show 16 * r + c < 256 by omega) (by omega), tnN (show 16 * r + c < 2 ^ 31 by omega), n3.2.1 _ (by omega), lb_full (by omega) (by omega)]
      rw [ifp (show ¬ nI (gR A.1 (16 * r + c)) = (0 : Int32) from fun z => q ((eqN (b := 0) (by omega) (by omega)).mp z)), n1, bd1, lb_full (by omega) (by omega), ifp (nI_nneg (by omega)), place_M hb f2 hlab, bd1]
      simp only []
      rw [hh, bd1, place_C hb n3 hlab, bd1, bd1]
      exact ⟨_, I2, P, J2, A, rfl, rfl, hG, n2, f3, n4.w, f4.w.w⟩
  · rw [e1, e2, bd1, bd1, ifn (by decide), if0, bd1]
    exact refuse hG hC hM _
/-! heaps by their place -/
theorem conn_lab {g : Nat → Nat} {h i : Nat} (hh : h < mF g) (hi : i < 256) : (0 < g i ∧ labF g i = h) ↔ Conn g (rtAt g h) i := by
  obtain ⟨x, -, hx, rfl⟩ := rk_ex 256 hh
  rw [rtAt_eq hx]
  constructor
  · rintro ⟨h1, h2⟩
    have r := rtOf_sp hi h1
    have := rk_inj r.1 hx h2
    rw [← this]
    exact r.2
  · intro hc
    have := (Conn.sym hx.1.1 hx.1.2 hc).1
    refine ⟨this.2, ?_⟩
    unfold labF
    rw [rtOf_eq hx hc]
theorem mxN {a b : Nat} (ha : a < 2 ^ 31) (hb : b < 2 ^ 31) : mx (nI a) (nI b) = nI (Nat.max a b) := by
  unfold mx
  by_cases h : a < b
  · rw [if_pos ((nI_ltI ha hb).mpr h), show Nat.max a b = b from Nat.max_eq_right (by omega)]
  · rw [if_neg (fun z => h ((nI_ltI ha hb).mp z)), show Nat.max a b = a from Nat.max_eq_left (by omega)]
theorem most_C {g : Nat → Nat} {I : II} (hb : ∀ c, c < 256 → g c ≤ 99) (hg : ∀ c, c < 256 → I 3 c = nI (g c)) (hC : CH I g) {h : Nat} (hh : h < mF g) : fX0_mostChips I 3 (nI h) = some (nI (moF g h)) := by
  have hm := mF_le g
  have bnd : ∀ n, n ≤ 256 → mxe g (Conn g (rtAt g h)) n ≤ 99 := fun n hn => (mxe_le n).mpr (fun i hi _ => hb i (by omega))
  have lp : ∀ (n x : Nat) (fu : Nat), x + n = 256 → n < fu → fX0_mostChips_L5 fu (fun z6 => some z6) 3 (nI h) I (nI (mxe g (Conn g (rtAt g h)) x)) (nI x) = some (nI (moF g h)) := by
    intro n
    induction n with
    | zero =>
      intro x fu hx hf
      obtain ⟨fu, rfl⟩ : ∃ m, fu = m + 1 := ⟨fu - 1, by omega⟩
      show (if (256 : Int32) ≤ nI x then some (nI (mxe g (Conn g (rtAt g h)) x)) else _) = _
      rw [ifp (show (256 : Int32) ≤ nI x from yle (a := 256) (by omega) (by omega) (by omega)), show x = 256 by omega]
      rfl
    | succ n ih =>
      intro x fu hx hf
      obtain ⟨fu, rfl⟩ : ∃ m, fu = m + 1 := ⟨fu - 1, by omega⟩
      have hn : ¬ (256 : Int32) ≤ nI x := nle (a := 256) (by omega) (by omega) (by omega)
      show (if (256 : Int32) ≤ nI x then some (nI (mxe g (Conn g (rtAt g h)) x)) else (if (256 : Int32) ≤ nI x then some (nI (mxe g (Conn g (rtAt g h)) x)) else ck (ix (nI x) 256) ((if ¬ (I 19 (nI x).toNatClampNeg) = nI h then fX0_mostChips_L5 fu (fun z6 => some z6) 3 (nI h) I (nI (mxe g (Conn g (rtAt g h)) x)) (nI x + 1) else ck (ix (nI x) 256) (fX0_mostChips_L5 fu (fun z6 => some z6) 3 (nI h) I (mx (nI (mxe g (Conn g (rtAt g h)) x)) (I 3 (nI x).toNatClampNeg)) (nI x + 1)))))) = _
      rw [ifn hn, ifn hn, ckN (show x < 256 by omega) (by omega), ckN (show x < 256 by omega) (by omega), tnN (show x < 2 ^ 31 by omega), hC.2.1 x (by omega), hg x (by omega), nI_1]
      have hcl := conn_lab hh (show x < 256 by omega)
      have key : (lb g (-1) 256 x = nI h) ↔ Conn g (rtAt g h) x := by
        rw [← hcl]
        by_cases q : 0 < g x
        · have hl := labF_lt (show x < 256 by omega) q
          rw [lb_full (by omega) q, nI_eq (by omega) (by omega)]
          exact ⟨fun z => ⟨q, z⟩, fun z => z.2⟩
        · rw [show lb g (-1) 256 x = -1 from if_neg (fun z => q z.1)]
          refine ⟨fun z => ?_, fun z => absurd z.1 q⟩
          exfalso
          have := nI_nneg (n := h) (by omega)
          rw [← z] at this
          exact absurd this (by decide)
      have hbx := bnd x (by omega)
      have hgx := hb x (by omega)
      by_cases q : Conn g (rtAt g h) x
      · rw [ifn (fun z => z (key.mpr q)), mxN (by omega) (by omega)]
        have e : Nat.max (mxe g (Conn g (rtAt g h)) x) (g x) = mxe g (Conn g (rtAt g h)) (x + 1) := by
          show _ = Nat.max _ (dd (Conn g (rtAt g h) x) * g x)
          rw [dd_t q, Nat.one_mul]
        rw [e]
        exact ih (x + 1) fu (by omega) (by omega)
      · rw [ifp (fun z => q (key.mp z))]
        have e : mxe g (Conn g (rtAt g h)) x = mxe g (Conn g (rtAt g h)) (x + 1) := by
          show _ = Nat.max _ (dd (Conn g (rtAt g h) x) * g x)
          rw [dd_f q, Nat.zero_mul]
          exact (Nat.max_eq_left (Nat.zero_le _)).symm
        rw [e]
        exact ih (x + 1) fu (by omega) (by omega)
  exact lp 256 0 2000 (by omega) (by omega)
/-- the heap at a place: both find the same -/
theorem heapAt_CM {g : Nat → Nat} {I J : II} (hb : ∀ c, c < 256 → g c ≤ 99) (hC : CH I g) (hM : MH J g) {m : Nat} (hm : m < 2 ^ 31) (x2 : Int32) (ct : Unit → Option (Int32 × II)) :
    (∃ h, h < mF g ∧ Plc g h = m ∧ fX0_heapAt I (nI m) = some (nI h) ∧ fX9_heap_L22 2000 ct (nI m) x2 J 0 = (if ¬ x2 = 0 then (if ¬ x2 = 1 then (if ¬ x2 = 2 then (if ¬ x2 = 3 then some ((J 144 h), J) else some ((rm (J 143 h) 16), J)) else some (((J 143 h) / 16), J)) else some ((J 142 h), J)) else some ((J 141 h), J))) ∨ (fX0_heapAt I (nI m) = some (-1) ∧ fX9_heap_L22 2000 ct (nI m) x2 J 0 = ct ()) := by
  have hmF := mF_le g
  have lp : ∀ (n x : Nat) (fu fv : Nat), x + n = mF g → n < fu → n < fv → (∃ h, h < mF g ∧ Plc g h = m ∧ fX0_heapAt_L2 fu (fun _ => some (-1)) (nI m) I (nI x) = some (nI h) ∧ fX9_heap_L22 fv ct (nI m) x2 J (nI x) = (if ¬ x2 = 0 then (if ¬ x2 = 1 then (if ¬ x2 = 2 then (if ¬ x2 = 3 then some ((J 144 h), J) else some ((rm (J 143 h) 16), J)) else some (((J 143 h) / 16), J)) else some ((J 142 h), J)) else some ((J 141 h), J))) ∨ (fX0_heapAt_L2 fu (fun _ => some (-1)) (nI m) I (nI x) = some (-1) ∧ fX9_heap_L22 fv ct (nI m) x2 J (nI x) = ct ()) := by
    intro n
    induction n with
    | zero =>
      intro x fu fv hx hf hv
      obtain ⟨fu, rfl⟩ : ∃ m, fu = m + 1 := ⟨fu - 1, by omega⟩
      obtain ⟨fv, rfl⟩ : ∃ m, fv = m + 1 := ⟨fv - 1, by omega⟩
      right
      constructor
      · show (if (I 15 5) ≤ nI x then some (-1) else _) = _
        rw [hC.1, ifp (yle (by omega) (by omega) (by omega))]
      · show (if (J 134 7) ≤ nI x then ct () else _) = _
        rw [hM.1, ifp (yle (by omega) (by omega) (by omega))]
    | succ n ih =>
      intro x fu fv hx hf hv
      obtain ⟨fu, rfl⟩ : ∃ m, fu = m + 1 := ⟨fu - 1, by omega⟩
      obtain ⟨fv, rfl⟩ : ∃ m, fv = m + 1 := ⟨fv - 1, by omega⟩
      have hxm : x < mF g := by omega
      have hP := Plc_lt hxm
      have e1 : fX0_heapAt_L2 (fu + 1) (fun _ => some (-1)) (nI m) I (nI x) = (if ¬ nI (Plc g x) = nI m then fX0_heapAt_L2 fu (fun _ => some (-1)) (nI m) I (nI (x + 1)) else some (nI x)) := by
        show (if (I 15 5) ≤ nI x then _ else (fX0_placeOf I (nI x)).bind fun v2 => (if ¬ v2 = nI m then fX0_heapAt_L2 fu (fun _ => some (-1)) (nI m) I (nI x + 1) else some (nI x))) = _
        rw [hC.1, ifn (nle (by omega) (by omega) hxm), place_C hb hC hxm, bd1, nI_1]
      have e2 : fX9_heap_L22 (fv + 1) ct (nI m) x2 J (nI x) = (if ¬ nI (Plc g x) = nI m then fX9_heap_L22 fv ct (nI m) x2 J (nI (x + 1)) else (if ¬ x2 = 0 then (if ¬ x2 = 1 then (if ¬ x2 = 2 then (if ¬ x2 = 3 then some ((J 144 x), J) else some ((rm (J 143 x) 16), J)) else some (((J 143 x) / 16), J)) else some ((J 142 x), J)) else some ((J 141 x), J))) := by
        show (if (J 134 7) ≤ nI x then ct () else (fX9_placeOf J (nI x)).bind fun v6 => (if ¬ v6 = nI m then fX9_heap_L22 fv ct (nI m) x2 J (nI x + 1) else (if ¬ x2 = 0 then (if ¬ x2 = 1 then (if ¬ x2 = 2 then (if ¬ x2 = 3 then ck (ix (nI x) 128) (some ((J 144 (nI x).toNatClampNeg), J)) else ck (ix (nI x) 128) (some ((rm (J 143 (nI x).toNatClampNeg) 16), J))) else ck (ix (nI x) 128) (some (((J 143 (nI x).toNatClampNeg) / 16), J))) else ck (ix (nI x) 128) (some ((J 142 (nI x).toNatClampNeg), J))) else ck (ix (nI x) 128) (some ((J 141 (nI x).toNatClampNeg), J))))) = _
        have c1 : ∀ {α : Type} {k : Option α}, ck (ix (nI x) 128) k = k := ckN (show x < 128 by omega) (by omega)
        rw [hM.1, ifn (nle (by omega) (by omega) hxm), place_M hb hM hxm, bd1, nI_1, tnN (show x < 2 ^ 31 by omega)]
        simp only [c1]
      rw [e1, e2]
      by_cases q : Plc g x = m
      · left
        refine ⟨x, hxm, q, ?_, ?_⟩
        · rw [ifn (fun z => z (by rw [q]))]
        · rw [ifn (fun z => z (by rw [q]))]
      · have hne : ¬ nI (Plc g x) = nI m := fun z => q ((nI_eq (by omega) hm).mp z)
        rw [ifp hne, ifp hne]
        exact ih (x + 1) fu fv (by omega) (by omega) (by omega)
  exact lp (mF g) 0 2000 2000 (by omega) (by omega) (by omega)
theorem op_heap (x y : Int32) : OpS (fun I P => (fX8_heap I x y).bind fun r => some (r.1, r.2, P)) (fun J => fX9_heap J x y) := by
  intro A I P J hG hC hM
  show ∃ a I1 P1 J1 A', ((fX8_heap I x y).bind fun r => some (r.1, r.2, P)) = some (a, I1, P1) ∧ fX9_heap J x y = some (a, J1) ∧ _
  have hb := hG.1.1.2.2.1
  unfold fX8_heap fX9_heap
  rw [isB_sp]
  by_cases q : x < 0
  · rw [ifp q, ifp q, bd1]
    exact refuse hG hC hM _
  · have q' : 0 ≤ x.toInt := by
      rw [Int32.lt_iff_toInt_lt, show (0 : Int32).toInt = 0 from by decide] at q
      omega
    obtain ⟨m, hm, rfl⟩ := nnI q'
    rw [ifn q, ifn q]
    rcases rng y 0 4 (by omega) (by omega) with ⟨f, -, hf, rfl, e3⟩ | ⟨hn, e3⟩
    · obtain ⟨I2, n1, n2, n3, n4⟩ := hC.num hG
      obtain ⟨J2, f1, f2, f3, f4⟩ := hM.fnd hG
      have hmF := mF_le (gR A.1)
      rw [show fX9_in (nI f) 0 4 = _ from e3, bd1, bd1, if1, if1, n1, f1, bd1, bd1]
      simp only []
      have non : ∃ a I1 P1 J1 A', (some ((-5 : Int32), I2, P)) = some (a, I1, P1) ∧ (some ((-5 : Int32), J2)) = some (a, J1) ∧ GI A' ∧ CI I1 P1 A' ∧ MI J1 A' ∧ FrC I I1 ∧ FrM J J1 := ⟨_, I2, P, J2, A, rfl, rfl, hG, n2, f3, n4.w, f4.w.w⟩
      rcases heapAt_CM hb n3 f2 hm (nI f) (fun _ => some ((-5), J2)) with ⟨h, h1, h2, h3, h4⟩ | ⟨h3, h4⟩
      · have hP := Plc_lt h1
        have c1 : ∀ {α : Type} {k : Option α}, ck (ix (nI h) 128) k = k := ckN (show h < 128 by omega) (by omega)
        obtain ⟨s1, s2, s3⟩ := n3.2.2 h h1
        obtain ⟨t1, t2, t3, t4⟩ := f2.2.2 h h1
        rw [h4, ifp ((nI_ltI (by omega) (by omega)).mpr (show m < mF (gR A.1) by omega)), h3, bd1, ifn (show ¬ nI h < (0 : Int32) from fun z => by have := (nI_ltI (b := 0) (by omega) (by omega)).mp z; omega), ifp (show nI h < (128 : Int32) from (nI_ltI (b := 128) (by omega) (by omega)).mpr (by omega)), most_C hb n2.1.1.2.1 n3 h1, tnN (show h < 2 ^ 31 by omega), s1, s2, s3, t1, t2, t3, t4]
        simp only [c1]
        have hf' : f = 0 ∨ f = 1 ∨ f = 2 ∨ f = 3 ∨ f = 4 := by omega
        rcases hf' with e | e | e | e | e <;> subst e <;> exact ⟨_, I2, P, J2, A, rfl, rfl, hG, n2, f3, n4.w, f4.w.w⟩
      · rw [h4]
        by_cases q2 : m < mF (gR A.1)
        · rw [ifp ((nI_ltI (by omega) (by omega)).mpr q2), h3, bd1, ifp m1_neg, bd1]
          exact non
        · rw [ifn (fun z => q2 ((nI_ltI (by omega) (by omega)).mp z)), bd1]
          exact non
    · rw [show fX9_in y 0 4 = _ from e3, bd1, bd1, if0, if0, bd1]
      exact refuse hG hC hM _
