/-! a new board; back; slots -/
def rsK (ρ : Nat → Nat) (r c k : Nat) : Nat → Nat := fun j => if 9 ≤ j ∧ j < 9 + k then 0 else stR (stR (stR (stR (stR (stR ρ 0 r) 1 c) 2 0) 6 0) 7 0) 8 0 j
theorem rsK_s {ρ : Nat → Nat} {r c k : Nat} : stR (rsK ρ r c k) (9 + k) 0 = rsK ρ r c (k + 1) := by
  funext j
  unfold rsK
  by_cases e : j = 9 + k
  · rw [e, stR_s, if_pos (by omega)]
  · rw [stR_n e]
    by_cases q : 9 ≤ j ∧ j < 9 + k
    · rw [if_pos q, if_pos (by omega)]
    · rw [if_neg q, if_neg (by omega)]
theorem rsK_at {ρ : Nat → Nat} {r c j : Nat} : rsK ρ r c 256 j = if 9 ≤ j ∧ j < 9 + 256 then 0 else if j = 8 then 0 else if j = 7 then 0 else if j = 6 then 0 else if j = 2 then 0 else if j = 1 then c else if j = 0 then r else ρ j := rfl
theorem rs_o {ρ : Nat → Nat} {r c j : Nat} (h : (3 ≤ j ∧ j < 6) ∨ 265 ≤ j) : rsK ρ r c 256 j = ρ j := by
  rw [rsK_at, if_neg (by omega), if_neg (by omega), if_neg (by omega), if_neg (by omega), if_neg (by omega), if_neg (by omega), if_neg (by omega)]
theorem rs_v {ρ : Nat → Nat} {r c : Nat} : rsK ρ r c 256 0 = r ∧ rsK ρ r c 256 1 = c ∧ rsK ρ r c 256 2 = 0 ∧ rsK ρ r c 256 6 = 0 ∧ rsK ρ r c 256 7 = 0 ∧ rsK ρ r c 256 8 = 0 ∧ ∀ i, i < 256 → gR (rsK ρ r c 256) i = 0 := by
  refine ⟨rfl, rfl, rfl, rfl, rfl, rfl, fun i hi => ?_⟩
  show rsK ρ r c 256 (9 + i) = 0
  rw [rsK_at, if_pos (by omega)]
theorem Good.rs {ρ : Nat → Nat} {r c : Nat} (h : Good ρ) (h1 : 2 ≤ r) (h2 : r ≤ 16) (h3 : 2 ≤ c) (h4 : c ≤ 16) : Good (rsK ρ r c 256) := by
  obtain ⟨⟨b1, b2, b3, b4⟩, g2, g3, g4, g5, g6, g7, g8⟩ := h
  obtain ⟨v0, v1, v2, v6, v7, v8, vg⟩ := rs_v (ρ := ρ) (r := r) (c := c)
  refine ⟨⟨by rw [v0]; omega, by rw [v1]; omega, fun i hi => by rw [vg i hi]; omega, fun i hi _ => vg i hi⟩, by rw [v2]; omega, ?_, ?_, ?_, fun u hu => by rw [v2] at hu; omega, fun t ht => ?_, by rw [v8, v2]; rfl⟩
  · rw [rs_o (j := 3) (by omega)]; exact g3
  · rw [rs_o (j := 3) (by omega), rs_o (j := 4) (by omega)]; exact g4
  · rw [rs_o (j := 5) (by omega)]; exact g5
  · rw [rs_o (j := 3) (by omega)] at ht
    rw [rs_o (by omega)]; exact g7 t ht
theorem reset_lp {J1 : II} {ρ : Nat → Nat} {r c : Nat} (h : MR J1 (rsK ρ r c 0)) (ct : II → Option (Int32 × II)) (x1 x2 : Int32) : ∃ J2, fX9_reset_L74 2000 ct x1 x2 0 J1 = ct J2 ∧ MR J2 (rsK ρ r c 256) ∧ FM1 J1 J2 := by
  have lp : ∀ (n x : Nat) (K : II) (fu : Nat), x + n = 256 → n < fu → MR K (rsK ρ r c x) → FM1 J1 K → ∃ J2, fX9_reset_L74 fu ct x1 x2 (nI x) K = ct J2 ∧ MR J2 (rsK ρ r c 256) ∧ FM1 J1 J2 := by
    intro n
    induction n with
    | zero =>
      intro x K fu hx hf k1 k2
      obtain ⟨fu, rfl⟩ : ∃ m, fu = m + 1 := ⟨fu - 1, by omega⟩
      refine ⟨K, ?_, by rw [show 256 = x by omega]; exact k1, k2⟩
      show (if (256 : Int32) ≤ nI x then ct K else _) = _
      rw [ifp (show (256 : Int32) ≤ nI x from yle (a := 256) (by omega) (by omega) (by omega))]
    | succ n ih =>
      intro x K fu hx hf k1 k2
      obtain ⟨fu, rfl⟩ : ∃ m, fu = m + 1 := ⟨fu - 1, by omega⟩
      show ∃ J2, (if (256 : Int32) ≤ nI x then ct K else ck (ix (9 + nI x) 367) ((some (up2 K 135 (9 + nI x).toNatClampNeg 0)).bind fun I14 => fX9_reset_L74 fu ct x1 x2 (nI x + 1) I14)) = ct J2 ∧ _
      rw [ifn (show ¬ (256 : Int32) ≤ nI x from nle (a := 256) (by omega) (by omega) (by omega)), e9, ckN (show 9 + x < 367 by omega) (by omega), tnN (show 9 + x < 2 ^ 31 by omega), bd1, nI_1]
      have := m_up (k := 9 + x) (v := 0) (z := 0) k1 rfl
      rw [rsK_s] at this
      exact ih (x + 1) _ fu (by omega) (by omega) this (k2.tr FM1.up)
  exact lp 256 0 J1 2000 (by omega) (by omega) h FM1.rf
theorem op_reset (x y : Int32) : OpS (fun I P => fX8_reset I P x y) (fun J => fX9_reset J x y) := by
  intro A I P J hG hC hM
  show ∃ a I1 P1 J1 A', fX8_reset I P x y = some (a, I1, P1) ∧ fX9_reset J x y = some (a, J1) ∧ _
  unfold fX8_reset fX9_reset
  simp only [isB_sp]
  rcases rng x 2 16 (by omega) (by omega) with ⟨r, h1, h2, rfl, e3⟩ | ⟨-, e3⟩
  · rw [show fX9_in (nI r) 2 16 = _ from e3, bd1, bd1, jf1, jf1]
    rcases rng y 2 16 (by omega) (by omega) with ⟨c, h3, h4, rfl, e4⟩ | ⟨-, e4⟩
    · rw [show fX9_in (nI c) 2 16 = _ from e4, bd1, bd1, if1, if1]
      obtain ⟨I1, P1, J1, r1, r2, r3, r4, r6, -, r5⟩ := doIt hG hC hM
      rw [r1, r2, bd1, bd1]
      simp only []
      unfold fX7_clearBoard fX0_forget
      rw [bd1, bd1, bd1, bd1, bd1, bd1, bd1, bd1, bd1, bd1, bd1, bd1, bd1, bd1, bd1]
      have m0 : MR (up2 (up2 (up2 (up2 (up2 (up2 J1 135 0 (nI r)) 135 1 (nI c)) 135 2 0) 135 6 0) 135 7 0) 135 8 0) (rsK A.1 r c 0) := by
        have e0 : rsK A.1 r c 0 = stR (stR (stR (stR (stR (stR A.1 0 r) 1 c) 2 0) 6 0) 7 0) 8 0 := by
          funext j
          exact if_neg (by omega)
        rw [e0]
        exact m_up (m_up (m_up (m_up (r4.up.up) rfl) rfl) rfl) rfl
      obtain ⟨J2, t1, t2, t3⟩ := reset_lp m0 (fun I15 => (fX9_done I15 (nI r * nI c)).bind fun v16 => some (v16.1, v16.2)) (nI r) (nI c)
      obtain ⟨v0, v1, v2, v6, v7, v8, vg⟩ := rs_v (ρ := A.1) (r := r) (c := c)
      rw [t1]
      have hCR : CR (up2 (up2 (up2 (up2 (fl2 (up2 (up2 I1 2 0 (nI r)) 2 1 (nI c)) 3 256 0) 2 4 0) 2 6 0) 2 7 0) 15 6 1) (rsK A.1 r c 256) := by
        refine ⟨⟨⟨rfl, rfl, rfl, rfl, rfl⟩, fun i hi => ?_, ?_, fun t ht => ?_, fun u e hu he => by rw [v2] at hu; omega⟩, Or.inr up2_a⟩
        · rw [up2_n (by omega), up2_n (by omega), up2_n (by omega), up2_n (by omega), fl2_a, if_pos hi, vg i hi]
          rfl
        · rw [up2_n (by omega), up2_n (by omega), up2_n (by omega), up2_n (by omega), fl2_n (by omega), up2_n (by omega), up2_n (by omega), rs_o (j := 3) (by omega), rs_o (j := 4) (by omega), rs_o (j := 5) (by omega)]
          exact r3.1.2.2.1
        · rw [rs_o (j := 3) (by omega)] at ht
          rw [up2_n (by omega), up2_n (by omega), up2_n (by omega), up2_n (by omega), fl2_n (by omega), up2_n (by omega), up2_n (by omega), rs_o (by omega)]
          exact r3.1.2.2.2.1 t ht
      obtain ⟨J3, d1, d2, d3, d4, d5, d6⟩ := r5 (rsK A.1 r c 256) _ J2 (nI r * nI c) (hG.1.rs h1 h2 h3 h4)
        (fun a ha => by rw [up2_n (by omega), up2_n (by omega), up2_n (by omega), up2_n (by omega), fl2_n (by omega), up2_n (by omega), up2_n (by omega)]) hCR
        (FM1.tr (FM1.up.tr (FM1.up.tr (FM1.up.tr (FM1.up.tr (FM1.up.tr FM1.up))))) t3) t2
      rw [d1, bd1]
      exact ⟨_, _, P1, J3, _, rfl, rfl, d2, d3, d4, d5, d6⟩
    · rw [show fX9_in y 2 16 = _ from e4, bd1, bd1, if0, if0]
      exact refuse hG hC hM _
  · rw [show fX9_in x 2 16 = _ from e3, bd1, bd1, jf0, jf0]
    exact refuse hG hC hM _
theorem load_C {I : II} {b : Nat} {ρ : Nat → Nat} (hb : 15 ≤ b) (h : CS I b ρ) (hG : Good ρ) : ∃ I', fX7_load I b = some I' ∧ CR I' ρ ∧ FC I I' := by
  obtain ⟨K, c1, c2, c3⟩ := copy_G (I := I) (a := 2) (b := b) (by omega) h hG
  unfold fX7_load fX0_forget
  rw [c1, bd1, bd1, bd1]
  exact ⟨_, rfl, ⟨c2.fm hG.2.1 (fun a _ _ => up2_n (by omega)), Or.inr up2_a⟩, fun a ha => by rw [up2_n (by omega), c3 a (by omega)]⟩
theorem undo_lp {J : II} {ρ : Nat → Nat} {h : Nat} (hh : h < 5) (h3 : J 134 3 = nI h) (hr : ∀ k, k < 367 → J 137 (367 * h + k) = nI (ρ k)) (ct : II → Option (Int32 × II)) : ∃ J2, fX9_undo_L22 2000 ct 0 J = ct J2 ∧ MR J2 ρ ∧ ∀ a, a ≠ 135 → J2 a = J a := by
  have lp : ∀ (n x : Nat) (K : II) (fu : Nat), x + n = 367 → n < fu → (∀ k, k < x → K 135 k = nI (ρ k)) → (∀ a, a ≠ 135 → K a = J a) → ∃ J2, fX9_undo_L22 fu ct (nI x) K = ct J2 ∧ MR J2 ρ ∧ ∀ a, a ≠ 135 → J2 a = J a := by
    intro n
    induction n with
    | zero =>
      intro x K fu hx hf k1 k2
      obtain ⟨fu, rfl⟩ : ∃ m, fu = m + 1 := ⟨fu - 1, by omega⟩
      refine ⟨K, ?_, fun k hk => k1 k (by omega), k2⟩
      show (if (367 : Int32) ≤ nI x then ct K else _) = _
      rw [ifp (show (367 : Int32) ≤ nI x from yle (a := 367) (by omega) (by omega) (by omega))]
    | succ n ih =>
      intro x K fu hx hf k1 k2
      obtain ⟨fu, rfl⟩ : ∃ m, fu = m + 1 := ⟨fu - 1, by omega⟩
      show ∃ J2, (if (367 : Int32) ≤ nI x then ct K else ck (ix ((367 * (K 134 3)) + nI x) 1835) (ck (ix (nI x) 367) ((some (up2 K 135 (nI x).toNatClampNeg (K 137 ((367 * (K 134 3)) + nI x).toNatClampNeg))).bind fun I6 => fX9_undo_L22 fu ct (nI x + 1) I6))) = ct J2 ∧ _
      rw [ifn (show ¬ (367 : Int32) ≤ nI x from nle (a := 367) (by omega) (by omega) (by omega)), k2 134 (by omega), h3, m367, nI_add, ckN (show 367 * h + x < 1835 by omega) (by omega), ckN (show x < 367 by omega) (by omega), tnN (show x < 2 ^ 31 by omega), tnN (show 367 * h + x < 2 ^ 31 by omega), bd1, nI_1, k2 137 (by omega), hr x (by omega)]
      refine ih (x + 1) _ fu (by omega) (by omega) (fun k hk => ?_) (fun a ha => by rw [up2_n ha, k2 a ha])
      rw [up2_at]
      by_cases e : k = x
      · rw [if_pos e, e]
      · rw [if_neg e]; exact k1 k (by omega)
  exact lp 367 0 J 2000 (by omega) (by omega) (fun k hk => by omega) (fun _ _ => rfl)
theorem op_undo : OpS (fun I P => (fX8_undo I P).bind fun r => some (r.1, r.2, P)) (fun J => fX9_undo J) := by
  intro A I P J hG hC hM
  show ∃ a I1 P1 J1 A', ((fX8_undo I P).bind fun r => some (r.1, r.2, P)) = some (a, I1, P1) ∧ fX9_undo J = some (a, J1) ∧ _
  obtain ⟨c1, ⟨c2, c3, c4⟩, c5, c6⟩ := id hC
  obtain ⟨m1, ⟨m2, m3⟩, m4, m5⟩ := id hM
  obtain ⟨g1, ⟨g2, g3⟩, g4, g5⟩ := id hG
  unfold fX8_undo fX1_takeLatest fX9_undo
  rw [c3, m2]
  by_cases q : A.2.1.1 = 0
  · have e : fX1_stateAt P (nI A.2.1.1 - 1) = some none := by
      rw [q]
      exact ifp (by decide)
    rw [e, q, ifn (show ¬ ¬ nI 0 = (0 : Int32) from fun z => z rfl), bd1, bd1]
    exact refuse hG hC hM _
  · obtain ⟨h, hh⟩ : ∃ h, A.2.1.1 = h + 1 := ⟨A.2.1.1 - 1, by omega⟩
    rw [hh] at c3 c4 m2 m3 g2 g3 ⊢
    have hb := HB_n (c2.1 h (by omega))
    rw [ifp (show ¬ nI (h + 1) = (0 : Int32) from fun z => by have := (eqN (b := 0) (by omega) (by omega)).mp z; omega), show nI (h + 1) - 1 = nI h from pk_sub (a := h + 1) (b := 1) (by omega), stateAt_C (show h < 5 by omega), bd1]
    simp only []
    rw [bd1, bd1, bd1]
    simp only []
    obtain ⟨I2, l1, l2, l3⟩ := load_C (I := up2 I 21 1 (nI h)) (b := hq P h) (ρ := A.2.1.2 h) (by omega) ((c4 h (by omega)).fm (g3 h (by omega)).2.1 (fun a _ _ => up2_n (by omega))) (g3 h (by omega))
    obtain ⟨J2, t1, t2, t3⟩ := undo_lp (J := up2 J 134 3 (nI h)) (ρ := A.2.1.2 h) (h := h) (by omega) up2_a (fun k hk => by rw [up2_n (by omega)]; exact m3 h (by omega) k hk) (fun I7 => some ((I7 134 3), I7))
    rw [l1, bd1, bd1, t1, l3 21 (by omega), up2_a, t3 134 (by omega), up2_a]
    have hA : GI (A.2.1.2 h, (h, A.2.1.2), A.2.2) := ⟨g3 h (by omega), ⟨by show h ≤ 5; omega, fun i hi => g3 i (by have : i < h := hi; omega)⟩, g4, g5⟩
    refine ⟨_, I2, P, J2, (A.2.1.2 h, (h, A.2.1.2), A.2.2), rfl, rfl, hA, ⟨l2, ⟨c2, by rw [l3 21 (by omega)]; exact up2_a, fun i hi => ?_⟩, fun s hs => ⟨by rw [l3 _ (by omega), up2_n (by omega)]; exact (c5 s hs).1, fun hk => ((c5 s hs).2 hk).fm ((g4 s hs).2 hk).2.1 (fun a _ _ => by rw [l3 a (by omega), up2_n (by omega)])⟩, by rw [l3 88 (by omega), l3 89 (by omega), up2_n (by omega), up2_n (by omega)]; exact c6⟩, ⟨t2, ⟨by rw [t3 134 (by omega)]; exact up2_a, fun i hi k hk => ?_⟩, by rw [t3 139 (by omega), t3 138 (by omega), up2_n (by omega), up2_n (by omega)]; exact m4, by rw [t3 134 (by omega), t3 146 (by omega), up2_b (by omega), up2_n (by omega)]; exact m5⟩, fun a ha => by rw [l3 a (by omega), up2_n (by omega)], fun a ha => by rw [t3 a (by omega), up2_n (by omega)]⟩
    · have hi' : i < h := hi
      have hbi := HB_n (c2.1 i (by omega))
      exact (c4 i (by omega)).fm (g3 i (by omega)).2.1 (fun a _ _ => by rw [l3 a (by omega), up2_n (by omega)])
    · have hi' : i < h := hi
      show J2 137 (367 * i + k) = nI (A.2.1.2 i k)
      rw [t3 137 (by omega), up2_n (by omega)]
      exact m3 i (by omega) k hk
/-! slots, and the sum of all chips -/
theorem sumC {I : II} {b : Nat} {g : Nat → Nat} (h : ∀ c, c < 256 → I (b + 1) c = nI (g c)) : fX4_allChips I b = some (nI (sm g 256)) := by
  have lp : ∀ (n x : Nat) (fu : Nat), x + n = 256 → n < fu → fX4_allChips_L4 fu (fun z3 => some z3) b I (nI (sm g x)) (nI x) = some (nI (sm g 256)) := by
    intro n
    induction n with
    | zero =>
      intro x fu hx hf
      obtain ⟨fu, rfl⟩ : ∃ m, fu = m + 1 := ⟨fu - 1, by omega⟩
      show (if (256 : Int32) ≤ nI x then some (nI (sm g x)) else _) = _
      rw [ifp (show (256 : Int32) ≤ nI x from yle (a := 256) (by omega) (by omega) (by omega)), show x = 256 by omega]
    | succ n ih =>
      intro x fu hx hf
      obtain ⟨fu, rfl⟩ : ∃ m, fu = m + 1 := ⟨fu - 1, by omega⟩
      show (if (256 : Int32) ≤ nI x then some (nI (sm g x)) else ck (ix (nI x) 256) (fX4_allChips_L4 fu (fun z3 => some z3) b I (nI (sm g x) + (I (b + 1) (nI x).toNatClampNeg)) (nI x + 1))) = _
      rw [ifn (show ¬ (256 : Int32) ≤ nI x from nle (a := 256) (by omega) (by omega) (by omega)), ckN (show x < 256 by omega) (by omega), tnN (show x < 2 ^ 31 by omega), h x (by omega), nI_add, nI_1]
      exact ih (x + 1) fu (by omega) (by omega)
  exact lp 256 0 2000 (by omega) (by omega)
theorem sumM {J : II} {ρ : Nat → Nat} (h : MR J ρ) : fX9_allChips J = some (nI (sm (gR ρ) 256)) := by
  have lp : ∀ (n x : Nat) (fu : Nat), x + n = 256 → n < fu → fX9_allChips_L4 fu (fun z3 => some z3) J (nI (sm (gR ρ) x)) (nI x) = some (nI (sm (gR ρ) 256)) := by
    intro n
    induction n with
    | zero =>
      intro x fu hx hf
      obtain ⟨fu, rfl⟩ : ∃ m, fu = m + 1 := ⟨fu - 1, by omega⟩
      show (if (256 : Int32) ≤ nI x then some (nI (sm (gR ρ) x)) else _) = _
      rw [ifp (show (256 : Int32) ≤ nI x from yle (a := 256) (by omega) (by omega) (by omega)), show x = 256 by omega]
    | succ n ih =>
      intro x fu hx hf
      obtain ⟨fu, rfl⟩ : ∃ m, fu = m + 1 := ⟨fu - 1, by omega⟩
      show (if (256 : Int32) ≤ nI x then some (nI (sm (gR ρ) x)) else ck (ix (9 + nI x) 367) (fX9_allChips_L4 fu (fun z3 => some z3) J (nI (sm (gR ρ) x) + (J 135 (9 + nI x).toNatClampNeg)) (nI x + 1))) = _
      rw [ifn (show ¬ (256 : Int32) ≤ nI x from nle (a := 256) (by omega) (by omega) (by omega)), e9, ckN (show 9 + x < 367 by omega) (by omega), tnN (show 9 + x < 2 ^ 31 by omega), h.at9 (by omega), nI_add, nI_1]
      exact ih (x + 1) fu (by omega) (by omega)
  exact lp 256 0 2000 (by omega) (by omega)
theorem keep_lp {J : II} {ρ : Nat → Nat} {s : Nat} (hs : s < 2) (hr : MR J ρ) (ct : II → Option (Int32 × II)) : ∃ J2, fX9_keep_L20 2000 ct (nI s) 0 J = ct J2 ∧ (∀ k, k < 367 → J2 138 (367 * s + k) = nI (ρ k)) ∧ (∀ k, (k < 367 * s ∨ 367 * s + 367 ≤ k) → J2 138 k = J 138 k) ∧ ∀ a, a ≠ 138 → J2 a = J a := by
  have lp : ∀ (n x : Nat) (K : II) (fu : Nat), x + n = 367 → n < fu → (∀ k, k < x → K 138 (367 * s + k) = nI (ρ k)) → (∀ k, (k < 367 * s ∨ 367 * s + 367 ≤ k) → K 138 k = J 138 k) → (∀ a, a ≠ 138 → K a = J a) → ∃ J2, fX9_keep_L20 fu ct (nI s) (nI x) K = ct J2 ∧ (∀ k, k < 367 → J2 138 (367 * s + k) = nI (ρ k)) ∧ (∀ k, (k < 367 * s ∨ 367 * s + 367 ≤ k) → J2 138 k = J 138 k) ∧ ∀ a, a ≠ 138 → J2 a = J a := by
    intro n
    induction n with
    | zero =>
      intro x K fu hx hf k1 k2 k3
      obtain ⟨fu, rfl⟩ : ∃ m, fu = m + 1 := ⟨fu - 1, by omega⟩
      refine ⟨K, ?_, fun k hk => k1 k (by omega), k2, k3⟩
      show (if (367 : Int32) ≤ nI x then ct K else _) = _
      rw [ifp (show (367 : Int32) ≤ nI x from yle (a := 367) (by omega) (by omega) (by omega))]
    | succ n ih =>
      intro x K fu hx hf k1 k2 k3
      obtain ⟨fu, rfl⟩ : ∃ m, fu = m + 1 := ⟨fu - 1, by omega⟩
      show ∃ J2, (if (367 : Int32) ≤ nI x then ct K else ck (ix (nI x) 367) (ck (ix ((367 * nI s) + nI x) 734) ((some (up2 K 138 ((367 * nI s) + nI x).toNatClampNeg (K 135 (nI x).toNatClampNeg))).bind fun I8 => fX9_keep_L20 fu ct (nI s) (nI x + 1) I8))) = ct J2 ∧ _
      rw [ifn (show ¬ (367 : Int32) ≤ nI x from nle (a := 367) (by omega) (by omega) (by omega)), m367, nI_add, ckN (show x < 367 by omega) (by omega), ckN (show 367 * s + x < 734 by omega) (by omega), tnN (show x < 2 ^ 31 by omega), tnN (show 367 * s + x < 2 ^ 31 by omega), bd1, nI_1, k3 135 (by omega), hr x (by omega)]
      refine ih (x + 1) _ fu (by omega) (by omega) (fun k hk => ?_) (fun k hk => by rw [up2_b (by omega)]; exact k2 k hk) (fun a ha => by rw [up2_n ha, k3 a ha])
      rw [up2_at]
      by_cases e : k = x
      · rw [if_pos (by omega), e]
      · rw [if_neg (by omega)]; exact k1 k (by omega)
  exact lp 367 0 J 2000 (by omega) (by omega) (fun k hk => by omega) (fun _ _ => rfl) (fun _ _ => rfl)
theorem slots (x : Int32) : (∃ s, s < 2 ∧ x = nI s ∧ fX8_slotAt x = some (some (93 + 14 * s)) ∧ fX9_in x 0 1 = some 1) ∨ (fX8_slotAt x = some none ∧ fX9_in x 0 1 = some 0) := by
  unfold fX8_slotAt
  rcases rng x 0 1 (by omega) (by omega) with ⟨s, -, hs, rfl, e⟩ | ⟨hn, e⟩
  · left
    refine ⟨s, by omega, rfl, ?_, e⟩
    rw [ifn (fun z => by have := (nI_ltI (b := 0) (by omega) (by omega)).mp z; omega), ifp (show nI s < (2 : Int32) from (nI_ltI (b := 2) (by omega) (by omega)).mpr (by omega)), ckN (show s < 2 by omega) (by omega), tnN (show s < 2 ^ 31 by omega)]
  · right
    refine ⟨?_, e⟩
    by_cases q : x < 0
    · rw [ifp q]
    · rw [ifn q, ifn]
      intro z
      have q' : 0 ≤ x.toInt := by
        rw [Int32.lt_iff_toInt_lt, show (0 : Int32).toInt = 0 from by decide] at q
        omega
      obtain ⟨m, hm, rfl⟩ := nnI q'
      have := (nI_ltI (b := 2) hm (by omega)).mp z
      exact hn m (by omega) (by omega) rfl
theorem op_keep (x : Int32) : OpS (fun I P => (fX8_keep I x).bind fun r => some (r.1, r.2, P)) (fun J => fX9_keep J x) := by
  intro A I P J hG hC hM
  show ∃ a I1 P1 J1 A', ((fX8_keep I x).bind fun r => some (r.1, r.2, P)) = some (a, I1, P1) ∧ fX9_keep J x = some (a, J1) ∧ _
  unfold fX8_keep fX9_keep
  rcases slots x with ⟨s, hs, rfl, e1, e2⟩ | ⟨e1, e2⟩
  · rw [e1, e2, bd1, bd1, if1, ckN hs (by omega), tnN (show s < 2 ^ 31 by omega)]
    simp only []
    obtain ⟨c1, ⟨c2, c3, c4⟩, c5, c6⟩ := id hC
    obtain ⟨m1, ⟨m2, m3⟩, m4, m5⟩ := id hM
    obtain ⟨g1, ⟨g2, g3⟩, g4, g5⟩ := id hG
    obtain ⟨K, k1, k2, k3⟩ := copy_G (I := I) (a := 93 + 14 * s + 1) (b := 2) (ρ := A.1) (by omega) c1.1 g1
    rw [k1, bd1, bd1, sumC (g := gR A.1) (fun c hc => by rw [up2_n (by omega), k3 _ (by omega)]; exact c1.1.2.1 c hc), bd1, bd1, bd1]
    obtain ⟨J2, t1, t2, t3, t4⟩ := keep_lp (J := up2 J 139 s 1) hs (ρ := A.1) (fun k hk => by rw [up2_n (by omega)]; exact m1 k hk) (fun I9 => (fX9_allChips I9).bind fun v10 => some (v10, I9))
    rw [t1, sumM (ρ := A.1) (fun k hk => by rw [t4 135 (by omega), up2_n (by omega)]; exact m1 k hk), bd1]
    have fI : ∀ a, (a < 93 + 14 * s ∨ 93 + 14 * s + 14 ≤ a) → up2 K (93 + 14 * s) 1 1 a = I a := fun a ha => by rw [up2_n (by omega), k3 a (by omega)]
    have fJ : ∀ a, a ≠ 138 → a ≠ 139 → J2 a = J a := fun a ha hb => by rw [t4 a ha, up2_n hb]
    refine ⟨_, up2 K (93 + 14 * s) 1 1, P, J2, (A.1, A.2.1, ((fun i => if i = s then 1 else A.2.2.1.1 i), (fun i => if i = s then A.1 else A.2.2.1.2 i)), A.2.2.2), rfl, rfl, ⟨g1, ⟨g2, g3⟩, fun u hu => ?_, g5⟩, ⟨⟨c1.1.fm g1.2.1 (fun a _ _ => fI a (by omega)), c1.2.fm (fun a _ _ => fI a (by omega))⟩, ⟨c2, by rw [fI 21 (by omega)]; exact c3, fun i hi => ?_⟩, fun u hu => ?_, by rw [fI 88 (by omega), fI 89 (by omega)]; exact c6⟩, ⟨fun k hk => by rw [fJ 135 (by omega) (by omega)]; exact m1 k hk, by rw [fJ 134 (by omega) (by omega), fJ 137 (by omega) (by omega)]; exact ⟨m2, m3⟩, fun u hu => ?_, by rw [fJ 134 (by omega) (by omega), fJ 146 (by omega) (by omega)]; exact m5⟩, fun a ha => fI a (by omega), fun a ha => fJ a (by omega) (by omega)⟩
    · show (if u = s then 1 else A.2.2.1.1 u) ≤ 1 ∧ ((if u = s then 1 else A.2.2.1.1 u) = 1 → Good (if u = s then A.1 else A.2.2.1.2 u))
      by_cases e : u = s
      · rw [if_pos e, if_pos e]; exact ⟨by omega, fun _ => g1⟩
      · rw [if_neg e, if_neg e]; exact g4 u hu
    · have hi5 : i < 5 := Nat.lt_of_lt_of_le hi g2
      have hbi := HB_n (c2.1 i hi5)
      exact (c4 i hi).fm (g3 i hi).2.1 (fun a _ _ => fI a (by omega))
    · show up2 K (93 + 14 * s) 1 1 (93 + 14 * u) 1 = nI (if u = s then 1 else A.2.2.1.1 u) ∧ ((if u = s then 1 else A.2.2.1.1 u) = 1 → CS _ (94 + 14 * u) (if u = s then A.1 else A.2.2.1.2 u))
      by_cases e : u = s
      · rw [if_pos e, if_pos e, e]
        refine ⟨up2_a, fun _ => ?_⟩
        rw [show 94 + 14 * s = 93 + 14 * s + 1 by omega]
        exact k2.fm g1.2.1 (fun a _ _ => up2_n (by omega))
      · rw [if_neg e, if_neg e, fI _ (by omega)]
        exact ⟨(c5 u hu).1, fun hk => ((c5 u hu).2 hk).fm ((g4 u hu).2 hk).2.1 (fun a _ _ => fI a (by omega))⟩
    · show J2 139 u = nI (if u = s then 1 else A.2.2.1.1 u) ∧ ((if u = s then 1 else A.2.2.1.1 u) = 1 → ∀ k, k < 367 → J2 138 (367 * u + k) = nI ((if u = s then A.1 else A.2.2.1.2 u) k))
      rw [t4 139 (by omega), up2_at]
      by_cases e : u = s
      · rw [if_pos e, if_pos e, if_pos e, e]
        exact ⟨rfl, fun _ => t2⟩
      · rw [if_neg e, if_neg e, if_neg e]
        refine ⟨(m4 u hu).1, fun hk k hkk => ?_⟩
        rw [t3 _ (by omega), up2_n (by omega)]
        exact (m4 u hu).2 hk k hkk
  · rw [e1, e2, bd1, bd1, bd1, if0]
    exact refuse hG hC hM _
theorem restore_lp {J1 : II} {σ : Nat → Nat} {s : Nat} (hs : s < 2) (hr : ∀ k, k < 367 → J1 138 (367 * s + k) = nI (σ k)) (ct : II → Option (Int32 × II)) : ∃ J2, fX9_restore_L29 2000 ct (nI s) 0 J1 = ct J2 ∧ MR J2 σ ∧ FM1 J1 J2 := by
  have lp : ∀ (n x : Nat) (K : II) (fu : Nat), x + n = 367 → n < fu → (∀ k, k < x → K 135 k = nI (σ k)) → (∀ a, a ≠ 135 → K a = J1 a) → ∃ J2, fX9_restore_L29 fu ct (nI s) (nI x) K = ct J2 ∧ MR J2 σ ∧ FM1 J1 J2 := by
    intro n
    induction n with
    | zero =>
      intro x K fu hx hf k1 k2
      obtain ⟨fu, rfl⟩ : ∃ m, fu = m + 1 := ⟨fu - 1, by omega⟩
      refine ⟨K, ?_, fun k hk => k1 k (by omega), fun a ha => k2 a (by omega), fun j _ => by rw [k2 134 (by omega)]⟩
      show (if (367 : Int32) ≤ nI x then ct K else _) = _
      rw [ifp (show (367 : Int32) ≤ nI x from yle (a := 367) (by omega) (by omega) (by omega))]
    | succ n ih =>
      intro x K fu hx hf k1 k2
      obtain ⟨fu, rfl⟩ : ∃ m, fu = m + 1 := ⟨fu - 1, by omega⟩
      show ∃ J2, (if (367 : Int32) ≤ nI x then ct K else ck (ix ((367 * nI s) + nI x) 734) (ck (ix (nI x) 367) ((some (up2 K 135 (nI x).toNatClampNeg (K 138 ((367 * nI s) + nI x).toNatClampNeg))).bind fun I9 => fX9_restore_L29 fu ct (nI s) (nI x + 1) I9))) = ct J2 ∧ _
      rw [ifn (show ¬ (367 : Int32) ≤ nI x from nle (a := 367) (by omega) (by omega) (by omega)), m367, nI_add, ckN (show 367 * s + x < 734 by omega) (by omega), ckN (show x < 367 by omega) (by omega), tnN (show x < 2 ^ 31 by omega), tnN (show 367 * s + x < 2 ^ 31 by omega), bd1, nI_1, k2 138 (by omega), hr x (by omega)]
      refine ih (x + 1) _ fu (by omega) (by omega) (fun k hk => ?_) (fun a ha => by rw [up2_n ha, k2 a ha])
      rw [up2_at]
      by_cases e : k = x
      · rw [if_pos e, e]
      · rw [if_neg e]; exact k1 k (by omega)
  exact lp 367 0 J1 2000 (by omega) (by omega) (fun k hk => by omega) (fun _ _ => rfl)
theorem op_restore (x : Int32) : OpS (fun I P => fX8_restore I P x) (fun J => fX9_restore J x) := by
  intro A I P J hG hC hM
  show ∃ a I1 P1 J1 A', fX8_restore I P x = some (a, I1, P1) ∧ fX9_restore J x = some (a, J1) ∧ _
  unfold fX8_restore fX9_restore
  rcases slots x with ⟨s, hs, rfl, e1, e2⟩ | ⟨e1, e2⟩
  · rw [e1, e2, bd1, bd1, if1, ckN hs (by omega), tnN (show s < 2 ^ 31 by omega)]
    simp only []
    obtain ⟨c1, c2⟩ := hC.2.2.1 s hs
    obtain ⟨m1, m2⟩ := hM.2.2.1 s hs
    obtain ⟨g1, g2⟩ := hG.2.2.1 s hs
    rw [c1, m1]
    by_cases q : A.2.2.1.1 s = 1
    · rw [q, show nI 1 = (1 : Int32) from rfl, if1, if1]
      obtain ⟨I1, P1, r1, r2, r3⟩ := record_C hC hG
      obtain ⟨I1', P1', J1, r1', rb, -, r4, r6, r7, r5⟩ := doIt hG hC hM
      rw [r1] at r1'
      obtain ⟨rfl, rfl⟩ : I1 = I1' ∧ P1 = P1' := by
        have := Option.some.inj r1'
        exact ⟨congrArg Prod.fst this, congrArg Prod.snd this⟩
      rw [r1, rb, bd1, bd1]
      simp only []
      have hcs : CS I1 (93 + 14 * s + 1) (A.2.2.1.2 s) := by
        rw [show 93 + 14 * s + 1 = 94 + 14 * s by omega]
        exact (c2 q).fm (g2 q).2.1 (fun a _ _ => r3 a (by omega))
      obtain ⟨I2, l1, l2, l3⟩ := load_C (by omega) hcs (g2 q)
      obtain ⟨J2, t1, t2, t3⟩ := restore_lp (J1 := J1) (σ := A.2.2.1.2 s) hs (fun k hk => by rw [r7 138 (by omega)]; exact m2 q k hk) (fun I10 => (fX9_allChips I10).bind fun v11 => (fX9_done I10 v11).bind fun v12 => some (v12.1, v12.2))
      obtain ⟨J3, d1, d2, d3, d4, d5, d6⟩ := r5 (A.2.2.1.2 s) I2 J2 (nI (sm (gR (A.2.2.1.2 s)) 256)) (g2 q) l3 l2 t3 t2
      rw [l1, bd1, sumC (g := gR (A.2.2.1.2 s)) l2.1.2.1, bd1, t1, sumM t2, bd1, d1, bd1]
      exact ⟨_, _, P1, J3, _, rfl, rfl, d2, d3, d4, d5, d6⟩
    · have q0 : A.2.2.1.1 s = 0 := by omega
      rw [q0, show nI 0 = (0 : Int32) from rfl, if0, if0]
      exact refuse hG hC hM _
  · rw [e1, e2, bd1, bd1, if0]
    exact refuse hG hC hM _
