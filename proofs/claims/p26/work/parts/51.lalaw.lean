/-! the law's events, one by one -/
def TI (ρ : Nat → Nat) (T : Nat) : Prop := (T = 0 ∧ ρ 5 = 1 ∧ ρ 3 = 1) ∨ (1 ≤ T ∧ T ≤ 30 ∧ ρ 5 = 0 ∧ ρ 3 = T)
def LInv (R Cc T : Nat) (A : AbS) : Prop := GI A ∧ PA A ∧ A.1 0 = R ∧ A.1 1 = Cc ∧ TI A.1 T
theorem LInv.kp {R Cc T : Nat} {A A' : AbS} (h : LInv R Cc T A) (k : Kp A A') : LInv R Cc T A' := by
  obtain ⟨h1, h2, h3, h4, h5⟩ := h
  obtain ⟨k1, k2, k3⟩ := k
  refine ⟨k1, k2, by rw [k3 0 (by omega) (by omega)]; exact h3, by rw [k3 1 (by omega) (by omega)]; exact h4, ?_⟩
  unfold TI
  rw [k3 3 (by omega) (by omega), k3 5 (by omega) (by omega)]
  exact h5
theorem sm_on {ρ : Nat → Nat} {a b m r c : Nat} (h : 16 * r + c < 256) : sm (gR (onR ρ a b m r c).1) 256 = sm (gR ρ) 256 + (onR ρ a b m r c).2 := by
  unfold onR
  by_cases q : (r * a + c * b) % m = 0 ∧ gR ρ (16 * r + c) < 99
  · rw [if_pos q]
    exact sm_add1 (c := 16 * r + c) (v := 1) 256 h (fun i _ hi => by rw [gR_st]; exact if_neg hi) (by rw [gR_st]; exact if_pos rfl)
  · rw [if_neg q]
    exact (Nat.add_zero _).symm
theorem sm_rw {ρ : Nat → Nat} {a b m r : Nat} (hr : r < 16) : ∀ c, c ≤ 16 → sm (gR (rwR ρ a b m r c).1) 256 = sm (gR ρ) 256 + (rwR ρ a b m r c).2
  | 0, _ => (Nat.add_zero (sm (gR ρ) 256)).symm
  | c + 1, hc => by
    show sm (gR (onR (rwR ρ a b m r c).1 a b m r c).1) 256 = sm (gR ρ) 256 + ((rwR ρ a b m r c).2 + (onR (rwR ρ a b m r c).1 a b m r c).2)
    rw [sm_on (by omega), sm_rw hr c (by omega)]
    omega
theorem sm_al {ρ : Nat → Nat} {a b m : Nat} (h1 : ρ 1 ≤ 16) : ∀ r, r ≤ 16 → sm (gR (alR ρ a b m r).1) 256 = sm (gR ρ) 256 + (alR ρ a b m r).2
  | 0, _ => (Nat.add_zero (sm (gR ρ) 256)).symm
  | r + 1, hr => by
    show sm (gR (rwR (alR ρ a b m r).1 a b m r (ρ 1)).1) 256 = sm (gR ρ) 256 + ((alR ρ a b m r).2 + (rwR (alR ρ a b m r).1 a b m r (ρ 1)).2)
    rw [sm_rw (by omega) (ρ 1) h1, sm_al h1 r (by omega)]
    omega
section EV
variable {bk : Int32 → Int32 → AbS → Option Int32} {ct : AbS → Option Int32} {cl : Int32 → Int32} {R Cc T e W m : Nat} {A : AbS}
theorem v891 (hbk : ∀ T' A', LInv R Cc T' A' → bk (nI T') (nI (e + 1)) A' = some 1) {T : Nat} {A : AbS} (h : LInv R Cc T A) : hL_law_J891 bk ct cl A (nI R) (nI Cc) (nI T) (nI e) 1 = some 1 := by
  obtain ⟨h1, h2, -⟩ := id h
  unfold hL_law_J891
  rw [if_neg (by decide), heaps_sp h1, bd1, if_neg (by decide), walkers_sp h1 h2.1, bd1, if_pos (by decide), nI_1]
  exact hbk T A h
theorem eqS {a b : Nat} (ha : a < 2 ^ 31) (hb : b < 2 ^ 31) (h : a ≠ b) : ¬ nI a = nI b := fun z => h ((eqN ha hb).mp z)
theorem v851 (hbk : ∀ T' A', LInv R Cc T' A' → bk (nI T') (nI (e + 1)) A' = some 1) (h : LInv R Cc T A) (x7 : Int32) {so : Nat} (hso : so < 13) (hW : W = A.1 2) : hL_law_J851 bk ct cl A (nI R) (nI Cc) (nI T) (nI e) x7 (nI so) (nI W) 1 = some 1 := by
  have h8 := h.1.1.2.1
  unfold hL_law_J851 hL_law_J889
  by_cases q : so = 12
  · rw [if_neg (show ¬ ¬ nI so = (12 : Int32) from fun z => z (by rw [q]; rfl))]
    by_cases w : W = 0
    · rw [if_pos (show nI W ≤ (0 : Int32) by rw [w]; decide)]
      exact v891 hbk h
    · obtain ⟨v, hv, hlow⟩ := low_all x7 (n := 12) (by omega) (by omega)
      have hlow : ∀ B : AbS, hL_low B x7 12 = some (nI v) := hlow
      have g := rds_g h.1.1 (1 + v)
      rw [if_neg (show ¬ nI W ≤ (0 : Int32) from nle (b := 0) (by omega) (by omega) (by omega)), hlow, bd1, show (1 : Int32) + nI v = nI (1 + v) from nI_add 1 v, rounds1 (by omega) (by omega) (by omega), bd1]
      simp only []
      rw [qc5, if_neg (fun z => z rfl)]
      exact v891 hbk (h.kp (Kp.ne h.1 h.2.1 g.1 (h.2.1.1.rds h.1.1 (1 + v)) g.2))
  · rw [if_pos (show ¬ nI so = (12 : Int32) from eqS (b := 12) (by omega) (by omega) q)]
    exact v891 hbk h
theorem walkN {A : AbS} {w k : Nat} (hw : w < A.1 2) (h8 : A.1 2 ≤ 8) (h1 : 1 ≤ k) (h100 : k ≤ 100) : aWalk A (nI w) (nI k) = (nI (stps A.1 w k (wI w 3)), neA A (stps A.1 w k)) := by
  unfold aWalk
  rw [if_pos (okWN hw (by omega)), if_pos ((rgX_N (by omega) (by omega) (by omega)).mpr ⟨h1, h100⟩), tnN (by omega), tnN (by omega)]
theorem v761 (hbk : ∀ T' A', LInv R Cc T' A' → bk (nI T') (nI (e + 1)) A' = some 1) (h : LInv R Cc T A) (x6 x7 : Int32) {so : Nat} (hso : so < 13) (hW : W = A.1 2) (hm : m < W ∨ W = 0) : hL_law_J761 bk ct cl A (nI R) (nI Cc) (nI T) (nI e) x6 x7 (nI so) (nI W) (nI m) 1 = some 1 := by
  have h8 := h.1.1.2.1
  unfold hL_law_J761 hL_law_J846
  by_cases q9 : so = 9
  · obtain ⟨A', a1, a2⟩ := plans_sp h.1 h.2.1 x6 x7
    rw [if_neg (show ¬ ¬ nI so = (9 : Int32) from fun z => z (by rw [q9]; rfl)), a1, bd1]
    exact v891 hbk (h.kp a2)
  rw [if_pos (show ¬ nI so = (9 : Int32) from eqS (b := 9) (by omega) (by omega) q9)]
  by_cases q10 : so = 10
  · obtain ⟨v, hv, hlow⟩ := low_all x7 (n := 8) (by omega) (by omega)
    have hlow : ∀ B : AbS, hL_low B x7 8 = some (nI v) := hlow
    obtain ⟨A', a1, a2⟩ := until_sp h.1 h.2.1 hv
    rw [if_neg (show ¬ ¬ nI so = (10 : Int32) from fun z => z (by rw [q10]; rfl)), hlow, bd1, a1, bd1]
    exact v891 hbk (h.kp a2)
  rw [if_pos (show ¬ nI so = (10 : Int32) from eqS (b := 10) (by omega) (by omega) q10)]
  by_cases q11 : so = 11
  · rw [if_neg (show ¬ ¬ nI so = (11 : Int32) from fun z => z (by rw [q11]; rfl))]
    by_cases w : W = 0
    · rw [if_pos (show nI W ≤ (0 : Int32) by rw [w]; decide)]
      exact v851 hbk h x7 hso hW
    · obtain ⟨v, hv, hlow⟩ := low_all x7 (n := 30) (by omega) (by omega)
      have hlow : ∀ B : AbS, hL_low B x7 30 = some (nI v) := hlow
      have hmw : m < A.1 2 := by omega
      have g := stps_g h.1.1 hmw (1 + v)
      have s2 : stps A.1 m (1 + v) 2 = A.1 2 := g.2 2 (by omega) (by omega)
      have q3 : qWalker (neA A (stps A.1 m (1 + v))) (nI m) 3 = nI (stps A.1 m (1 + v) (wI m 3)) := qW (A := neA A (stps A.1 m (1 + v))) (f := 3) (by show m < stps A.1 m (1 + v) 2; omega) (by show stps A.1 m (1 + v) 2 ≤ 8; omega) (by omega)
      rw [if_neg (show ¬ nI W ≤ (0 : Int32) from nle (b := 0) (by omega) (by omega) (by omega)), hlow, bd1, show (1 : Int32) + nI v = nI (1 + v) from nI_add 1 v, walkN hmw h8 (by omega) (by omega), bd1]
      simp only []
      rw [q3, if_neg (fun z => z rfl)]
      exact v891 hbk (h.kp (Kp.ne h.1 h.2.1 g.1 (h.2.1.1.stps h.1.1 hmw (1 + v)) g.2))
  · rw [if_pos (show ¬ nI so = (11 : Int32) from eqS (b := 11) (by omega) (by omega) q11)]
    exact v851 hbk h x7 hso hW
theorem kstep {A : AbS} (hG : GI A) (hP : PA A) {w : Nat} (hw : w < A.1 2) : Kp A (neA A (stepR A.1 w)) := Kp.ne hG hP (hG.1.step hw) (hP.1.step hG.1 hw) (fun j hj h4 => step_lo hG.1 hw hj h4)
theorem v710 (hbk : ∀ T' A', LInv R Cc T' A' → bk (nI T') (nI (e + 1)) A' = some 1) (h : LInv R Cc T A) (x6 x7 : Int32) {so : Nat} (hso : so < 13) (hW : W = A.1 2) (hm : m < W ∨ W = 0) : hL_law_J710 bk ct cl A (nI R) (nI Cc) (nI T) (nI e) x6 x7 (nI so) (nI W) (nI m) 1 = some 1 := by
  have h8 := h.1.1.2.1
  unfold hL_law_J710
  by_cases q : 9 ≤ so
  · rw [if_pos (show (9 : Int32) ≤ nI so from yle (a := 9) (by omega) (by omega) q)]
    exact v761 hbk h x6 x7 hso hW hm
  rw [if_neg (show ¬ (9 : Int32) ≤ nI so from nle (a := 9) (by omega) (by omega) (by omega))]
  by_cases w : W = 0
  · rw [if_pos (show nI W ≤ (0 : Int32) by rw [w]; decide)]
    exact v761 hbk h x6 x7 hso hW hm
  rw [if_neg (show ¬ nI W ≤ (0 : Int32) from nle (b := 0) (by omega) (by omega) (by omega))]
  have hmw : m < A.1 2 := by omega
  have k1 := kstep h.1 h.2.1 hmw
  have s1 := steps_sp h.1 hmw
  generalize neA A (stepR A.1 m) = B at *
  have hb : m < B.1 2 := by rw [k1.2.2 2 (by omega) (by omega)]; exact hmw
  have k2 := kstep k1.1 k1.2.1 hb
  have s2 := steps_sp k1.1 hb
  generalize neA B (stepR B.1 m) = D at *
  have hd : m < D.1 2 := by rw [k2.2.2 2 (by omega) (by omega)]; exact hb
  have k3 := kstep k2.1 k2.2.1 hd
  have s3 := steps_sp k2.1 hd
  generalize neA D (stepR D.1 m) = E at *
  have st : ∀ (ct : Int32 → AbS → Option Int32) (k i : Nat) (F G : AbS), i < 3 → hL_steps F (nI m) = some (1, G) → hL_law_L725 (k + 1) ct (nI R) (nI Cc) (nI T) (nI e) (nI m) cl 1 (nI i) F = hL_law_L725 k ct (nI R) (nI Cc) (nI T) (nI e) (nI m) cl 1 (nI (i + 1)) G := by
    intro ct k i F G hi hs
    have e0 : hL_law_L725 (k + 1) ct (nI R) (nI Cc) (nI T) (nI e) (nI m) cl 1 (nI i) F = (if (3 : Int32) ≤ nI i then ct 1 F else (if (1 : Int32) = 0 then hL_law_L725 k ct (nI R) (nI Cc) (nI T) (nI e) (nI m) cl 0 (nI i + 1) F else (hL_steps F (nI m)).bind fun v44 => (if v44.1 = 0 then hL_law_L725 k ct (nI R) (nI Cc) (nI T) (nI e) (nI m) cl 0 (nI i + 1) v44.2 else hL_law_L725 k ct (nI R) (nI Cc) (nI T) (nI e) (nI m) cl 1 (nI i + 1) v44.2))) := rfl
    rw [e0, if_neg (show ¬ (3 : Int32) ≤ nI i from nle (a := 3) (by omega) (by omega) (by omega)), if_neg (by decide), hs, bd1, if_neg (show ¬ ((1 : Int32), G).1 = 0 from (by decide : ¬ (1 : Int32) = 0)), nI_1]
  have l3 : ∀ (ct : Int32 → AbS → Option Int32), hL_law_L725 2000 ct (nI R) (nI Cc) (nI T) (nI e) (nI m) cl 1 0 A = ct 1 E := by
    intro ct
    have a1 : hL_law_L725 2000 ct (nI R) (nI Cc) (nI T) (nI e) (nI m) cl 1 0 A = _ := st ct 1999 0 A B (by omega) s1
    rw [a1, show (1999 : Nat) = 1998 + 1 from rfl, st ct 1998 1 B D (by omega) s2, show (1998 : Nat) = 1997 + 1 from rfl, st ct 1997 2 D E (by omega) s3]
    show (if (3 : Int32) ≤ nI 3 then ct 1 E else _) = _
    rw [if_pos (by decide)]
  rw [l3]
  exact v891 hbk (h.kp ((k1.tr k2).tr k3))
theorem v621 (hbk : ∀ T' A', LInv R Cc T' A' → bk (nI T') (nI (e + 1)) A' = some 1) (h : LInv R Cc T A) (x6 x7 : Int32) {so : Nat} (hso : so < 13) (hW : W = A.1 2) (hm : m < W ∨ W = 0) : hL_law_J621 bk ct cl A (nI R) (nI Cc) (nI T) (nI e) x6 x7 (nI so) (nI W) (nI m) 1 = some 1 := by
  have h8 := h.1.1.2.1
  unfold hL_law_J621 hL_law_J697 hL_law_J705
  by_cases q : so = 5
  · rw [if_neg (show ¬ ¬ nI so = (5 : Int32) from fun z => z (by rw [q]; rfl))]
    by_cases w : W = 0
    · rw [if_pos (show nI W ≤ (0 : Int32) by rw [w]; decide)]
      exact v710 hbk h x6 x7 hso hW hm
    have hmw : m < A.1 2 := by omega
    have hc := cw256 h.1.1 hmw
    have h99 := h.1.1.1.2.2.1 _ hc
    obtain ⟨w0, w1, -, w4, w5, -⟩ := h.1.1.2.2.2.2.2.1 m hmw
    have q0 : qWalker A (nI m) 0 = nI (A.1 (wI m 0)) := qW (f := 0) hmw h8 (by omega)
    have q1 : qWalker A (nI m) 1 = nI (A.1 (wI m 1)) := qW (f := 1) hmw h8 (by omega)
    have q3 : qWalker A (nI m) 3 = nI (A.1 (wI m 3)) := qW (f := 3) hmw h8 (by omega)
    have qx : qChips A (nI (A.1 (wI m 0))) (nI (A.1 (wI m 1))) = nI (gR A.1 (cw A.1 m)) := qC w0 w1 h.1
    have ea : aEmpty A (nI m) = (if 99 < gR A.1 (cw A.1 m) + A.1 (wI m 3) then (-4, A) else if A.1 (wI m 3) = 0 then (-5, A) else (nI (gR A.1 (cw A.1 m) + A.1 (wI m 3)), neA A (drR A.1 m (A.1 (wI m 3))))) := by
      unfold aEmpty
      rw [if_pos (okWN hmw (by omega)), tnN (by omega)]
    rw [if_neg (show ¬ nI W ≤ (0 : Int32) from nle (b := 0) (by omega) (by omega) (by omega)), bd1, q0, q1, q3, qx, nI_add, ea]
    by_cases z1 : gR A.1 (cw A.1 m) + A.1 (wI m 3) ≤ 99
    · rw [if_pos (show nI (A.1 (wI m 3) + gR A.1 (cw A.1 m)) ≤ (99 : Int32) from yle (b := 99) (by omega) (by omega) (by omega)), if_neg (show ¬ 99 < gR A.1 (cw A.1 m) + A.1 (wI m 3) by omega)]
      by_cases z2 : A.1 (wI m 3) = 0
      · rw [if_pos z2, if_neg (show ¬ ¬ nI (A.1 (wI m 3)) = (0 : Int32) from fun y => y (by rw [z2]; rfl)), if_neg (fun y => y rfl)]
        exact v891 hbk h
      · rw [if_neg z2, if_pos (show ¬ nI (A.1 (wI m 3)) = (0 : Int32) from eqS (b := 0) (by omega) (by omega) z2), if_neg (fun y => y (by rw [Nat.add_comm]))]
        exact v891 hbk (h.kp (Kp.ne h.1 h.2.1 (h.1.1.dr hmw z1 (Nat.le_refl _)) (h.2.1.1.dr hc (Nat.le_refl _)) (fun j hj _ => dr_lo (by omega))))
    · rw [if_neg (show ¬ nI (A.1 (wI m 3) + gR A.1 (cw A.1 m)) ≤ (99 : Int32) from nle (b := 99) (by omega) (by omega) (by omega)), if_pos (show 99 < gR A.1 (cw A.1 m) + A.1 (wI m 3) by omega), if_neg (fun y => y rfl)]
      exact v891 hbk h
  · rw [if_pos (show ¬ nI so = (5 : Int32) from eqS (b := 5) (by omega) (by omega) q)]
    exact v710 hbk h x6 x7 hso hW hm
theorem v287 (hbk : ∀ T' A', LInv R Cc T' A' → bk (nI T') (nI (e + 1)) A' = some 1) (h : LInv R Cc T A) {r c v : Nat} (hr : r < R) (hc : c < Cc) (hv : v ≤ 99) : hL_law_J287 bk ct cl A (nI R) (nI Cc) (nI T) (nI e) (nI r) (nI c) (qChips A (nI r) (nI c)) (nI v) = some 1 := by
  obtain ⟨h1, h2, h3, h4, h5⟩ := id h
  have b1 := h1.1.1.1
  have b2 := h1.1.1.2.1
  have hX : 16 * r + c < 256 := by omega
  have hGn : Good (stR A.1 (9 + (16 * r + c)) v) := h1.1.ch hX (by omega) (by omega) hv
  have k : Kp A (neA A (stR A.1 (9 + (16 * r + c)) v)) := Kp.ne h1 h2 hGn (h2.1.lo (by omega) (by omega)) (fun j hj _ => stR_n (by omega))
  have ep : aPut A (nI r) (nI c) (nI v) = (nI (gR A.1 (16 * r + c)), neA A (stR A.1 (9 + (16 * r + c)) v)) := by
    unfold aPut
    rw [if_pos ((okC_nn (by omega) (by omega)).mpr ⟨by omega, by omega⟩), if_pos ((rgX_N (by omega) (by omega) (by omega)).mpr ⟨by omega, hv⟩), ceN (by omega) (by omega), tnN (by omega)]
  have q2 : qChips (neA A (stR A.1 (9 + (16 * r + c)) v)) (nI r) (nI c) = nI v := by
    rw [qC (by show r < stR A.1 _ v 0; rw [stR_n (by omega)]; omega) (by show c < stR A.1 _ v 1; rw [stR_n (by omega)]; omega) k.1]
    show nI (gR (stR A.1 (9 + (16 * r + c)) v) (16 * r + c)) = nI v
    rw [gR_st]
    exact congrArg nI (if_pos rfl)
  unfold hL_law_J287 hL_law_J322
  rw [qC (by omega) (by omega) h1, ep, bd1, if_neg (fun y => y rfl), q2, if_neg (fun y => y rfl)]
  exact v891 hbk (h.kp k)
theorem v144 (hbk : ∀ T' A', LInv R Cc T' A' → bk (nI T') (nI (e + 1)) A' = some 1) (h : LInv R Cc T A) (x6 x7 : Int32) {so : Nat} (hso : so < 13) (hW : W = A.1 2) (hm : m < W ∨ W = 0) : hL_law_J144 bk ct cl A (nI R) (nI Cc) (nI T) (nI e) x6 x7 (nI so) (nI W) (nI m) = some 1 := by
  obtain ⟨h1, h2, h3, h4, h5⟩ := id h
  have h8 := h1.1.2.1
  have b1 := h1.1.1.1
  have b2 := h1.1.1.2.1
  have h30 : T ≤ 30 := by rcases h5 with z | z <;> omega
  unfold hL_law_J144
  by_cases q0 : so = 0
  · -- a walker more
    rw [if_neg (show ¬ ¬ nI so = (0 : Int32) from fun z => z (by rw [q0]; rfl))]
    obtain ⟨r, hr, lr⟩ := low_all x6 (n := R) (by omega) (by omega)
    obtain ⟨c, hc, lc⟩ := low_all x7 (n := Cc) (by omega) (by omega)
    obtain ⟨d, hd, ld⟩ := low_all (x7 >>> (3 &&& 31)) (n := 4) (by omega) (by omega)
    have ld : ∀ B : AbS, hL_low B (x7 >>> (3 &&& 31)) 4 = some (nI d) := ld
    obtain ⟨s, hs, ls⟩ := low_all (x7 >>> (5 &&& 31)) (n := 3) (by omega) (by omega)
    have ls : ∀ B : AbS, hL_low B (x7 >>> (5 &&& 31)) 3 = some (nI s) := ls
    obtain ⟨p, hp, lp⟩ := low_all (x7 >>> (8 &&& 31)) (n := 9) (by omega) (by omega)
    have lp : ∀ B : AbS, hL_low B (x7 >>> (8 &&& 31)) 9 = some (nI p) := lp
    have ea : aAddWalker A (nI r) (nI c) (nI d) (nI s) (nI (1 + p)) = if A.1 2 < 8 then (nI (A.1 2), neA A (awR A.1 r c d s (1 + p))) else (-3, A) := by
      unfold aAddWalker
      rw [if_pos ((okC_nn (by omega) (by omega)).mpr ⟨by omega, by omega⟩), if_pos ⟨(rgX_N (by omega) (by omega) (by omega)).mpr ⟨by omega, by omega⟩, (rgX_N (by omega) (by omega) (by omega)).mpr ⟨by omega, by omega⟩, (rgX_N (by omega) (by omega) (by omega)).mpr ⟨by omega, by omega⟩⟩, tnN (by omega), tnN (by omega), tnN (by omega), tnN (by omega), tnN (by omega)]
    rw [lr, bd1, lc, bd1, ld, bd1, ls, bd1, lp, bd1, show (1 : Int32) + nI p = nI (1 + p) from nI_add 1 p, ea, bd1]
    unfold hL_law_J212 hL_law_J220
    by_cases w : A.1 2 < 8
    · rw [if_pos w, if_pos (show ¬ nI W = (8 : Int32) from eqS (b := 8) (by omega) (by omega) (by omega)), hW, if_neg (fun y => y rfl)]
      have k : Kp A (neA A (awR A.1 r c d s (1 + p))) ∨ True := Or.inr trivial
      have hGn := h1.1.aw (r := r) (c := c) (d := d) (so := s) (cap := 1 + p) w (by omega) (by omega) (by omega) (by omega) (by omega) (by omega)
      have o : ∀ j, j < 6 → j ≠ 2 → awR A.1 r c d s (1 + p) j = A.1 j := fun j hj h2 => aw_o w h2 (by omega)
      refine v891 hbk ⟨h1.ne hGn, h2.ne (h2.1.aw w), (o 0 (by omega) (by omega)).trans h3, (o 1 (by omega) (by omega)).trans h4, ?_⟩
      show TI (awR A.1 r c d s (1 + p)) T
      unfold TI
      rw [o 5 (by omega) (by omega), o 3 (by omega) (by omega)]
      exact h5
    · rw [if_neg w, if_neg (show ¬ ¬ nI W = (8 : Int32) from fun z => z (by rw [show W = 8 by omega]; rfl)), if_neg (fun y => y rfl)]
      exact v891 hbk h
  rw [if_pos (show ¬ nI so = (0 : Int32) from eqS (b := 0) (by omega) (by omega) q0)]
  by_cases q1 : so = 1
  · -- chips put
    rw [if_neg (show ¬ ¬ nI so = (1 : Int32) from fun z => z (by rw [q1]; rfl))]
    obtain ⟨r, hr, lr⟩ := low_all x6 (n := R) (by omega) (by omega)
    obtain ⟨c, hc, lc⟩ := low_all x7 (n := Cc) (by omega) (by omega)
    obtain ⟨u, hu, lu⟩ := low_all (x7 >>> (7 &&& 31)) (n := 100) (by omega) (by omega)
    have lu : ∀ B : AbS, hL_low B (x7 >>> (7 &&& 31)) 100 = some (nI u) := lu
    obtain ⟨v, hv, lv⟩ := low_all (x7 >>> (7 &&& 31)) (n := 4) (by omega) (by omega)
    have lv : ∀ B : AbS, hL_low B (x7 >>> (7 &&& 31)) 4 = some (nI v) := lv
    rw [lr, bd1, lc, bd1, lu, lv, bd1, bd1]
    split
    · exact v287 hbk h hr hc (by omega)
    · exact v287 hbk h hr hc (by omega)
  rw [if_pos (show ¬ nI so = (1 : Int32) from eqS (b := 1) (by omega) (by omega) q1)]
  by_cases q2 : so = 2
  · -- chips strewn
    rw [if_neg (show ¬ ¬ nI so = (2 : Int32) from fun z => z (by rw [q2]; rfl))]
    obtain ⟨a, ha, la⟩ := low_all x6 (n := 10) (by omega) (by omega)
    have la : ∀ B : AbS, hL_low B x6 10 = some (nI a) := la
    obtain ⟨b, hb, lb⟩ := low_all x7 (n := 10) (by omega) (by omega)
    have lb : ∀ B : AbS, hL_low B x7 10 = some (nI b) := lb
    obtain ⟨u, hu, lu⟩ := low_all (x7 >>> (5 &&& 31)) (n := 12) (by omega) (by omega)
    have lu : ∀ B : AbS, hL_low B (x7 >>> (5 &&& 31)) 12 = some (nI u) := lu
    have ea : aStrew A (nI a) (nI b) (nI (1 + u)) = if caR A.1 a b (1 + u) (A.1 0) = 0 then (-5, A) else (nI (caR A.1 a b (1 + u) (A.1 0)), neA A (alR A.1 a b (1 + u) (A.1 0)).1) := by
      unfold aStrew
      rw [if_pos ⟨(rgX_N (by omega) (by omega) (by omega)).mpr ⟨by omega, by omega⟩, (rgX_N (by omega) (by omega) (by omega)).mpr ⟨by omega, by omega⟩, (rgX_N (by omega) (by omega) (by omega)).mpr ⟨by omega, by omega⟩⟩, tnN (by omega), tnN (by omega), tnN (by omega)]
    obtain ⟨g1, g2, g3, g4, g5, g6⟩ := al_g (a := a) (b := b) (m := 1 + u) h1.1 (A.1 0) (Nat.le_refl _)
    have hsum := sm_al (ρ := A.1) (a := a) (b := b) (m := 1 + u) b2.2 (A.1 0) b1.2
    rw [g5] at hsum
    rw [la, bd1, lb, bd1, lu, bd1, show (1 : Int32) + nI u = nI (1 + u) from nI_add 1 u, ea, bd1]
    unfold hL_law_J396 hL_law_J400 hL_law_J401
    by_cases z : caR A.1 a b (1 + u) (A.1 0) = 0
    · rw [if_pos z, if_pos rfl]
      exact v891 hbk h
    · rw [if_neg z]
      simp only []
      rw [if_neg (n5 (by omega)), if_neg (show ¬ nI (caR A.1 a b (1 + u) (A.1 0)) ≤ (0 : Int32) from nle (b := 0) (by omega) (by omega) (by omega)), qc3, qc3]
      have hq : nI (sm (gR (neA A (alR A.1 a b (1 + u) (A.1 0)).1).1) 256) = nI (sm (gR A.1) 256) + nI (caR A.1 a b (1 + u) (A.1 0)) := by
        rw [nI_add, ← hsum]
        rfl
      rw [if_neg (fun y => y hq)]
      exact v891 hbk (h.kp (Kp.ne h1 h2 g1 (h2.1.al h1.1) (fun j hj _ => g2 j (by omega))))
  rw [if_pos (show ¬ nI so = (2 : Int32) from eqS (b := 2) (by omega) (by omega) q2)]
  by_cases q3 : so = 3
  · -- turns
    rw [if_neg (show ¬ ¬ nI so = (3 : Int32) from fun z => z (by rw [q3]; rfl))]
    by_cases z : ¬ (x6 &&& 7) = 0
    · rw [if_pos z]
      obtain ⟨v, hv, lv⟩ := low_all x7 (n := 10) (by omega) (by omega)
      have lv : ∀ B : AbS, hL_low B x7 10 = some (nI v) := lv
      have ea : aAddTurn A (nI v) = if A.1 3 < 30 then (nI (atS A.1 + 1), neA A (atR A.1 (atS A.1) v)) else (-3, A) := by
        unfold aAddTurn
        rw [if_pos ((rgX_N (by omega) (by omega) (by omega)).mpr ⟨by omega, by omega⟩), tnN (by omega)]
      rw [lv, bd1, bd1, ea]
      unfold hL_law_J500 hL_law_J530 hL_law_J534 hL_law_J535 hL_law_J553
      by_cases t30 : T = 30
      · have e3 : A.1 3 = 30 := by rcases h5 with y | y <;> omega
        rw [if_neg (show ¬ A.1 3 < 30 by omega), if_neg (show ¬ ¬ nI T = (30 : Int32) from fun y => y (by rw [t30]; rfl)), if_neg (fun y => y rfl), if_pos (show nI T = (30 : Int32) by rw [t30]; rfl), if_neg (show ¬ ¬ nI T = (30 : Int32) from fun y => y (by rw [t30]; rfl)), show (30 : Int32) = nI 30 from rfl, ← t30]
        exact v891 hbk h
      · have e3 : A.1 3 < 30 := by rcases h5 with y | y <;> omega
        have es : atS A.1 = T := by
          unfold atS
          rcases h5 with y | y
          · rw [if_neg (by omega)]; omega
          · rw [if_pos y.2.2.1]; exact y.2.2.2
        obtain ⟨a3, a4, a5, a6, a7⟩ := at_0 (ρ := A.1) (s := T) (x := v)
        have hGn : Good (atR A.1 T v) := h1.1.tu a7 (by rw [a3]; omega) (by rw [a3, a4]; omega) (by rw [a5]; omega) (fun t ht => by
          rw [a3] at ht
          rw [a6]
          split
          · omega
          · exact h1.1.2.2.2.2.2.2.1 t (by rcases h5 with y | y <;> omega))
        have hLn : LInv R Cc (T + 1) (neA A (atR A.1 T v)) := ⟨h1.ne hGn, h2.ne (h2.1.tu a7 h8), (a7 0 (by omega) (by omega) (by omega) (by omega)).trans h3, (a7 1 (by omega) (by omega) (by omega) (by omega)).trans h4, Or.inr ⟨by omega, by omega, a5, a3⟩⟩
        have nt : ¬ nI T = (30 : Int32) := eqS (b := 30) (by omega) (by omega) t30
        have qt : qTurn (neA A (atR A.1 T v)) (nI T) = nI v := by
          rw [qT (by show T < atR A.1 T v 3; omega) (by show atR A.1 T v 3 ≤ 30; omega)]
          show nI (atR A.1 T v (337 + T)) = _
          rw [a6, if_pos rfl]
        have q9 : qCount (neA A (atR A.1 T v)) 9 = 0 := qc9.trans (congrArg nI a4)
        rw [if_pos e3, es, if_pos nt, nI_1, if_neg (fun y => y rfl), if_neg nt, qt, if_neg (fun y => y rfl), q9, if_neg (fun y => y rfl), if_pos nt]
        exact v891 hbk hLn
    · rw [if_neg z, bd1]
      obtain ⟨c3, c4, c5, c6, c7⟩ := ct_at (ρ := A.1)
      have hGn := h1.1.ct
      have hLn : LInv R Cc 0 (neA A (ctR A.1)) := ⟨h1.ne hGn, h2.ne (h2.1.tu c7 h8), (c7 0 (by omega) (by omega) (by omega) (by omega)).trans h3, (c7 1 (by omega) (by omega) (by omega) (by omega)).trans h4, Or.inl ⟨rfl, c5, c3⟩⟩
      have q10 : qCount (neA A (ctR A.1)) 10 = 1 := qc10.trans (congrArg nI c3)
      have qt : qTurn (neA A (ctR A.1)) 0 = 0 := by
        have := qT (A := neA A (ctR A.1)) (i := 0) (by show 0 < ctR A.1 3; omega) (by show ctR A.1 3 ≤ 30; omega)
        exact this.trans (congrArg nI c6)
      have ea : aClearTurns A = (nI (A.1 3), neA A (ctR A.1)) := rfl
      rw [ea]
      unfold hL_law_J435 hL_law_J461
      by_cases t0 : T = 0
      · have e3 : A.1 3 = 1 := by rcases h5 with y | y <;> omega
        rw [if_neg (show ¬ ¬ nI T = (0 : Int32) from fun y => y (by rw [t0]; rfl)), if_neg (fun y => y (by rw [e3]; rfl)), q10, if_neg (fun y => y rfl), qt, if_neg (fun y => y rfl)]
        exact v891 hbk hLn
      · have e3 : A.1 3 = T := by rcases h5 with y | y <;> omega
        rw [if_pos (show ¬ nI T = (0 : Int32) from eqS (b := 0) (by omega) (by omega) t0), if_neg (fun y => y (by rw [e3])), q10, if_neg (fun y => y rfl), qt, if_neg (fun y => y rfl)]
        exact v891 hbk hLn
  rw [if_pos (show ¬ nI so = (3 : Int32) from eqS (b := 3) (by omega) (by omega) q3)]
  by_cases q4 : so = 4
  · -- another sort
    rw [if_neg (show ¬ ¬ nI so = (4 : Int32) from fun z => z (by rw [q4]; rfl))]
    by_cases w : W = 0
    · rw [if_pos (show nI W ≤ (0 : Int32) by rw [w]; decide)]
      exact v621 hbk h x6 x7 hso hW hm
    have hmw : m < A.1 2 := by omega
    obtain ⟨v, hv, lv⟩ := low_all x6 (n := 3) (by omega) (by omega)
    have lv : ∀ B : AbS, hL_low B x6 3 = some (nI v) := lv
    have ea : aSetSort A (nI m) (nI v) = (nI (A.1 (wI m 5)), neA A (stR A.1 (wI m 5) v)) := by
      unfold aSetSort
      rw [if_pos (okWN hmw (by omega)), if_pos ((rgX_N (by omega) (by omega) (by omega)).mpr ⟨by omega, by omega⟩), tnN (by omega), tnN (by omega)]
    have k : Kp A (neA A (stR A.1 (wI m 5) v)) := Kp.ne h1 h2 (h1.1.so (by omega) (by omega)) (h2.1.fl (by omega) (by omega) (by omega) (by omega)) (fun j hj _ => stR_n (by unfold wI; omega))
    have q5 : qWalker A (nI m) 5 = nI (A.1 (wI m 5)) := qW (f := 5) hmw h8 (by omega)
    have q5' : qWalker (neA A (stR A.1 (wI m 5) v)) (nI m) 5 = nI v := by
      have s2 : stR A.1 (wI m 5) v 2 = A.1 2 := stR_n (by unfold wI; omega)
      have := qW (A := neA A (stR A.1 (wI m 5) v)) (w := m) (f := 5) (by show m < stR A.1 (wI m 5) v 2; omega) (by show stR A.1 (wI m 5) v 2 ≤ 8; omega) (by omega)
      exact this.trans (congrArg nI stR_s)
    rw [if_neg (show ¬ nI W ≤ (0 : Int32) from nle (b := 0) (by omega) (by omega) (by omega)), lv, bd1, ea, bd1]
    simp only []
    rw [q5, if_neg (fun y => y rfl), lv, bd1, q5', if_neg (fun y => y rfl)]
    exact v891 hbk (h.kp k)
  rw [if_pos (show ¬ nI so = (4 : Int32) from eqS (b := 4) (by omega) (by omega) q4)]
  exact v621 hbk h x6 x7 hso hW hm
theorem v113 (hbk : ∀ T' A', LInv R Cc T' A' → bk (nI T') (nI (e + 1)) A' = some 1) (h : LInv R Cc T A) (x6 x7 : Int32) {so : Nat} (hso : so < 13) : hL_law_J113 bk ct cl A (nI R) (nI Cc) (nI T) (nI e) x6 x7 (nI so) = some 1 := by
  have h8 := h.1.1.2.1
  unfold hL_law_J113
  rw [qc2]
  by_cases w : A.1 2 = 0
  · rw [if_neg (show ¬ ¬ nI (A.1 2) = (0 : Int32) from fun z => z (by rw [w]; rfl))]
    exact v144 (m := 0) hbk h _ x7 hso rfl (Or.inr w)
  · obtain ⟨v, hv, lv⟩ := low_all x7 (n := A.1 2) (by omega) (by omega)
    rw [if_pos (show ¬ nI (A.1 2) = (0 : Int32) from eqS (b := 0) (by omega) (by omega) w), lv, bd1]
    exact v144 (m := v) hbk h _ x7 hso rfl (Or.inl hv)
end EV
theorem loop64 (cl : Int32 → Int32) {R Cc : Nat} : ∀ (n e fu T : Nat) (A : AbS), e + n = 40 → n < fu → LInv R Cc T A → hL_law_L64 fu (fun A96 => (hL_errors A96).bind fun v97 => some v97.1) (nI R) (nI Cc) cl (nI T) (nI e) A = some 1 := by
  intro n
  induction n with
  | zero =>
    intro e fu T A he hf h
    obtain ⟨fu, rfl⟩ : ∃ m, fu = m + 1 := ⟨fu - 1, by omega⟩
    rw [hL_law_L64, if_pos (show (40 : Int32) ≤ nI e from yle (a := 40) (by omega) (by omega) (by omega)), errors_sp h.1, bd1]
  | succ n ih =>
    intro e fu T A he hf h
    obtain ⟨fu, rfl⟩ : ∃ m, fu = m + 1 := ⟨fu - 1, by omega⟩
    have i2 : decide ((0 : Int32) ≤ 2 + 2 * nI e) = true := by
      rw [show (2 : Int32) + 2 * nI e = nI (2 + 2 * e) by rw [show (2 : Int32) = nI 2 from rfl, pk_mul, nI_add]]
      exact decide_eq_true (nI_pos' (by omega))
    have i3 : decide ((0 : Int32) ≤ 3 + 2 * nI e) = true := by
      rw [show (3 : Int32) + 2 * nI e = nI (3 + 2 * e) by rw [show (2 : Int32) = nI 2 from rfl, show (3 : Int32) = nI 3 from rfl, pk_mul, nI_add]]
      exact decide_eq_true (nI_pos' (by omega))
    rw [hL_law_L64, if_neg (show ¬ (40 : Int32) ≤ nI e from nle (a := 40) (by omega) (by omega) (by omega)), ck_t i2, ck_t i3]
    have hbk : ∀ T' A', LInv R Cc T' A' → (hL_law_L64 fu (fun A96 => (hL_errors A96).bind fun v97 => some v97.1) (nI R) (nI Cc) cl) (nI T') (nI (e + 1)) A' = some 1 := fun T' A' h' => ih (e + 1) fu T' A' (by omega) (by omega) h'
    by_cases q : 3 ≤ e
    · obtain ⟨v, hv, lv⟩ := low_all (cl (2 + 2 * nI e)) (n := 13) (by omega) (by omega)
      have lv : ∀ B : AbS, hL_low B (cl (2 + 2 * nI e)) 13 = some (nI v) := lv
      rw [if_pos (show (3 : Int32) ≤ nI e from yle (a := 3) (by omega) (by omega) q), lv, bd1]
      exact v113 hbk h _ _ hv
    · rw [if_neg (show ¬ (3 : Int32) ≤ nI e from nle (a := 3) (by omega) (by omega) (by omega))]
      exact v113 hbk h _ _ (by omega)
theorem law_ok (cl : Int32 → Int32) : hL_law cl A0 = some 1 := by
  obtain ⟨u, hu, lu⟩ := low_all (cl 0) (n := 6) (by omega) (by omega)
  have lu : ∀ B : AbS, hL_low B (cl 0) 6 = some (nI u) := lu
  obtain ⟨v, hv, lv⟩ := low_all (cl 1) (n := 6) (by omega) (by omega)
  have lv : ∀ B : AbS, hL_low B (cl 1) 6 = some (nI v) := lv
  have er : aReset A0 (nI (2 + u)) (nI (2 + v)) = (nI (2 + u) * nI (2 + v), neA A0 (rsK rho0 (2 + u) (2 + v) 256)) := by
    unfold aReset
    rw [if_pos ⟨(rgX_N (by omega) (by omega) (by omega)).mpr ⟨by omega, by omega⟩, (rgX_N (by omega) (by omega) (by omega)).mpr ⟨by omega, by omega⟩⟩, tnN (by omega), tnN (by omega)]
    rfl
  obtain ⟨v0, v1, v2, -⟩ := rs_v (ρ := rho0) (r := 2 + u) (c := 2 + v)
  have hL : LInv (2 + u) (2 + v) 0 (neA A0 (rsK rho0 (2 + u) (2 + v) 256)) := ⟨gi0.ne (good0.rs (by omega) (by omega) (by omega) (by omega)), pa0.ne Pk.rs, v0, v1, Or.inl ⟨rfl, (rs_o (ρ := rho0) (r := 2 + u) (c := 2 + v) (j := 5) (by omega)).trans rfl, (rs_o (ρ := rho0) (r := 2 + u) (c := 2 + v) (j := 3) (by omega)).trans rfl⟩⟩
  have ew : aRounds (neA A0 (rsK rho0 (2 + u) (2 + v) 256)) 1 = (-5, neA A0 (rsK rho0 (2 + u) (2 + v) 256)) := (if_pos (by decide)).trans (if_pos v2)
  unfold hL_law
  rw [lu, bd1, lv, bd1, show (2 : Int32) + nI u = nI (2 + u) from nI_add 2 u, show (2 : Int32) + nI v = nI (2 + v) from nI_add 2 v, er, bd1, if_neg (fun y => y rfl), ew, bd1, if_pos rfl]
  exact loop64 cl 40 0 2000 0 _ (by omega) (by omega) hL
