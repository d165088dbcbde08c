/-! plans carried out -/
theorem CI.fp {I I' : II} {P : PP} {A : AbS} (h : CI I P A) (hG : GI A) (hf : FP I I') : CI I' P A := by
  obtain ⟨h1, ⟨h2, h3, h4⟩, h5, h6⟩ := h
  refine ⟨⟨h1.1.fm hG.1.2.1 (fun a _ _ => hf.1 a (by omega) (by omega) (by omega)), h1.2.fm (fun a _ _ => hf.1 a (by omega) (by omega) (by omega))⟩, ⟨h2, by rw [hf.1 21 (by omega) (by omega) (by omega)]; exact h3, fun i hi => ?_⟩, fun s hs => ⟨by rw [hf.1 _ (by omega) (by omega) (by omega)]; exact (h5 s hs).1, fun hk => ?_⟩, by rw [hf.2 1 (by omega) (by omega), hf.1 89 (by omega) (by omega) (by omega)]; exact h6⟩
  · have hi5 : i < 5 := Nat.lt_of_lt_of_le hi hG.2.1.1
    have := HB_n (h2.1 i hi5)
    exact (h4 i hi).fm (hG.2.1.2 i hi).2.1 (fun a _ _ => hf.1 a (by omega) (by omega) (by omega))
  · exact ((h5 s hs).2 hk).fm ((hG.2.2.1 s hs).2 hk).2.1 (fun a _ _ => hf.1 a (by omega) (by omega) (by omega))
theorem MI.fq {I I' : II} {A : AbS} (h : MI I A) (hf : FQ I I') : MI I' A := by
  obtain ⟨h1, h2, h3, h4⟩ := h
  refine ⟨fun k hk => by rw [hf.1 135 (by omega) (by omega) (by omega)]; exact h1 k hk, ?_, ?_, ?_⟩
  · rw [hf.2 3 (by omega), hf.1 137 (by omega) (by omega) (by omega)]; exact h2
  · rw [hf.1 139 (by omega) (by omega) (by omega), hf.1 138 (by omega) (by omega) (by omega)]; exact h3
  · rw [hf.2 13 (by omega), hf.1 146 (by omega) (by omega) (by omega)]; exact h4
theorem carry15 {ρ : Nat → Nat} {m : Nat} (hm : m ≤ 100) (hG : Good ρ) {J1 : II} (m1 : MR J1 ρ) : ∃ J2, fX9_carryOut_L15 2000 (fun I27 => some I27) (nI m) 0 J1 = some J2 ∧ MR J2 (rds ρ m) ∧ FM1 J1 J2 := by
  have lp : ∀ (n x : Nat) (K : II) (fu : Nat), x + n = m → n < fu → MR K (rds ρ x) → FM1 J1 K → ∃ J2, fX9_carryOut_L15 fu (fun I27 => some I27) (nI m) (nI x) K = some J2 ∧ MR J2 (rds ρ m) ∧ FM1 J1 J2 := by
    intro n
    induction n with
    | zero =>
      intro x K fu hx hf k1 k2
      obtain ⟨fu, rfl⟩ : ∃ m, fu = m + 1 := ⟨fu - 1, by omega⟩
      refine ⟨K, ?_, by rw [show m = x by omega]; exact k1, k2⟩
      show (if nI m ≤ nI x then some K else _) = _
      rw [ifp (yle (by omega) (by omega) (by omega))]
    | succ n ih =>
      intro x K fu hx hf k1 k2
      obtain ⟨fu, rfl⟩ : ∃ m, fu = m + 1 := ⟨fu - 1, by omega⟩
      have g := rds_g hG x
      obtain ⟨L, s1, s2, s3⟩ := m_round k1 g.1
      show ∃ J2, (if nI m ≤ nI x then some K else (fX9_oneRound K).bind fun v6 => fX9_carryOut_L15 fu (fun I27 => some I27) (nI m) (nI x + 1) v6) = some J2 ∧ _
      rw [ifn (nle (by omega) (by omega) (by omega)), s1, bd1, nI_1]
      exact ih (x + 1) L fu (by omega) (by omega) s2 (k2.tr s3)
  exact lp m 0 J1 2000 (by omega) (by omega) m1 FM1.rf
theorem goes_CM {ρ : Nat → Nat} {w d m : Nat} (hG : Good ρ) (hw : w < ρ 2) (hd : d < 4) (hm : m ≤ 50) {K1 L1 : II} (c1 : CR K1 ρ) (m1 : MR L1 ρ) : ∃ σ K' L', fX7_obey_L79 2000 (fun I9 => some I9) (7 + w) (nI m) (nI d) 0 K1 = some K' ∧ fX9_carryOut_L42 2000 (fun I24 => some I24) (nI w) (nI m) (nI d) 0 L1 = some L' ∧ CR K' σ ∧ MR L' σ ∧ Good σ ∧ σ 2 = ρ 2 ∧ FC K1 K' ∧ FM1 L1 L' := by
  have g2 := hG.2.1
  have hw8 : w < 8 := by omega
  have lp : ∀ (n x : Nat) (σ : Nat → Nat) (K L : II) (fu fv : Nat), x + n = m → n < fu → n < fv → Good σ → σ 2 = ρ 2 → CR K σ → MR L σ → FC K1 K → FM1 L1 L → ∃ σ K' L', fX7_obey_L79 fu (fun I9 => some I9) (7 + w) (nI m) (nI d) (nI x) K = some K' ∧ fX9_carryOut_L42 fv (fun I24 => some I24) (nI w) (nI m) (nI d) (nI x) L = some L' ∧ CR K' σ ∧ MR L' σ ∧ Good σ ∧ σ 2 = ρ 2 ∧ FC K1 K' ∧ FM1 L1 L' := by
    intro n
    induction n with
    | zero =>
      intro x σ K L fu fv hx hf hv hS s2 k1 l1 k2 l2
      obtain ⟨fu, rfl⟩ : ∃ m, fu = m + 1 := ⟨fu - 1, by omega⟩
      obtain ⟨fv, rfl⟩ : ∃ m, fv = m + 1 := ⟨fv - 1, by omega⟩
      refine ⟨σ, K, L, ?_, ?_, k1, l1, hS, s2, k2, l2⟩
      · show (if nI m ≤ nI x then some K else _) = _
        rw [ifp (yle (by omega) (by omega) (by omega))]
      · show (if nI m ≤ nI x then some L else _) = _
        rw [ifp (yle (by omega) (by omega) (by omega))]
    | succ n ih =>
      intro x σ K L fu fv hx hf hv hS s2 k1 l1 k2 l2
      obtain ⟨fu, rfl⟩ : ∃ m, fu = m + 1 := ⟨fu - 1, by omega⟩
      obtain ⟨fv, rfl⟩ : ∃ m, fv = m + 1 := ⟨fv - 1, by omega⟩
      have hws : w < σ 2 := by omega
      have hc := (hS.2.2.2.2.2.1 w hws).cell hS.1
      have wl := wall_C k1 hS hws hd
      have st := stp_fre l1 hS.1 hc.1 hc.2.2.2.1 hc.2.2.2.2 hd
      have e1 : fX7_obey_L79 (fu + 1) (fun I9 => some I9) (7 + w) (nI m) (nI d) (nI x) K = (fX7_hasWall K (7 + w) (nI d)).bind fun v6 => (if ¬ v6 = 0 then some K else (fX7_stepAhead K (7 + w) (nI d)).bind fun v8 => fX7_obey_L79 fu (fun I9 => some I9) (7 + w) (nI m) (nI d) (nI (x + 1)) v8) := by
        show (if nI m ≤ nI x then some K else (fX7_hasWall K (7 + w) (nI d)).bind fun v6 => (if ¬ v6 = 0 then some K else (fX7_stepAhead K (7 + w) (nI d)).bind fun v8 => fX7_obey_L79 fu (fun I9 => some I9) (7 + w) (nI m) (nI d) (nI x + 1) v8)) = _
        rw [ifn (nle (by omega) (by omega) (by omega)), nI_1]
      have e2 : fX9_carryOut_L42 (fv + 1) (fun I24 => some I24) (nI w) (nI m) (nI d) (nI x) L = (fX9_stepped L (nI (cw σ w)) (nI d)).bind fun v20 => (if v20 < 0 then some L else (fX9_goAhead (up2 L 135 (wI w 2) (nI d)) (nI w)).bind fun v23 => fX9_carryOut_L42 fv (fun I24 => some I24) (nI w) (nI m) (nI d) (nI (x + 1)) v23) := by
        show (if nI m ≤ nI x then some L else (fX9_cellOf L (nI w)).bind fun v19 => (fX9_stepped L v19 (nI d)).bind fun v20 => (if v20 < 0 then some L else (fX9_lay L (nI w) 2 (nI d)).bind fun v22 => (fX9_goAhead v22 (nI w)).bind fun v23 => fX9_carryOut_L42 fv (fun I24 => some I24) (nI w) (nI m) (nI d) (nI x + 1) v23)) = _
        rw [ifn (nle (by omega) (by omega) (by omega)), nI_1, m_cell l1 hw8, bd1, show fX9_lay L (nI w) 2 (nI d) = _ from m_lay hw8 2 (by omega) _, bd1]
      rw [e1, e2]
      by_cases q : Fre σ (cw σ w) d
      · have hGd := hS.di hw8 hd
        have hf' : Fre (stR σ (wI w 2) d) (cw (stR σ (wI w 2) d) w) (stR σ (wI w 2) d (wI w 2)) := by
          rw [cw_di, stR_s, fre_st (by unfold wI; omega) (by unfold wI; omega)]; exact q
        have hwd : w < stR σ (wI w 2) d 2 := by rw [stR_n (by unfold wI; omega)]; exact hws
        obtain ⟨K2, a1, a2, a3⟩ := ahead_C1 k1 hS hws hd q
        obtain ⟨L2, b1, b2, b3⟩ := m_go (l1.up (k := wI w 2) (v := d)) hGd hwd hf'
        rw [wl.1 q, st.1 q, bd1, bd1, if0, ifn (show ¬ nI (nbr (cw σ w) d) < (0 : Int32) from fun z => by have := (nI_ltI (b := 0) (by have := q.1; omega) (by omega)).mp z; omega), a1, b1, bd1, bd1]
        exact ih (x + 1) _ K2 L2 fu fv (by omega) (by omega) (by omega) (hGd.go hwd hf') (by rw [go_lo hGd hwd hf' (by omega), stR_n (by unfold wI; omega)]; exact s2) a2 b2 (k2.tr a3) (l2.tr (FM1.up.tr b3))
      · rw [wl.2.1 q, st.2 q, bd1, bd1, if1, ifp m5_neg]
        exact ⟨σ, K, L, rfl, rfl, k1, l1, hS, s2, k2, l2⟩
  exact lp m 0 ρ K1 L1 2000 2000 (by omega) (by omega) (by omega) hG rfl c1 m1 FC.rf FM1.rf
/-- one order of a walker's -/
theorem order_CM {ρ : Nat → Nat} {w m : Nat} {x : Int32} (hG : Good ρ) (hw : w < ρ 2) (hm : m ≤ 50) {K L : II} (c1 : CR K ρ) (m1 : MR L ρ) (hx : x = 110 ∨ x = 101 ∨ x = 115 ∨ x = 119 ∨ x = 103 ∨ x = 100) : ∃ σ K' L', fX7_obey K (7 + w) x (nI m) = some K' ∧ fX9_carryOut L (nI w) x (nI m) = some L' ∧ CR K' σ ∧ MR L' σ ∧ Good σ ∧ σ 2 = ρ 2 ∧ FC K K' ∧ FM1 L L' := by
  have g2 := hG.2.1
  have hw8 : w < 8 := by omega
  have hW := hG.2.2.2.2.2.1 w hw
  have hc := (hW.cell hG.1).1
  have hgc := hG.1.2.2.1 _ hc
  obtain ⟨-, -, -, w4, w5, w6⟩ := hW
  unfold fX7_obey fX9_carryOut
  rw [under_C c1 hG hw, bd1]
  have dirs : ∀ d, d < 4 → fX7_directionOf x = some (nI d) → fX9_directionOf x = some (nI d) → ¬ x = 103 → ¬ x = 100 → ¬ x = 114 → ∃ σ K' L', (if ¬ x = 103 then (if ¬ x = 100 then (fX7_directionOf x).bind fun v4 => fX7_obey_L79 2000 (fun I9 => some I9) (7 + w) (nI m) v4 0 K else (fX7_pickUp K (7 + w) (-(mn (nI m) (mn (K (7 + w) 3) (99 - nI (gR ρ (cw ρ w))))))).bind fun v10 => some v10) else (fX7_pickUp K (7 + w) (mn (nI m) (mn (nI (gR ρ (cw ρ w))) ((K (7 + w) 4) - (K (7 + w) 3))))).bind fun v11 => some v11) = some K' ∧ ((fX9_directionOf x).bind fun v1 => (if ¬ x = 114 then (if v1 < 0 then (if ¬ x = 103 then (fX9_of L (nI w) 3).bind fun v5 => (fX9_cellOf L (nI w)).bind fun v6 => ck (ix (9 + v6) 367) ((fX9_lesser v5 (99 - (L 135 (9 + v6).toNatClampNeg))).bind fun v8 => (fX9_lesser (nI m) v8).bind fun v9 => (fX9_drop L (nI w) v9).bind fun v10 => some v10) else (fX9_cellOf L (nI w)).bind fun v11 => ck (ix (9 + v11) 367) ((fX9_of L (nI w) 4).bind fun v13 => (fX9_of L (nI w) 3).bind fun v14 => (fX9_lesser (L 135 (9 + v11).toNatClampNeg) (v13 - v14)).bind fun v15 => (fX9_lesser (nI m) v15).bind fun v16 => (fX9_pick L (nI w) v16).bind fun v17 => some v17)) else fX9_carryOut_L42 2000 (fun I24 => some I24) (nI w) (nI m) v1 0 L) else fX9_carryOut_L15 2000 (fun I27 => some I27) (nI m) 0 L)) = some L' ∧ CR K' σ ∧ MR L' σ ∧ Good σ ∧ σ 2 = ρ 2 ∧ FC K K' ∧ FM1 L L' := by
    intro d hd e1 e2 n1 n2 n3
    rw [ifp n1, ifp n2, e1, e2, bd1, bd1, ifp n3, ifn (show ¬ nI d < (0 : Int32) from fun z => by have := (nI_ltI (b := 0) (by omega) (by omega)).mp z; omega)]
    exact goes_CM hG hw hd hm c1 m1
  have e4 := m_of m1 hw8 4 (by omega)
  have e3 := m_of m1 hw8 3 (by omega)
  have ec := m_cell m1 hw8
  rcases hx with e | e | e | e | e | e
  · exact dirs 0 (by omega) (by rw [e]; rfl) (by rw [e]; rfl) (by rw [e]; decide) (by rw [e]; decide) (by rw [e]; decide)
  · exact dirs 1 (by omega) (by rw [e]; rfl) (by rw [e]; rfl) (by rw [e]; decide) (by rw [e]; decide) (by rw [e]; decide)
  · exact dirs 2 (by omega) (by rw [e]; rfl) (by rw [e]; rfl) (by rw [e]; decide) (by rw [e]; decide) (by rw [e]; decide)
  · exact dirs 3 (by omega) (by rw [e]; rfl) (by rw [e]; rfl) (by rw [e]; decide) (by rw [e]; decide) (by rw [e]; decide)
  · have n1 := Nat.min_le_left m (min (gR ρ (cw ρ w)) (ρ (wI w 4) - ρ (wI w 3)))
    have n2 := Nat.min_le_right m (min (gR ρ (cw ρ w)) (ρ (wI w 4) - ρ (wI w 3)))
    have n3 := Nat.min_le_left (gR ρ (cw ρ w)) (ρ (wI w 4) - ρ (wI w 3))
    have n4 := Nat.min_le_right (gR ρ (cw ρ w)) (ρ (wI w 4) - ρ (wI w 3))
    obtain ⟨L', p1, p2, p3⟩ := m_pick m1 (n := min m (min (gR ρ (cw ρ w)) (ρ (wI w 4) - ρ (wI w 3)))) hw8 hc (by omega)
    rw [e, ifn (fun z => z rfl), show fX9_directionOf 103 = some (-5) from rfl, bd1, ifp (by decide), ifp m5_neg, ifn (fun z => z rfl), ec, bd1, e9, ckN (show 9 + cw ρ w < 367 by omega) (by omega), tnN (show 9 + cw ρ w < 2 ^ 31 by omega), m1.at9 hc, show fX9_of L (nI w) 4 = _ from e4, bd1, show fX9_of L (nI w) 3 = _ from e3, bd1, pk_sub w4, lesser_sp (by omega) (by omega), bd1, lesser_sp (by omega) (by omega), bd1, p1, bd1, c1.fl hw (by omega), c1.fl hw (by omega), pk_sub w4, mnN (by omega) (by omega), mnN (by omega) (by omega)]
    by_cases q : 0 < min m (min (gR ρ (cw ρ w)) (ρ (wI w 4) - ρ (wI w 3)))
    · obtain ⟨K', a1, a2, a3⟩ := pick_C c1 hG hw q (by omega)
      rw [a1, bd1]
      exact ⟨_, K', L', rfl, rfl, a2, p2, hG.pk hw (by omega) (by omega), pk_lo (by omega), a3, p3⟩
    · have q0 : min m (min (gR ρ (cw ρ w)) (ρ (wI w 4) - ρ (wI w 3))) = 0 := by omega
      obtain ⟨K', a1, a2, a3⟩ := drop_C c1 hG hw (n := 0) (by omega) (by omega)
      rw [q0, pk0] at p2
      rw [dr0] at a2
      rw [q0, show nI 0 = -(nI 0) from rfl, a1, bd1]
      exact ⟨_, K', L', rfl, rfl, a2, p2, hG, rfl, a3, p3⟩
  · have n1 := Nat.min_le_left m (min (ρ (wI w 3)) (99 - gR ρ (cw ρ w)))
    have n2 := Nat.min_le_right m (min (ρ (wI w 3)) (99 - gR ρ (cw ρ w)))
    have n3 := Nat.min_le_left (ρ (wI w 3)) (99 - gR ρ (cw ρ w))
    have n4 := Nat.min_le_right (ρ (wI w 3)) (99 - gR ρ (cw ρ w))
    obtain ⟨L', p1, p2, p3⟩ := m_drop m1 (n := min m (min (ρ (wI w 3)) (99 - gR ρ (cw ρ w)))) hw8 hc (by omega)
    obtain ⟨K', a1, a2, a3⟩ := drop_C c1 hG hw (n := min m (min (ρ (wI w 3)) (99 - gR ρ (cw ρ w)))) (by omega) (by omega)
    have s99 : (99 : Int32) - nI (gR ρ (cw ρ w)) = nI (99 - gR ρ (cw ρ w)) := pk_sub (a := 99) hgc
    rw [e, ifp (by decide), ifn (fun z => z rfl), show fX9_directionOf 100 = some (-5) from rfl, bd1, ifp (by decide), ifp m5_neg, ifp (by decide), show fX9_of L (nI w) 3 = _ from e3, bd1, ec, bd1, e9, ckN (show 9 + cw ρ w < 367 by omega) (by omega), tnN (show 9 + cw ρ w < 2 ^ 31 by omega), m1.at9 hc, s99, lesser_sp (by omega) (by omega), bd1, lesser_sp (by omega) (by omega), bd1, p1, bd1, c1.fl hw (by omega), mnN (by omega) (by omega), mnN (by omega) (by omega), a1, bd1]
    exact ⟨_, K', L', rfl, rfl, a2, p2, hG.dr hw (by omega) (by omega), dr_lo (by omega), a3, p3⟩
