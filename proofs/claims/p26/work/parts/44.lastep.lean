/-! one step, as the law asks for it -/
theorem stp_is {ρ : Nat → Nat} {w : Nat} (hG : Good ρ) (hw : w < ρ 2) : ∃ d e τ, d < 4 ∧ d = dirR ρ (cw ρ w) (d1R ρ w) ∧ e = nbr (cw ρ w) d ∧ Fre ρ (cw ρ w) d ∧ Good τ ∧ w < τ 2 ∧ cw τ w = e ∧ (∀ c, c < 256 → gR τ c = gR ρ c) ∧ (τ (wI w 0) = e / 16 ∧ τ (wI w 1) = e % 16 ∧ τ (wI w 2) = d ∧ τ (wI w 3) = ρ (wI w 3) ∧ τ (wI w 4) = ρ (wI w 4) ∧ τ (wI w 5) = ρ (wI w 5) ∧ τ (wI w 6) = ρ (wI w 6) + 1) ∧ (τ 4 = (ρ 4 + 1) % ρ 3 ∧ τ 6 = ρ 6 ∧ τ 7 = ρ 7) ∧ stepR ρ w = mgR (rotR ρ w) (actR τ w) ∧ ∀ c, c < 256 → gR (rotR ρ w) c = gR ρ c := by
  have hw8 : w < 8 := by have := hG.2.1; omega
  obtain ⟨hc, -, -, hr, hcc⟩ := (hG.2.2.2.2.2.1 w hw).cell hG.1
  have hd1 : d1R ρ w < 4 := Nat.mod_lt _ (by omega)
  obtain ⟨hf, hd⟩ := dirR_sp hG.1 hc hr hcc hd1
  obtain ⟨r1, r2⟩ := hG.rot hw
  have ec : cw (rotR ρ w) w = cw ρ w := by
    unfold rotR
    rw [cw_di, cw_4]
  have ed : rotR ρ w (wI w 2) = dirR ρ (cw ρ w) (d1R ρ w) := stR_s
  have er : ∀ f, f < 9 → f ≠ 2 → rotR ρ w (wI w f) = ρ (wI w f) := fun f h1 h2 => by
    unfold rotR
    rw [stR_n (by unfold wI; omega), stR_n (by unfold wI; omega)]
  have e4 : rotR ρ w 4 = (ρ 4 + 1) % ρ 3 := by
    unfold rotR
    rw [stR_n (by unfold wI; omega), stR_s]
  have eg : ∀ c, c < 256 → gR (rotR ρ w) c = gR ρ c := fun c hc => rot_lo (by omega) (by omega)
  have hw' : w < rotR ρ w 2 := by rw [rot_2]; exact hw
  rw [ec, ed] at r2
  refine ⟨dirR ρ (cw ρ w) (d1R ρ w), nbr (cw ρ w) (dirR ρ (cw ρ w) (d1R ρ w)), moR (rotR ρ w) w (nbr (cw ρ w) (dirR ρ (cw ρ w) (d1R ρ w))), hd, rfl, rfl, hf, r1.mo hw' r2.2.1 r2.2.2, by rw [mo_lo (by omega)]; exact hw', cw_mo, fun c hc => by rw [gR_mo hc, eg c hc], ⟨?_, ?_, ?_, ?_, ?_, ?_, ?_⟩, ⟨by rw [mo_lo (by omega)]; exact e4, by rw [mo_lo (by omega), rot_lo (by omega) (by omega)], by rw [mo_lo (by omega), rot_lo (by omega) (by omega)]⟩, ?_, eg⟩
  · rw [mo_wf (by omega), if_neg (by omega), if_neg (by omega), if_pos (by omega)]
  · rw [mo_wf (by omega), if_neg (by omega), if_pos (by omega)]
  · rw [mo_wf (by omega), if_neg (by omega), if_neg (by omega), if_neg (by omega), ed]
  · rw [mo_wf (by omega), if_neg (by omega), if_neg (by omega), if_neg (by omega), er 3 (by omega) (by omega)]
  · rw [mo_wf (by omega), if_neg (by omega), if_neg (by omega), if_neg (by omega), er 4 (by omega) (by omega)]
  · rw [mo_wf (by omega), if_neg (by omega), if_neg (by omega), if_neg (by omega), er 5 (by omega) (by omega)]
  · rw [mo_wf (by omega), if_pos (by omega), er 6 (by omega) (by omega)]
  · unfold stepR goR
    rw [ec, ed]
theorem mg_6 {ρ r : Nat → Nat} : mgR ρ r 6 = r 6 + (mF (gR ρ) - mF (gR r)) := by
  unfold mgR
  rw [stR_n (by omega), stR_s]
theorem mg_7 {ρ r : Nat → Nat} : mgR ρ r 7 = r 7 + (mF (gR r) - mF (gR ρ)) := by
  unfold mgR
  rw [stR_s]
theorem mF_eq {g g' : Nat → Nat} (h : ∀ c, c < 256 → g' c = g c) : mF g' = mF g := mF_congr (fun c hc => by rw [h c hc])
theorem pl_eq {g g' : Nat → Nat} (h : g' = g) (x : Nat) : Plc g' (labF g' x) = Plc g (labF g x) := by rw [h]
theorem sm_eq {f f' : Nat → Nat} (n : Nat) (h : ∀ i, i < n → f' i = f i) : sm f' n = sm f n := sm_congr n h
/-- what is asked of the heaps is the same where the chips are -/
theorem cn_eq {g g' : Nat → Nat} (h : ∀ c, c < 256 → g' c = g c) {k : Nat} (hk : k < mF g) : szF g' k = szF g k ∧ cnF g' k = cnF g k := by
  have h0 : ∀ c, c < 256 → (0 < g' c ↔ 0 < g c) := fun c hc => by rw [h c hc]
  have hk' : k < mF g' := by rw [mF_eq h]; exact hk
  have er : rtAt g' k = rtAt g k := rtAt_congr h0 hk'
  refine ⟨?_, cnF_congr h0 hk'⟩
  unfold szF
  rw [er]
  show sm _ 256 = sm _ 256
  refine sm_congr 256 (fun i hi => ?_)
  rw [h i hi, dd_c (Conn.congr h0)]
theorem plc_cg {g g' : Nat → Nat} (h : ∀ c, c < 256 → g' c = g c) {x : Nat} (hx : x < 256) (hg : 0 < g x) : Plc g' (labF g' x) = Plc g (labF g x) := by
  have h0 : ∀ c, c < 256 → (0 < g' c ↔ 0 < g c) := fun c hc => by rw [h c hc]
  rw [labF_congr h0 hx (by rw [h x hx]; exact hg)]
  have hl := labF_lt hx hg
  unfold Plc
  rw [mF_eq h]
  refine cnt_congr (fun i hi => ?_)
  unfold AH
  rw [(cn_eq h hi).1, (cn_eq h hi).2, (cn_eq h hl).1, (cn_eq h hl).2]
theorem walk1 {A : AbS} {w : Nat} (hw : w < A.1 2) (h8 : A.1 2 ≤ 8) : aWalk A (nI w) 1 = (nI (stepR A.1 w (wI w 3)), neA A (stepR A.1 w)) := by
  unfold aWalk
  rw [if_pos (okWN hw (by omega)), if_pos (show rgX 1 100 1 from ⟨by decide, by decide⟩), tnN (by omega)]
  rfl
theorem j212 {A : AbS} {w d e : Nat} {τ : Nat → Nat} (hG : GI A) (hw : w < A.1 2) (hd : d < 4) (he : e < 256) (her : e / 16 < A.1 0 ∧ e % 16 < A.1 1) (hGt : Good τ) (hwt : w < τ 2) (hce : cw τ w = e) (hgt : ∀ c, c < 256 → gR τ c = gR A.1 c) (t : τ (wI w 0) = e / 16 ∧ τ (wI w 1) = e % 16 ∧ τ (wI w 2) = d ∧ τ (wI w 3) = A.1 (wI w 3) ∧ τ (wI w 4) = A.1 (wI w 4) ∧ τ (wI w 5) = A.1 (wI w 5) ∧ τ (wI w 6) = A.1 (wI w 6) + 1) (u : τ 4 = (A.1 4 + 1) % A.1 3 ∧ τ 6 = A.1 6 ∧ τ 7 = A.1 7) (hs : stepR A.1 w = mgR (rotR A.1 w) (actR τ w)) (hgr : ∀ c, c < 256 → gR (rotR A.1 w) c = gR A.1 c) (fl : Int32) (hfl : 0 < gR A.1 e → (fl = 0 ↔ 0 < Plc (gR A.1) (labF (gR A.1) e))) :
    hL_steps_J212 A (nI w) (nI ((A.1 4 + 1) % A.1 3)) (nI (e / 16)) (nI (e % 16)) (nI d) (nI (gR A.1 e)) (nI (A.1 (wI w 3))) (nI (A.1 (wI w 5))) (nI (A.1 (wI w 3))) (nI (gR A.1 e)) (nI (A.1 (wI w 4) - A.1 (wI w 3))) fl = some (1, neA A (stepR A.1 w)) := by
  have h8 := hG.1.2.1
  have hW := hG.1.2.2.2.2.2.1 w hw
  have hb := hG.1.1
  have h99 := hb.2.2.1 e he
  obtain ⟨t0, t1, t2, t3, t4, t5, t6⟩ := t
  have act := act_sp (A := A) hGt hwt fl (by rw [hce, hgt e he]; intro z; rw [hfl z, plc_cg hgt he z])
  rw [t5, t3, t4, hce, hgt e he] at act
  -- behind either act
  have fin : ∀ (v : Int32) (pn cn : Nat), hL_act A (nI (A.1 (wI w 5))) (nI (A.1 (wI w 3))) (nI (gR A.1 e)) (nI (A.1 (wI w 4) - A.1 (wI w 3))) fl = some v → nI (A.1 (wI w 3)) + v = nI pn → nI (gR A.1 e) - v = nI cn →
      (∀ j, j < 9 → actR τ w j = τ j) → (∀ f, f < 9 → f ≠ 3 → f ≠ 7 → f ≠ 8 → actR τ w (wI w f) = τ (wI w f)) → actR τ w (wI w 3) = pn → gR (actR τ w) e = cn → hL_steps_J212 A (nI w) (nI ((A.1 4 + 1) % A.1 3)) (nI (e / 16)) (nI (e % 16)) (nI d) (nI (gR A.1 e)) (nI (A.1 (wI w 3))) (nI (A.1 (wI w 5))) (nI (A.1 (wI w 3))) (nI (gR A.1 e)) (nI (A.1 (wI w 4) - A.1 (wI w 3))) fl = some (1, neA A (stepR A.1 w)) := by
    intro v pn cn ha hp hcn q1 q2 q3 q4
    have hm := mF_le (gR A.1)
    have hm' := mF_le (gR (stepR A.1 w))
    have hσ := hG.1.step hw
    have s2 : stepR A.1 w 2 = A.1 2 := step_lo hG.1 hw (by omega) (by omega)
    have s0 : stepR A.1 w 0 = A.1 0 := step_lo hG.1 hw (by omega) (by omega)
    have s1 : stepR A.1 w 1 = A.1 1 := step_lo hG.1 hw (by omega) (by omega)
    have s3' : stepR A.1 w 3 = A.1 3 := step_lo hG.1 hw (by omega) (by omega)
    have sf : ∀ f, f < 9 → stepR A.1 w (wI w f) = actR τ w (wI w f) := fun f hf => by rw [hs, mg_lo (by unfold wI; omega) (by unfold wI; omega)]
    have s4 : stepR A.1 w 4 = (A.1 4 + 1) % A.1 3 := by rw [hs, mg_lo (by omega) (by omega), q1 4 (by omega), u.1]
    have eg : ∀ c, c < 256 → gR (stepR A.1 w) c = gR (actR τ w) c := fun c hc => by rw [hs]; exact mg_lo (by omega) (by omega)
    have m1 : mF (gR (rotR A.1 w)) = mF (gR A.1) := mF_eq hgr
    have m2 : mF (gR (stepR A.1 w)) = mF (gR (actR τ w)) := mF_eq eg
    have s6 : stepR A.1 w 6 = A.1 6 + (mF (gR A.1) - mF (gR (stepR A.1 w))) := by rw [m2, ← m1, hs, mg_6, q1 6 (by omega), u.2.1]
    have s7 : stepR A.1 w 7 = A.1 7 + (mF (gR (stepR A.1 w)) - mF (gR A.1)) := by rw [m2, ← m1, hs, mg_7, q1 7 (by omega), u.2.2]
    have hGn := hG.ne hσ
    have hwn : w < (neA A (stepR A.1 w)).1 2 := by show w < stepR A.1 w 2; omega
    have h8n : (neA A (stepR A.1 w)).1 2 ≤ 8 := by show stepR A.1 w 2 ≤ 8; omega
    have w0 : qWalker (neA A (stepR A.1 w)) (nI w) 0 = nI (e / 16) := by
      rw [show (0 : Int32) = nI 0 from rfl, qW hwn h8n (by omega)]
      show nI (stepR A.1 w (wI w 0)) = _
      rw [sf 0 (by omega), q2 0 (by omega) (by omega) (by omega) (by omega), t0]
    have w1 : qWalker (neA A (stepR A.1 w)) (nI w) 1 = nI (e % 16) := by
      rw [show (1 : Int32) = nI 1 from rfl, qW hwn h8n (by omega)]
      show nI (stepR A.1 w (wI w 1)) = _
      rw [sf 1 (by omega), q2 1 (by omega) (by omega) (by omega) (by omega), t1]
    have w2 : qWalker (neA A (stepR A.1 w)) (nI w) 2 = nI d := by
      rw [show (2 : Int32) = nI 2 from rfl, qW hwn h8n (by omega)]
      show nI (stepR A.1 w (wI w 2)) = _
      rw [sf 2 (by omega), q2 2 (by omega) (by omega) (by omega) (by omega), t2]
    have w3 : qWalker (neA A (stepR A.1 w)) (nI w) 3 = nI pn := by
      rw [show (3 : Int32) = nI 3 from rfl, qW hwn h8n (by omega)]
      show nI (stepR A.1 w (wI w 3)) = _
      rw [sf 3 (by omega), q3]
    have w6 : qWalker (neA A (stepR A.1 w)) (nI w) 6 = qWalker A (nI w) 6 + 1 := by
      rw [show (6 : Int32) = nI 6 from rfl, qW hwn h8n (by omega), qW hw h8 (by omega), nI_1]
      show nI (stepR A.1 w (wI w 6)) = _
      rw [sf 6 (by omega), q2 6 (by omega) (by omega) (by omega) (by omega), t6]
    have c5 : qChips (neA A (stepR A.1 w)) (nI (e / 16)) (nI (e % 16)) = nI cn := by
      rw [qC (show e / 16 < stepR A.1 w 0 by omega) (show e % 16 < stepR A.1 w 1 by omega) hGn, show 16 * (e / 16) + e % 16 = e by omega]
      show nI (gR (stepR A.1 w) e) = _
      rw [eg e he, q4]
    have k9 : qCount (neA A (stepR A.1 w)) 9 = nI ((A.1 4 + 1) % A.1 3) := by
      rw [qc9]
      show nI (stepR A.1 w 4) = _
      rw [s4]
    have k5 : qCount (neA A (stepR A.1 w)) 5 = nI (mF (gR (stepR A.1 w))) := qc5
    have k6 : qCount (neA A (stepR A.1 w)) 6 = nI (stepR A.1 w 6) := qc6
    have k7 : qCount (neA A (stepR A.1 w)) 7 = nI (stepR A.1 w 7) := qc7
    have n1 : ¬ (1 : Int32) = 0 := by decide
    unfold hL_steps_J212
    rw [ha, bd1, walk1 hw h8, bd1]
    simp only []
    rw [w0, w1, w2, w3, w6, c5, k9, k5, sf 3 (by omega), q3, hp, hcn, if_pos rfl, if_neg (fun z => z rfl), if_neg (fun z => z rfl), if_neg (fun z => z rfl), if_neg (fun z => z rfl), if_neg (fun z => z rfl), if_neg (fun z => z rfl), if_neg (fun z => z rfl)]
    unfold hL_steps_J364 hL_steps_J395
    rw [if_neg n1, k6, k7, qc5, qc6, qc7, s6, s7]
    have a0 : ∀ x : Int32, x + 0 = x := fun x => Int32.add_zero x
    by_cases c1 : mF (gR A.1) ≤ mF (gR (stepR A.1 w))
    · rw [if_pos (yle (by omega) (by omega) c1)]
      rw [if_neg (show ¬ ¬ nI (A.1 6 + (mF (gR A.1) - mF (gR (stepR A.1 w)))) = nI (A.1 6) + 0 from fun z => z (by rw [a0, Nat.sub_eq_zero_of_le c1, Nat.add_zero]))]
      by_cases c2 : mF (gR (stepR A.1 w)) ≤ mF (gR A.1)
      · rw [if_pos (yle (by omega) (by omega) c2), if_neg (fun z => z (by rw [a0, Nat.sub_eq_zero_of_le c2, Nat.add_zero]))]
      · rw [if_neg (nle (by omega) (by omega) (by omega)), if_neg (fun z => z (by rw [pk_sub c1, nI_add]))]
    · have c1' : mF (gR (stepR A.1 w)) ≤ mF (gR A.1) := by omega
      rw [if_neg (nle (by omega) (by omega) (by omega))]
      rw [if_neg (show ¬ ¬ nI (A.1 6 + (mF (gR A.1) - mF (gR (stepR A.1 w)))) = nI (A.1 6) + (nI (mF (gR A.1)) - nI (mF (gR (stepR A.1 w)))) from fun z => z (by rw [pk_sub c1', nI_add])), if_pos (yle (by omega) (by omega) c1'), if_neg (fun z => z (by rw [a0, Nat.sub_eq_zero_of_le c1', Nat.add_zero]))]
  have hct : cw τ w < 256 := by rw [hce]; exact he
  obtain ⟨n, ⟨a1, a2, a3, a4⟩ | ⟨a1, a2, a3, a4⟩⟩ := act
  · refine fin _ (A.1 (wI w 3) + n) (gR A.1 e - n) a1 (nI_add _ _) (pk_sub a3) (fun j hj => by rw [a2, pk_lo hj]) (fun f hf h3 h7 h8 => by rw [a2, pk_wf hf hct, if_neg (by omega), if_neg (by omega)]) (by rw [a2, pk_wf (by omega) hct, if_neg (by omega), if_pos (by omega), t3]) (by rw [a2, gR_pk (by omega) he, if_pos hce.symm, hce, hgt e he])
  · refine fin _ (A.1 (wI w 3) - n) (gR A.1 e + n) a1 (nI_neg a4) (by rw [sub_neg, nI_add]) (fun j hj => by rw [a2, dr_lo hj]) (fun f hf h3 h7 h8 => by rw [a2, dr_wf hf hct, if_neg (by omega), if_neg (by omega)]) (by rw [a2, dr_wf (by omega) hct, if_neg (by omega), if_pos (by omega), t3]) (by rw [a2, gR_dr (by omega) he, if_pos hce.symm, hce, hgt e he])
theorem loop84 {A : AbS} (hG : GI A) {c d : Nat} (hc : c < 256) (h1 : c / 16 < A.1 0) (h2 : c % 16 < A.1 1) (hd : d < 4) (ct : Int32 → Option (Int32 × AbS)) (x1 x3 : Int32) : hL_steps_L84 2000 ct x1 x3 (nI (c / 16)) (nI (c % 16)) A (nI d) = ct (nI (dirR A.1 c d)) := by
  have n1 : ¬ (1 : Int32) = 0 := by decide
  have st : ∀ (k d : Nat), d < 4 → hL_steps_L84 (k + 1) ct x1 x3 (nI (c / 16)) (nI (c % 16)) A (nI d) = if Fre A.1 c d then ct (nI d) else hL_steps_L84 k ct x1 x3 (nI (c / 16)) (nI (c % 16)) A (nI ((d + 1) % 4)) := by
    intro k d hd
    show (hL_wall A (nI (c / 16)) (nI (c % 16)) (nI d)).bind _ = _
    rw [wall_sp hG h1 h2 hd, bd1]
    by_cases q : Fre A.1 c d
    · rw [if_pos q, if_pos q, if_pos rfl]
    · rw [if_neg q, if_neg q, if_neg n1, nI_1, show (4 : Int32) = nI 4 from rfl, rmN (by omega) (by omega) (by omega)]
  show hL_steps_L84 (1999 + 1) _ _ _ _ _ _ _ = _
  unfold dirR
  rw [st 1999 d hd]
  by_cases q0 : Fre A.1 c d
  · rw [if_pos q0, if_pos q0]
  · rw [if_neg q0, if_neg q0]
    show hL_steps_L84 (1998 + 1) _ _ _ _ _ _ _ = _
    rw [st 1998 _ (Nat.mod_lt _ (by omega))]
    by_cases q1 : Fre A.1 c ((d + 1) % 4)
    · rw [if_pos q1, if_pos q1]
    · rw [if_neg q1, if_neg q1]
      show hL_steps_L84 (1997 + 1) _ _ _ _ _ _ _ = _
      have e : ((d + 1) % 4 + 1) % 4 = (d + 2) % 4 := by omega
      rw [e, st 1997 _ (Nat.mod_lt _ (by omega)), if_pos (fre_op hG.1.1 hc h1 h2 hd q0)]
theorem steps_sp {A : AbS} (hG : GI A) {w : Nat} (hw : w < A.1 2) : hL_steps A (nI w) = some (1, neA A (stepR A.1 w)) := by
  have h8 := hG.1.2.1
  have g3 := hG.1.2.2.1
  have g4 := hG.1.2.2.2.1
  have hx := hG.1.2.2.2.2.2.2.1 (A.1 4) g4
  have hb := hG.1.1
  obtain ⟨hc, hcr, hcc, hr1, hr2⟩ := (hG.1.2.2.2.2.2.1 w hw).cell hb
  have hdir := (hG.1.2.2.2.2.2.1 w hw).2.2.1
  have hpc := (hG.1.2.2.2.2.2.1 w hw).2.2.2.1
  obtain ⟨d, e, τ, hd, hdd, hee, hf, hGt, hwt, hce, hgt, t, u, hs, hgr⟩ := stp_is hG.1 hw
  have he : e < 256 := by rw [hee]; exact hf.1
  have her : e / 16 < A.1 0 ∧ e % 16 < A.1 1 := by rw [hee]; exact hf.2
  have x0 : qWalker A (nI w) 0 = nI (cw A.1 w / 16) := by rw [show (0 : Int32) = nI 0 from rfl, qW hw h8 (by omega), hcr]
  have x1 : qWalker A (nI w) 1 = nI (cw A.1 w % 16) := by rw [show (1 : Int32) = nI 1 from rfl, qW hw h8 (by omega), hcc]
  have x2 : qWalker A (nI w) 2 = nI (A.1 (wI w 2)) := qW (f := 2) hw h8 (by omega)
  have x3 : qWalker A (nI w) 3 = nI (A.1 (wI w 3)) := qW (f := 3) hw h8 (by omega)
  have x4 : qWalker A (nI w) 4 = nI (A.1 (wI w 4)) := qW (f := 4) hw h8 (by omega)
  have x5 : qWalker A (nI w) 5 = nI (A.1 (wI w 5)) := qW (f := 5) hw h8 (by omega)
  have pl : rm (nI (A.1 4) + 1) (nI (A.1 3)) = nI ((A.1 4 + 1) % A.1 3) := by rw [nI_1, rmN (by omega) (by omega) (by omega)]
  -- from the new cell on
  have j156 : ∀ (s0 s1 : Int32), s0 + s1 = nI (e % 16) → hL_steps_J156 A (nI w) (nI ((A.1 4 + 1) % A.1 3)) (nI (e / 16)) (nI d) s0 s1 = some (1, neA A (stepR A.1 w)) := by
    intro s0 s1 hss
    unfold hL_steps_J156
    rw [hss, x3, x4, x5, qC her.1 her.2 hG, qH her.1 her.2 hG, show 16 * (e / 16) + e % 16 = e by omega, pk_sub hpc]
    have hm := mF_le (gR A.1)
    by_cases q : gR A.1 e = 0
    · rw [if_pos q, if_pos (by decide)]
      exact j212 hG hw hd he her hGt hwt hce hgt t u hs hgr 0 (fun z => by omega)
    · have hl := Plc_lt (labF_lt he (show 0 < gR A.1 e by omega))
      rw [if_neg q]
      by_cases q2 : Plc (gR A.1) (labF (gR A.1) e) = 0
      · rw [if_neg (show ¬ ¬ nI (Plc (gR A.1) (labF (gR A.1) e)) = (0 : Int32) from fun z => z (by rw [q2]; rfl))]
        exact j212 hG hw hd he her hGt hwt hce hgt t u hs hgr 1 (fun _ => ⟨fun z => absurd z (by decide), fun z => by omega⟩)
      · rw [if_pos (show ¬ nI (Plc (gR A.1) (labF (gR A.1) e)) = (0 : Int32) from fun z => q2 ((eqN (b := 0) (by omega) (by omega)).mp z))]
        exact j212 hG hw hd he her hGt hwt hce hgt t u hs hgr 0 (fun _ => ⟨fun _ => by omega, fun _ => rfl⟩)
  have ct : ∀ d1, d1 < 4 → dirR A.1 (cw A.1 w) d1 = d → hL_steps_L84 2000 (fun z7 => (if ¬ z7 = 2 then (if ¬ z7 = 0 then hL_steps_J130 A (nI w) (nI ((A.1 4 + 1) % A.1 3)) (nI (cw A.1 w % 16)) z7 (nI (cw A.1 w / 16)) 0 else hL_steps_J130 A (nI w) (nI ((A.1 4 + 1) % A.1 3)) (nI (cw A.1 w % 16)) z7 (nI (cw A.1 w / 16)) (-1)) else hL_steps_J130 A (nI w) (nI ((A.1 4 + 1) % A.1 3)) (nI (cw A.1 w % 16)) z7 (nI (cw A.1 w / 16)) 1)) (nI w) (nI ((A.1 4 + 1) % A.1 3)) (nI (cw A.1 w / 16)) (nI (cw A.1 w % 16)) A (nI d1) = some (1, neA A (stepR A.1 w)) := by
    intro d1 hd1 hdd1
    rw [loop84 hG hc hr1 hr2 hd1, hdd1]
    have f0 := fre0 hr1 hr2 hb.1.2
    have f1 := fre1 hr1 hr2 hb.1.2 hb.2.1.2
    have f2 := fre2 hr1 hr2 hb.1.2
    have f3 := fre3 hr1 hr2 hb.1.2
    have a0 : ∀ x : Int32, x + 0 = x := fun x => Int32.add_zero x
    have hd' : d = 0 ∨ d = 1 ∨ d = 2 ∨ d = 3 := by omega
    unfold hL_steps_J130
    rcases hd' with z | z | z | z <;> subst z
    · obtain ⟨r1, r2⟩ := f0.2 (f0.1.mp hf)
      rw [← hee] at r1 r2
      have := f0.1.mp hf
      rw [if_pos (by decide), if_neg (by decide), if_pos (by decide), if_pos (by decide), nI_m1 this, ← r1]
      exact j156 _ _ (by rw [a0, r2])
    · obtain ⟨r1, r2⟩ := f1.2 (f1.1.mp hf)
      rw [← hee] at r1 r2
      rw [if_pos (by decide), if_pos (by decide), if_neg (by decide), a0, ← r1]
      exact j156 _ _ (by rw [nI_1, r2])
    · obtain ⟨r1, r2⟩ := f2.2 (f2.1.mp hf)
      rw [← hee] at r1 r2
      rw [if_neg (by decide), if_pos (by decide), if_pos (by decide), nI_1, ← r1]
      exact j156 _ _ (by rw [a0, r2])
    · obtain ⟨r1, r2⟩ := f3.2 (f3.1.mp hf)
      rw [← hee] at r1 r2
      have := f3.1.mp hf
      rw [if_pos (by decide), if_pos (by decide), if_pos (by decide), if_neg (by decide), a0, ← r1]
      exact j156 _ _ (by rw [nI_m1 this, r2])
  unfold hL_steps
  rw [qc9, qc10, qT g4 (by omega), x0, x1, x2, pl]
  have hz : nz (nI (A.1 3)) = true := by
    unfold nz
    have : ¬ nI (A.1 3) = 0 := fun z => by have := (eqN (b := 0) (by omega) (by omega)).mp z; omega
    simp [this]
  rw [hz, ck_t rfl]
  have rr : ∀ k, k ≤ 3 → rm (nI (A.1 (wI w 2)) + nI k) 4 = nI ((A.1 (wI w 2) + k) % 4) := fun k hk => by rw [nI_add, show (4 : Int32) = nI 4 from rfl, rmN (by omega) (by omega) (by omega)]
  have hd1 : ∀ k, tn (A.1 (337 + A.1 4)) = k → (A.1 (wI w 2) + k) % 4 < 4 ∧ dirR A.1 (cw A.1 w) ((A.1 (wI w 2) + k) % 4) = d := fun k hk => ⟨Nat.mod_lt _ (by omega), by rw [hdd, ← hk]; rfl⟩
  generalize hxx : A.1 (337 + A.1 4) = x at *
  have e9 : (nI x = (9 : Int32)) ↔ x = 9 := eqN (b := 9) (by omega) (by omega)
  have e6 : (nI x ≤ (6 : Int32)) ↔ x ≤ 6 := leN (b := 6) (by omega) (by omega)
  have e4 : (nI x ≤ (4 : Int32)) ↔ x ≤ 4 := leN (b := 4) (by omega) (by omega)
  by_cases q9 : x = 9
  · rw [if_neg (fun z => z (e9.mpr q9)), show (2 : Int32) = nI 2 from rfl, rr 2 (by omega)]
    obtain ⟨y1, y2⟩ := hd1 2 (by rw [q9]; rfl)
    exact ct _ y1 y2
  · rw [if_pos (fun z => q9 (e9.mp z))]
    by_cases q6 : x ≤ 6
    · rw [if_pos (e6.mpr q6)]
      by_cases q4 : x ≤ 4
      · rw [if_pos (e4.mpr q4), show nI (A.1 (wI w 2)) + 0 = nI (A.1 (wI w 2)) + nI 0 from rfl, rr 0 (by omega)]
        obtain ⟨y1, y2⟩ := hd1 0 (by unfold tn; rw [if_pos (by omega)])
        exact ct _ y1 y2
      · rw [if_neg (fun z => q4 (e4.mp z)), show nI (A.1 (wI w 2)) + 1 = nI (A.1 (wI w 2)) + nI 1 from rfl, rr 1 (by omega)]
        obtain ⟨y1, y2⟩ := hd1 1 (by unfold tn; rw [if_neg (by omega), if_pos (by omega)])
        exact ct _ y1 y2
    · rw [if_neg (fun z => q6 (e6.mp z)), show nI (A.1 (wI w 2)) + 3 = nI (A.1 (wI w 2)) + nI 3 from rfl, rr 3 (by omega)]
      obtain ⟨y1, y2⟩ := hd1 3 (by unfold tn; rw [if_neg (by omega), if_neg (by omega), if_pos (by omega)])
      exact ct _ y1 y2
