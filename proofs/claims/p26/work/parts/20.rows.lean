/-! rows of 367 numbers, and what is done to them -/
def stR (ρ : Nat → Nat) (k v : Nat) : Nat → Nat := fun j => if j = k then v else ρ j
theorem stR_s {ρ : Nat → Nat} {k v : Nat} : stR ρ k v k = v := if_pos rfl
theorem stR_n {ρ : Nat → Nat} {k v j : Nat} (h : j ≠ k) : stR ρ k v j = ρ j := if_neg h
theorem stR_id {ρ : Nat → Nat} {k v : Nat} (h : v = ρ k) : stR ρ k v = ρ := by
  funext j
  by_cases e : j = k
  · rw [e, stR_s, h]
  · rw [stR_n e]
theorem stR_tw {ρ : Nat → Nat} {k v w : Nat} : stR (stR ρ k v) k w = stR ρ k w := by
  funext j
  by_cases e : j = k
  · rw [e, stR_s, stR_s]
  · rw [stR_n e, stR_n e, stR_n e]
def wI (w f : Nat) : Nat := 265 + 9 * w + f
def cw (ρ : Nat → Nat) (w : Nat) : Nat := 16 * ρ (wI w 0) + ρ (wI w 1)
theorem wI_lt {w f : Nat} (hw : w < 8) (hf : f < 9) : wI w f < 337 ∧ 265 ≤ wI w f := by unfold wI; omega
theorem wI_ne {w f w' f' : Nat} (hf : f < 9) (hf' : f' < 9) (h : ¬ (w = w' ∧ f = f')) : wI w f ≠ wI w' f' := by unfold wI; omega
def Wk (ρ : Nat → Nat) (w : Nat) : Prop := ρ (wI w 0) < ρ 0 ∧ ρ (wI w 1) < ρ 1 ∧ ρ (wI w 2) < 4 ∧ ρ (wI w 3) ≤ ρ (wI w 4) ∧ (1 ≤ ρ (wI w 4) ∧ ρ (wI w 4) ≤ 9) ∧ ρ (wI w 5) ≤ 2
def Good (ρ : Nat → Nat) : Prop := Bd ρ ∧ ρ 2 ≤ 8 ∧ (1 ≤ ρ 3 ∧ ρ 3 ≤ 30) ∧ ρ 4 < ρ 3 ∧ ρ 5 ≤ 1 ∧ (∀ w, w < ρ 2 → Wk ρ w) ∧ (∀ t, t < ρ 3 → ρ (337 + t) ≤ 9) ∧ ρ 8 = sm (fun w => ρ (wI w 6)) (ρ 2)
theorem Wk.cell {ρ : Nat → Nat} {w : Nat} (hB : Bd ρ) (h : Wk ρ w) : cw ρ w < 256 ∧ cw ρ w / 16 = ρ (wI w 0) ∧ cw ρ w % 16 = ρ (wI w 1) ∧ cw ρ w / 16 < ρ 0 ∧ cw ρ w % 16 < ρ 1 := by
  obtain ⟨h1, h2, -⟩ := h
  have h3 := hB.1.2
  have h4 := hB.2.1.2
  unfold cw
  omega
abbrev Fre (ρ : Nat → Nat) (c d : Nat) : Prop := nbr c d < 256 ∧ nbr c d / 16 < ρ 0 ∧ nbr c d % 16 < ρ 1
def tn (x : Nat) : Nat := if x < 5 then 0 else if x < 7 then 1 else if x < 9 then 3 else 2
def pkR (ρ : Nat → Nat) (w n : Nat) : Nat → Nat := stR (stR (stR ρ (9 + cw ρ w) (gR ρ (cw ρ w) - n)) (wI w 3) (ρ (wI w 3) + n)) (wI w 7) (ρ (wI w 7) + n)
def drR (ρ : Nat → Nat) (w n : Nat) : Nat → Nat := stR (stR (stR ρ (9 + cw ρ w) (gR ρ (cw ρ w) + n)) (wI w 3) (ρ (wI w 3) - n)) (wI w 8) (ρ (wI w 8) + n)
theorem pkR_at {ρ : Nat → Nat} {w n j : Nat} : pkR ρ w n j = if j = wI w 7 then ρ (wI w 7) + n else if j = wI w 3 then ρ (wI w 3) + n else if j = 9 + cw ρ w then gR ρ (cw ρ w) - n else ρ j := rfl
theorem drR_at {ρ : Nat → Nat} {w n j : Nat} : drR ρ w n j = if j = wI w 8 then ρ (wI w 8) + n else if j = wI w 3 then ρ (wI w 3) - n else if j = 9 + cw ρ w then gR ρ (cw ρ w) + n else ρ j := rfl
theorem gR_pk {ρ : Nat → Nat} {w n c : Nat} (_hw : w < 8) (hc : c < 256) : gR (pkR ρ w n) c = if c = cw ρ w then gR ρ (cw ρ w) - n else gR ρ c := by
  show pkR ρ w n (9 + c) = _
  rw [pkR_at, if_neg (by unfold wI; omega), if_neg (by unfold wI; omega)]
  by_cases e : c = cw ρ w
  · rw [if_pos (by omega), if_pos e]
  · rw [if_neg (by omega), if_neg e]
    rfl
theorem gR_dr {ρ : Nat → Nat} {w n c : Nat} (_hw : w < 8) (hc : c < 256) : gR (drR ρ w n) c = if c = cw ρ w then gR ρ (cw ρ w) + n else gR ρ c := by
  show drR ρ w n (9 + c) = _
  rw [drR_at, if_neg (by unfold wI; omega), if_neg (by unfold wI; omega)]
  by_cases e : c = cw ρ w
  · rw [if_pos (by omega), if_pos e]
  · rw [if_neg (by omega), if_neg e]
    rfl
theorem pk0 {ρ : Nat → Nat} {w : Nat} : pkR ρ w 0 = ρ := by
  funext j
  rw [pkR_at]
  split
  · rename_i h; rw [h]; rfl
  · split
    · rename_i h; rw [h]; rfl
    · split
      · rename_i h; rw [h]; rfl
      · rfl
theorem dr0 {ρ : Nat → Nat} {w : Nat} : drR ρ w 0 = ρ := by
  funext j
  rw [drR_at]
  split
  · rename_i h; rw [h]; rfl
  · split
    · rename_i h; rw [h]; rfl
    · split
      · rename_i h; rw [h]; rfl
      · rfl
theorem pk_lo {ρ : Nat → Nat} {w n j : Nat} (hj : j < 9) : pkR ρ w n j = ρ j := by
  rw [pkR_at, if_neg (by unfold wI; omega), if_neg (by unfold wI; omega), if_neg (by omega)]
theorem dr_lo {ρ : Nat → Nat} {w n j : Nat} (hj : j < 9) : drR ρ w n j = ρ j := by
  rw [drR_at, if_neg (by unfold wI; omega), if_neg (by unfold wI; omega), if_neg (by omega)]
theorem pk_wf {ρ : Nat → Nat} {w n u f : Nat} (hf : f < 9) (hc : cw ρ w < 256) : pkR ρ w n (wI u f) = if u = w ∧ f = 7 then ρ (wI w 7) + n else if u = w ∧ f = 3 then ρ (wI w 3) + n else ρ (wI u f) := by
  rw [pkR_at]
  by_cases e1 : u = w ∧ f = 7
  · rw [if_pos (by rw [e1.1, e1.2]), if_pos e1]
  · rw [if_neg (wI_ne hf (by omega) e1), if_neg e1]
    by_cases e2 : u = w ∧ f = 3
    · rw [if_pos (by rw [e2.1, e2.2]), if_pos e2]
    · rw [if_neg (wI_ne hf (by omega) e2), if_neg e2, if_neg (by unfold wI; omega)]
theorem dr_wf {ρ : Nat → Nat} {w n u f : Nat} (hf : f < 9) (hc : cw ρ w < 256) : drR ρ w n (wI u f) = if u = w ∧ f = 8 then ρ (wI w 8) + n else if u = w ∧ f = 3 then ρ (wI w 3) - n else ρ (wI u f) := by
  rw [drR_at]
  by_cases e1 : u = w ∧ f = 8
  · rw [if_pos (by rw [e1.1, e1.2]), if_pos e1]
  · rw [if_neg (wI_ne hf (by omega) e1), if_neg e1]
    by_cases e2 : u = w ∧ f = 3
    · rw [if_pos (by rw [e2.1, e2.2]), if_pos e2]
    · rw [if_neg (wI_ne hf (by omega) e2), if_neg e2, if_neg (by unfold wI; omega)]
theorem Good.pk {ρ : Nat → Nat} {w n : Nat} (h : Good ρ) (hw : w < ρ 2) (_h1 : n ≤ gR ρ (cw ρ w)) (h2 : n ≤ ρ (wI w 4) - ρ (wI w 3)) : Good (pkR ρ w n) := by
  obtain ⟨hB, g2, g3, g4, g5, g6, g7, g8⟩ := h
  have hW := g6 w hw
  have hc := hW.cell hB
  obtain ⟨b1, b2, b3, b4⟩ := hB
  refine ⟨⟨?_, ?_, fun c hc2 => ?_, fun c hc2 hcc => ?_⟩, ?_, ?_, ?_, ?_, fun u hu => ?_, fun t ht => ?_, ?_⟩
  · rw [pk_lo (by omega)]; exact b1
  · rw [pk_lo (by omega)]; exact b2
  · rw [gR_pk (by omega) hc2]
    have := b3 c hc2
    have := b3 _ hc.1
    split <;> omega
  · rw [pk_lo (by omega), pk_lo (by omega)] at hcc
    rw [gR_pk (by omega) hc2, if_neg (fun e => by rw [e] at hcc; omega)]
    exact b4 c hc2 hcc
  · rw [pk_lo (by omega)]; exact g2
  · rw [pk_lo (by omega)]; exact g3
  · rw [pk_lo (by omega), pk_lo (by omega)]; exact g4
  · rw [pk_lo (by omega)]; exact g5
  · rw [pk_lo (by omega)] at hu
    obtain ⟨w1, w2, w3, w4, w5, w6⟩ := g6 u hu
    unfold Wk
    rw [pk_lo (j := 0) (by omega), pk_lo (j := 1) (by omega), pk_wf (u := u) (f := 0) (by omega) hc.1, pk_wf (u := u) (f := 1) (by omega) hc.1, pk_wf (u := u) (f := 2) (by omega) hc.1, pk_wf (u := u) (f := 3) (by omega) hc.1, pk_wf (u := u) (f := 4) (by omega) hc.1, pk_wf (u := u) (f := 5) (by omega) hc.1]
    simp only [show ¬ (0 : Nat) = 7 by omega, show ¬ (0 : Nat) = 3 by omega, show ¬ (1 : Nat) = 7 by omega, show ¬ (1 : Nat) = 3 by omega, show ¬ (2 : Nat) = 7 by omega, show ¬ (2 : Nat) = 3 by omega, show ¬ (3 : Nat) = 7 by omega, show ¬ (4 : Nat) = 7 by omega, show ¬ (4 : Nat) = 3 by omega, show ¬ (5 : Nat) = 7 by omega, show ¬ (5 : Nat) = 3 by omega, and_false, if_false, and_true]
    refine ⟨w1, w2, w3, ?_, w5, w6⟩
    by_cases e : u = w
    · subst e
      rw [if_pos rfl]
      omega
    · rw [if_neg e]
      exact w4
  · rw [pk_lo (by omega)] at ht
    rw [pkR_at, if_neg (by unfold wI; omega), if_neg (by unfold wI; omega), if_neg (by omega)]
    exact g7 t ht
  · rw [pk_lo (by omega), pk_lo (by omega), g8]
    refine sm_congr _ (fun u hu => ?_)
    show ρ (wI u 6) = pkR ρ w n (wI u 6)
    rw [pk_wf (by omega) hc.1, if_neg (by omega), if_neg (by omega)]
theorem Good.dr {ρ : Nat → Nat} {w n : Nat} (h : Good ρ) (hw : w < ρ 2) (h1 : gR ρ (cw ρ w) + n ≤ 99) (_h2 : n ≤ ρ (wI w 3)) : Good (drR ρ w n) := by
  obtain ⟨hB, g2, g3, g4, g5, g6, g7, g8⟩ := h
  have hW := g6 w hw
  have hc := hW.cell hB
  obtain ⟨b1, b2, b3, b4⟩ := hB
  refine ⟨⟨?_, ?_, fun c hc2 => ?_, fun c hc2 hcc => ?_⟩, ?_, ?_, ?_, ?_, fun u hu => ?_, fun t ht => ?_, ?_⟩
  · rw [dr_lo (by omega)]; exact b1
  · rw [dr_lo (by omega)]; exact b2
  · rw [gR_dr (by omega) hc2]
    have := b3 c hc2
    split <;> omega
  · rw [dr_lo (by omega), dr_lo (by omega)] at hcc
    rw [gR_dr (by omega) hc2, if_neg (fun e => by rw [e] at hcc; omega)]
    exact b4 c hc2 hcc
  · rw [dr_lo (by omega)]; exact g2
  · rw [dr_lo (by omega)]; exact g3
  · rw [dr_lo (by omega), dr_lo (by omega)]; exact g4
  · rw [dr_lo (by omega)]; exact g5
  · rw [dr_lo (by omega)] at hu
    obtain ⟨w1, w2, w3, w4, w5, w6⟩ := g6 u hu
    unfold Wk
    rw [dr_lo (j := 0) (by omega), dr_lo (j := 1) (by omega), dr_wf (u := u) (f := 0) (by omega) hc.1, dr_wf (u := u) (f := 1) (by omega) hc.1, dr_wf (u := u) (f := 2) (by omega) hc.1, dr_wf (u := u) (f := 3) (by omega) hc.1, dr_wf (u := u) (f := 4) (by omega) hc.1, dr_wf (u := u) (f := 5) (by omega) hc.1]
    simp only [show ¬ (0 : Nat) = 8 by omega, show ¬ (0 : Nat) = 3 by omega, show ¬ (1 : Nat) = 8 by omega, show ¬ (1 : Nat) = 3 by omega, show ¬ (2 : Nat) = 8 by omega, show ¬ (2 : Nat) = 3 by omega, show ¬ (3 : Nat) = 8 by omega, show ¬ (4 : Nat) = 8 by omega, show ¬ (4 : Nat) = 3 by omega, show ¬ (5 : Nat) = 8 by omega, show ¬ (5 : Nat) = 3 by omega, and_false, if_false, and_true]
    refine ⟨w1, w2, w3, ?_, w5, w6⟩
    by_cases e : u = w
    · subst e
      rw [if_pos rfl]
      omega
    · rw [if_neg e]
      exact w4
  · rw [dr_lo (by omega)] at ht
    rw [drR_at, if_neg (by unfold wI; omega), if_neg (by unfold wI; omega), if_neg (by omega)]
    exact g7 t ht
  · rw [dr_lo (by omega), dr_lo (by omega), g8]
    refine sm_congr _ (fun u hu => ?_)
    show ρ (wI u 6) = drR ρ w n (wI u 6)
    rw [dr_wf (by omega) hc.1, if_neg (by omega), if_neg (by omega)]
noncomputable def actR (ρ : Nat → Nat) (w : Nat) : Nat → Nat :=
  if ρ (wI w 5) = 0 then (if ρ (wI w 3) = 0 ∧ 0 < gR ρ (cw ρ w) then pkR ρ w 1 else if 0 < ρ (wI w 3) ∧ 0 < gR ρ (cw ρ w) ∧ gR ρ (cw ρ w) < 99 then drR ρ w 1 else ρ)
  else if ρ (wI w 5) = 1 then (if (1 ≤ gR ρ (cw ρ w) ∧ gR ρ (cw ρ w) ≤ 2) ∧ ρ (wI w 3) < ρ (wI w 4) then pkR ρ w (min (gR ρ (cw ρ w)) (ρ (wI w 4) - ρ (wI w 3))) else if 2 < gR ρ (cw ρ w) ∧ 0 < ρ (wI w 3) then drR ρ w (min (ρ (wI w 3)) (99 - gR ρ (cw ρ w))) else ρ)
  else (if ρ (wI w 3) < ρ (wI w 4) ∧ 0 < gR ρ (cw ρ w) ∧ 0 < Plc (gR ρ) (labF (gR ρ) (cw ρ w)) then pkR ρ w 1 else if 0 < ρ (wI w 3) ∧ 0 < gR ρ (cw ρ w) ∧ gR ρ (cw ρ w) < 99 then drR ρ w 1 else ρ)
theorem actR_is {ρ : Nat → Nat} {w : Nat} (h : Good ρ) (hw : w < ρ 2) : ∃ n, ((actR ρ w = pkR ρ w n ∧ n ≤ gR ρ (cw ρ w) ∧ n ≤ ρ (wI w 4) - ρ (wI w 3)) ∨ (actR ρ w = drR ρ w n ∧ gR ρ (cw ρ w) + n ≤ 99 ∧ n ≤ ρ (wI w 3))) := by
  have hW := h.2.2.2.2.2.1 w hw
  have hc := hW.cell h.1
  have hg := h.1.2.2.1 _ hc.1
  have hcap := hW.2.2.2.2.1
  have hid : ∃ n, ((ρ = pkR ρ w n ∧ n ≤ gR ρ (cw ρ w) ∧ n ≤ ρ (wI w 4) - ρ (wI w 3)) ∨ (ρ = drR ρ w n ∧ gR ρ (cw ρ w) + n ≤ 99 ∧ n ≤ ρ (wI w 3))) := ⟨0, Or.inl ⟨pk0.symm, by omega, by omega⟩⟩
  unfold actR
  split
  · split
    · rename_i h1
      exact ⟨1, Or.inl ⟨rfl, by omega, by omega⟩⟩
    · split
      · exact ⟨1, Or.inr ⟨rfl, by omega, by omega⟩⟩
      · exact hid
  · split
    · split
      · exact ⟨_, Or.inl ⟨rfl, Nat.min_le_left _ _, Nat.min_le_right _ _⟩⟩
      · split
        · refine ⟨_, Or.inr ⟨rfl, ?_, Nat.min_le_left _ _⟩⟩
          have := Nat.min_le_right (ρ (wI w 3)) (99 - gR ρ (cw ρ w))
          omega
        · exact hid
    · split
      · exact ⟨1, Or.inl ⟨rfl, by omega, by omega⟩⟩
      · split
        · exact ⟨1, Or.inr ⟨rfl, by omega, by omega⟩⟩
        · exact hid
theorem Good.act {ρ : Nat → Nat} {w : Nat} (h : Good ρ) (hw : w < ρ 2) : Good (actR ρ w) := by
  obtain ⟨n, h1 | h1⟩ := actR_is h hw
  · rw [h1.1]
    exact h.pk hw h1.2.1 h1.2.2
  · rw [h1.1]
    exact h.dr hw h1.2.1 h1.2.2
theorem act_lo {ρ : Nat → Nat} {w j : Nat} (h : Good ρ) (hw : w < ρ 2) (hj : j < 9) : actR ρ w j = ρ j := by
  obtain ⟨n, h1 | h1⟩ := actR_is h hw
  · rw [h1.1, pk_lo hj]
  · rw [h1.1, dr_lo hj]
def moR (ρ : Nat → Nat) (w e : Nat) : Nat → Nat := stR (stR (stR (stR ρ (wI w 0) (e / 16)) (wI w 1) (e % 16)) (wI w 6) (ρ (wI w 6) + 1)) 8 (ρ 8 + 1)
theorem mo_at {ρ : Nat → Nat} {w e j : Nat} : moR ρ w e j = if j = 8 then ρ 8 + 1 else if j = wI w 6 then ρ (wI w 6) + 1 else if j = wI w 1 then e % 16 else if j = wI w 0 then e / 16 else ρ j := rfl
theorem mo_lo {ρ : Nat → Nat} {w e j : Nat} (hj : j < 8) : moR ρ w e j = ρ j := by
  rw [mo_at, if_neg (by omega), if_neg (by unfold wI; omega), if_neg (by unfold wI; omega), if_neg (by unfold wI; omega)]
theorem gR_mo {ρ : Nat → Nat} {w e : Nat} {c : Nat} (hc : c < 256) : gR (moR ρ w e) c = gR ρ c := by
  show moR ρ w e (9 + c) = _
  rw [mo_at, if_neg (by omega), if_neg (by unfold wI; omega), if_neg (by unfold wI; omega), if_neg (by unfold wI; omega)]
  rfl
theorem mo_wf {ρ : Nat → Nat} {w e u f : Nat} (hf : f < 9) : moR ρ w e (wI u f) = if u = w ∧ f = 6 then ρ (wI w 6) + 1 else if u = w ∧ f = 1 then e % 16 else if u = w ∧ f = 0 then e / 16 else ρ (wI u f) := by
  rw [mo_at, if_neg (by unfold wI; omega)]
  by_cases e1 : u = w ∧ f = 6
  · rw [if_pos (by rw [e1.1, e1.2]), if_pos e1]
  · rw [if_neg (wI_ne hf (by omega) e1), if_neg e1]
    by_cases e2 : u = w ∧ f = 1
    · rw [if_pos (by rw [e2.1, e2.2]), if_pos e2]
    · rw [if_neg (wI_ne hf (by omega) e2), if_neg e2]
      by_cases e3 : u = w ∧ f = 0
      · rw [if_pos (by rw [e3.1, e3.2]), if_pos e3]
      · rw [if_neg (wI_ne hf (by omega) e3), if_neg e3]
theorem cw_mo {ρ : Nat → Nat} {w e : Nat} : cw (moR ρ w e) w = e := by
  unfold cw
  rw [mo_wf (by omega), mo_wf (by omega), if_neg (by omega), if_neg (by omega), if_pos ⟨rfl, rfl⟩, if_neg (by omega), if_pos ⟨rfl, rfl⟩]
  omega
theorem Good.mo {ρ : Nat → Nat} {w e : Nat} (h : Good ρ) (hw : w < ρ 2) (he1 : e / 16 < ρ 0) (he2 : e % 16 < ρ 1) : Good (moR ρ w e) := by
  obtain ⟨hB, g2, g3, g4, g5, g6, g7, g8⟩ := h
  obtain ⟨b1, b2, b3, b4⟩ := hB
  refine ⟨⟨?_, ?_, fun c hc2 => ?_, fun c hc2 hcc => ?_⟩, ?_, ?_, ?_, ?_, fun u hu => ?_, fun t ht => ?_, ?_⟩
  · rw [mo_lo (by omega)]; exact b1
  · rw [mo_lo (by omega)]; exact b2
  · rw [gR_mo hc2]; exact b3 c hc2
  · rw [mo_lo (by omega), mo_lo (by omega)] at hcc
    rw [gR_mo hc2]; exact b4 c hc2 hcc
  · rw [mo_lo (by omega)]; exact g2
  · rw [mo_lo (by omega)]; exact g3
  · rw [mo_lo (by omega), mo_lo (by omega)]; exact g4
  · rw [mo_lo (by omega)]; exact g5
  · rw [mo_lo (by omega)] at hu
    obtain ⟨w1, w2, w3, w4, w5, w6⟩ := g6 u hu
    unfold Wk
    rw [mo_lo (j := 0) (by omega), mo_lo (j := 1) (by omega), mo_wf (u := u) (f := 0) (by omega), mo_wf (u := u) (f := 1) (by omega), mo_wf (u := u) (f := 2) (by omega), mo_wf (u := u) (f := 3) (by omega), mo_wf (u := u) (f := 4) (by omega), mo_wf (u := u) (f := 5) (by omega)]
    simp only [show ¬ (0 : Nat) = 6 by omega, show ¬ (0 : Nat) = 1 by omega, show ¬ (1 : Nat) = 6 by omega, show ¬ (1 : Nat) = 0 by omega, show ¬ (2 : Nat) = 6 by omega, show ¬ (2 : Nat) = 1 by omega, show ¬ (2 : Nat) = 0 by omega, show ¬ (3 : Nat) = 6 by omega, show ¬ (3 : Nat) = 1 by omega, show ¬ (3 : Nat) = 0 by omega, show ¬ (4 : Nat) = 6 by omega, show ¬ (4 : Nat) = 1 by omega, show ¬ (4 : Nat) = 0 by omega, show ¬ (5 : Nat) = 6 by omega, show ¬ (5 : Nat) = 1 by omega, show ¬ (5 : Nat) = 0 by omega, and_false, if_false, and_true]
    refine ⟨?_, ?_, w3, w4, w5, w6⟩
    · by_cases e : u = w
      · rw [if_pos e]; exact he1
      · rw [if_neg e]; exact w1
    · by_cases e : u = w
      · rw [if_pos e]; exact he2
      · rw [if_neg e]; exact w2
  · rw [mo_lo (by omega)] at ht
    rw [mo_at, if_neg (by omega), if_neg (by unfold wI; omega), if_neg (by unfold wI; omega), if_neg (by unfold wI; omega)]
    exact g7 t ht
  · rw [mo_at, if_pos rfl, mo_lo (by omega), g8]
    refine (sm_add1 (f := fun u => ρ (wI u 6)) (f' := fun u => moR ρ w e (wI u 6)) (c := w) (v := 1) _ hw (fun u hu hne => ?_) ?_).symm
    · show moR ρ w e (wI u 6) = ρ (wI u 6)
      rw [mo_wf (by omega), if_neg (by omega), if_neg (by omega), if_neg (by omega)]
    · show moR ρ w e (wI w 6) = ρ (wI w 6) + 1
      rw [mo_wf (by omega), if_pos ⟨rfl, rfl⟩]
theorem Good.st {ρ : Nat → Nat} {k v : Nat} (h : Good ρ) (hk : k = 6 ∨ k = 7 ∨ (k = 4 ∧ v < ρ 3)) : Good (stR ρ k v) := by
  obtain ⟨hB, g2, g3, g4, g5, g6, g7, g8⟩ := h
  obtain ⟨b1, b2, b3, b4⟩ := hB
  have o : ∀ j, j ≠ k → stR ρ k v j = ρ j := fun j hj => stR_n hj
  refine ⟨⟨?_, ?_, fun c hc2 => ?_, fun c hc2 hcc => ?_⟩, ?_, ?_, ?_, ?_, fun u hu => ?_, fun t ht => ?_, ?_⟩
  · rw [o 0 (by omega)]; exact b1
  · rw [o 1 (by omega)]; exact b2
  · unfold gR; rw [o _ (by omega)]; exact b3 c hc2
  · rw [o 0 (by omega), o 1 (by omega)] at hcc
    unfold gR; rw [o _ (by omega)]; exact b4 c hc2 hcc
  · rw [o 2 (by omega)]; exact g2
  · rw [o 3 (by omega)]; exact g3
  · rw [o 3 (by omega)]
    by_cases e : k = 4
    · subst e
      rw [stR_s]
      omega
    · rw [o 4 (by omega)]; exact g4
  · rw [o 5 (by omega)]; exact g5
  · rw [o 2 (by omega)] at hu
    have w0 := g6 u hu
    unfold Wk at w0 ⊢
    rw [o 0 (by omega), o 1 (by omega), o (wI u 0) (by unfold wI; omega), o (wI u 1) (by unfold wI; omega), o (wI u 2) (by unfold wI; omega), o (wI u 3) (by unfold wI; omega), o (wI u 4) (by unfold wI; omega), o (wI u 5) (by unfold wI; omega)]
    exact w0
  · rw [o 3 (by omega)] at ht
    rw [o _ (by omega)]; exact g7 t ht
  · rw [o 8 (by omega), o 2 (by omega), g8]
    refine sm_congr _ (fun u hu => ?_)
    show ρ (wI u 6) = stR ρ k v (wI u 6)
    rw [o _ (by unfold wI; omega)]
theorem Good.di {ρ : Nat → Nat} {w v : Nat} (h : Good ρ) (hw : w < 8) (hv : v < 4) : Good (stR ρ (wI w 2) v) := by
  obtain ⟨hB, g2, g3, g4, g5, g6, g7, g8⟩ := h
  obtain ⟨b1, b2, b3, b4⟩ := hB
  have o : ∀ j, j < 265 → stR ρ (wI w 2) v j = ρ j := fun j hj => stR_n (by unfold wI; omega)
  have q : ∀ u f, f < 9 → f ≠ 2 → stR ρ (wI w 2) v (wI u f) = ρ (wI u f) := fun u f hf hne => stR_n (wI_ne hf (by omega) (by omega))
  refine ⟨⟨?_, ?_, fun c hc2 => ?_, fun c hc2 hcc => ?_⟩, ?_, ?_, ?_, ?_, fun u hu => ?_, fun t ht => ?_, ?_⟩
  · rw [o 0 (by omega)]; exact b1
  · rw [o 1 (by omega)]; exact b2
  · unfold gR; rw [o _ (by omega)]; exact b3 c hc2
  · rw [o 0 (by omega), o 1 (by omega)] at hcc
    unfold gR; rw [o _ (by omega)]; exact b4 c hc2 hcc
  · rw [o 2 (by omega)]; exact g2
  · rw [o 3 (by omega)]; exact g3
  · rw [o 3 (by omega), o 4 (by omega)]; exact g4
  · rw [o 5 (by omega)]; exact g5
  · rw [o 2 (by omega)] at hu
    have w0 := g6 u hu
    unfold Wk at w0 ⊢
    rw [o 0 (by omega), o 1 (by omega), q u 0 (by omega) (by omega), q u 1 (by omega) (by omega), q u 3 (by omega) (by omega), q u 4 (by omega) (by omega), q u 5 (by omega) (by omega)]
    refine ⟨w0.1, w0.2.1, ?_, w0.2.2.2⟩
    by_cases e : u = w
    · rw [e, stR_s]; exact hv
    · rw [stR_n (wI_ne (by omega) (by omega) (by omega))]; exact w0.2.2.1
  · rw [o 3 (by omega)] at ht
    rw [stR_n (by unfold wI; omega)]; exact g7 t ht
  · rw [o 8 (by omega), o 2 (by omega), g8]
    refine sm_congr _ (fun u hu => ?_)
    show ρ (wI u 6) = stR ρ (wI w 2) v (wI u 6)
    rw [q u 6 (by omega) (by omega)]
