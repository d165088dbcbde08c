/-! a pocket is what was picked up less what was dropped -/
def Pk (ρ : Nat → Nat) : Prop := ∀ w, w < ρ 2 → ρ (wI w 3) + ρ (wI w 8) = ρ (wI w 7)
theorem Pk.cg {ρ σ : Nat → Nat} (h : Pk ρ) (h2 : σ 2 = ρ 2) (hf : ∀ w, w < ρ 2 → σ (wI w 3) = ρ (wI w 3) ∧ σ (wI w 7) = ρ (wI w 7) ∧ σ (wI w 8) = ρ (wI w 8)) : Pk σ := fun w hw => by
  rw [h2] at hw
  obtain ⟨a, b, c⟩ := hf w hw
  rw [a, b, c]
  exact h w hw
theorem Pk.st {ρ : Nat → Nat} {k v : Nat} (h : Pk ρ) (h2 : k ≠ 2) (hk : ∀ w, k ≠ wI w 3 ∧ k ≠ wI w 7 ∧ k ≠ wI w 8) : Pk (stR ρ k v) := h.cg (stR_n (fun e => h2 e.symm)) (fun w _ => ⟨stR_n (fun e => (hk w).1 e.symm), stR_n (fun e => (hk w).2.1 e.symm), stR_n (fun e => (hk w).2.2 e.symm)⟩)
theorem Pk.lo {ρ : Nat → Nat} {k v : Nat} (h : Pk ρ) (h2 : k ≠ 2) (hk : k < 265) : Pk (stR ρ k v) := h.st h2 (fun w => by unfold wI; omega)
theorem Pk.fl {ρ : Nat → Nat} {u f v : Nat} (h : Pk ρ) (hf : f < 9) (h3 : f ≠ 3) (h7 : f ≠ 7) (h8 : f ≠ 8) : Pk (stR ρ (wI u f) v) := h.st (by unfold wI; omega) (fun w => by unfold wI; omega)
theorem Pk.pk {ρ : Nat → Nat} {w n : Nat} (h : Pk ρ) (hc : cw ρ w < 256) : Pk (pkR ρ w n) := fun u hu => by
  rw [pk_lo (by omega)] at hu
  rw [pk_wf (by omega) hc, pk_wf (by omega) hc, pk_wf (by omega) hc]
  have := h u hu
  by_cases e : u = w
  · subst e
    rw [if_neg (by omega), if_pos (by omega), if_neg (by omega), if_neg (by omega), if_pos (by omega)]
    omega
  · rw [if_neg (by omega), if_neg (by omega), if_neg (by omega), if_neg (by omega), if_neg (by omega), if_neg (by omega)]
    exact this
theorem Pk.dr {ρ : Nat → Nat} {w n : Nat} (h : Pk ρ) (hc : cw ρ w < 256) (hn : n ≤ ρ (wI w 3)) : Pk (drR ρ w n) := fun u hu => by
  rw [dr_lo (by omega)] at hu
  rw [dr_wf (by omega) hc, dr_wf (by omega) hc, dr_wf (by omega) hc]
  have := h u hu
  by_cases e : u = w
  · subst e
    rw [if_neg (by omega), if_pos (by omega), if_pos (by omega), if_neg (by omega), if_neg (by omega)]
    omega
  · rw [if_neg (by omega), if_neg (by omega), if_neg (by omega), if_neg (by omega), if_neg (by omega), if_neg (by omega)]
    exact this
theorem cw256 {ρ : Nat → Nat} {w : Nat} (h : Good ρ) (hw : w < ρ 2) : cw ρ w < 256 := ((h.2.2.2.2.2.1 w hw).cell h.1).1
theorem Pk.act {ρ : Nat → Nat} {w : Nat} (h : Pk ρ) (hG : Good ρ) (hw : w < ρ 2) : Pk (actR ρ w) := by
  obtain ⟨n, ⟨e, h1, h2⟩ | ⟨e, h1, h2⟩⟩ := actR_is hG hw
  · rw [e]; exact h.pk (cw256 hG hw)
  · rw [e]; exact h.dr (cw256 hG hw) h2
theorem Pk.mo {ρ : Nat → Nat} {w e : Nat} (h : Pk ρ) : Pk (moR ρ w e) := h.cg (mo_lo (by omega)) (fun u _ => by
  rw [mo_wf (by omega), mo_wf (by omega), mo_wf (by omega), if_neg (by omega), if_neg (by omega), if_neg (by omega), if_neg (by omega), if_neg (by omega), if_neg (by omega), if_neg (by omega), if_neg (by omega), if_neg (by omega)]
  exact ⟨rfl, rfl, rfl⟩)
theorem Pk.go {ρ : Nat → Nat} {w : Nat} (h : Pk ρ) (hG : Good ρ) (hw : w < ρ 2) (hf : Fre ρ (cw ρ w) (ρ (wI w 2))) : Pk (goR ρ w) := by
  have h1 := hG.mo hw hf.2.1 hf.2.2
  have h2 := (h.mo (w := w) (e := nbr (cw ρ w) (ρ (wI w 2)))).act h1 (by rw [mo_lo (by omega)]; exact hw)
  exact (h2.lo (by omega) (by omega)).lo (by omega) (by omega)
theorem Pk.rot {ρ : Nat → Nat} {w : Nat} (h : Pk ρ) : Pk (rotR ρ w) := (h.lo (by omega) (by omega)).fl (by omega) (by omega) (by omega) (by omega)
theorem rot_2 {ρ : Nat → Nat} {w : Nat} : rotR ρ w 2 = ρ 2 := rot_lo (by omega) (by omega)
theorem Pk.step {ρ : Nat → Nat} {w : Nat} (h : Pk ρ) (hG : Good ρ) (hw : w < ρ 2) : Pk (stepR ρ w) := h.rot.go (hG.rot hw).1 (by rw [rot_2]; exact hw) (hG.rot hw).2
theorem Pk.stps {ρ : Nat → Nat} {w : Nat} (h : Pk ρ) (hG : Good ρ) (hw : w < ρ 2) : ∀ k, Pk (stps ρ w k)
  | 0 => h
  | k + 1 => by
    have g := stps_g hG hw k
    exact (Pk.stps h hG hw k).step g.1 (by rw [g.2 2 (by omega) (by omega)]; exact hw)
theorem Pk.rn {ρ : Nat → Nat} (h : Pk ρ) (hG : Good ρ) : ∀ k, k ≤ ρ 2 → Pk (rnR ρ k)
  | 0, _ => h
  | k + 1, hk => by
    have g := rn_g hG k (by omega)
    exact (Pk.rn h hG k (by omega)).step g.1 (by rw [g.2 2 (by omega) (by omega)]; omega)
theorem Pk.rds {ρ : Nat → Nat} (h : Pk ρ) (hG : Good ρ) : ∀ k, Pk (rds ρ k)
  | 0 => h
  | k + 1 => (Pk.rds h hG k).rn (rds_g hG k).1 _ (Nat.le_refl _)
theorem gos_g {ρ : Nat → Nat} {w d : Nat} (hw8 : w < 8) (hd : d < 4) : ∀ (n : Nat) (ρ : Nat → Nat), Good ρ → Pk ρ → w < ρ 2 → Good (gosR w d n ρ) ∧ Pk (gosR w d n ρ) ∧ ∀ j, j < 6 → gosR w d n ρ j = ρ j
  | 0, ρ, hG, hP, _ => ⟨hG, hP, fun _ _ => rfl⟩
  | n + 1, ρ, hG, hP, hw => by
    unfold gosR
    by_cases q : Fre ρ (cw ρ w) d
    · rw [if_pos q]
      have hGd := hG.di (v := d) hw8 hd
      have hPd : Pk (stR ρ (wI w 2) d) := hP.fl (by omega) (by omega) (by omega) (by omega)
      have hf' : Fre (stR ρ (wI w 2) d) (cw (stR ρ (wI w 2) d) w) (stR ρ (wI w 2) d (wI w 2)) := by
        rw [cw_di, stR_s, fre_st (by unfold wI; omega) (by unfold wI; omega)]; exact q
      have hwd : w < stR ρ (wI w 2) d 2 := by rw [stR_n (by unfold wI; omega)]; exact hw
      obtain ⟨a, b, c⟩ := gos_g (ρ := ρ) hw8 hd n (goR (stR ρ (wI w 2) d) w) (hGd.go hwd hf') (hPd.go hGd hwd hf') (by rw [go_lo hGd hwd hf' (by omega)]; exact hwd)
      exact ⟨a, b, fun j hj => by rw [c j hj, go_lo hGd hwd hf' hj, stR_n (by unfold wI; omega)]⟩
    · rw [if_neg q]
      exact ⟨hG, hP, fun _ _ => rfl⟩
theorem ob_g {ρ : Nat → Nat} {w m : Nat} {x : Int32} (hG : Good ρ) (hP : Pk ρ) (hw : w < ρ 2) : Good (obR ρ w x m) ∧ Pk (obR ρ w x m) ∧ ∀ j, j < 6 → obR ρ w x m j = ρ j := by
  have g2 := hG.2.1
  have hc := cw256 hG hw
  have hgc := hG.1.2.2.1 _ hc
  unfold obR
  split
  · exact ⟨hG.pk hw (by omega) (by omega), hP.pk hc, fun j hj => pk_lo (by omega)⟩
  · split
    · exact ⟨hG.dr hw (by omega) (by omega), hP.dr hc (by omega), fun j hj => dr_lo (by omega)⟩
    · refine gos_g (ρ := ρ) (by omega) ?_ m ρ hG hP hw
      unfold dirL
      split
      · omega
      · split
        · omega
        · split <;> omega
theorem ex_g {lt : Nat → Int32} {nu : Nat → Nat} : ∀ (n j w : Nat) (ρ : Nat → Nat), Good ρ → Pk ρ → Good (exN lt nu n j w ρ) ∧ Pk (exN lt nu n j w ρ) ∧ ∀ k, k < 6 → k ≠ 4 → exN lt nu n j w ρ k = ρ k
  | 0, _, _, ρ, hG, hP => ⟨hG, hP, fun _ _ _ => rfl⟩
  | n + 1, j, w, ρ, hG, hP => by
    unfold exN
    split
    · exact ex_g n (j + 1) (nu j) ρ hG hP
    · split
      · have g := rds_g hG (max (nu j) 1)
        obtain ⟨a, b, c⟩ := ex_g (lt := lt) (nu := nu) n (j + 1) w _ g.1 (hP.rds hG (max (nu j) 1))
        exact ⟨a, b, fun k hk h4 => by rw [c k hk h4, g.2 k hk h4]⟩
      · by_cases q : w < ρ 2
        · rw [if_pos q]
          obtain ⟨a1, b1, c1⟩ := ob_g (x := lt j) (m := max (nu j) 1) hG hP q
          obtain ⟨a, b, c⟩ := ex_g (lt := lt) (nu := nu) n (j + 1) w _ a1 b1
          exact ⟨a, b, fun k hk h4 => by rw [c k hk h4, c1 k hk]⟩
        · rw [if_neg q]
          exact ex_g n (j + 1) w ρ hG hP
/-- the account's rows, all of them -/
def PA (A : AbS) : Prop := Pk A.1 ∧ ∀ i, i < A.2.1.1 → Pk (A.2.1.2 i)
theorem PA.ne {A : AbS} (h : PA A) {ρ : Nat → Nat} (hr : Pk ρ) : PA (neA A ρ) := by
  obtain ⟨h1, h3⟩ := h
  refine ⟨hr, fun i hi => ?_⟩
  have hi' : i < neH A.2.1.1 := hi
  show Pk (neE A.1 A.2.1.1 A.2.1.2 i)
  unfold neH at hi'
  unfold neE
  by_cases q : A.2.1.1 < 5
  · rw [if_pos q] at hi' ⊢
    by_cases e : i = A.2.1.1
    · rw [if_pos e]; exact h1
    · rw [if_neg e]; exact h3 i (by omega)
  · rw [if_neg q] at hi' ⊢
    by_cases e : i = 4
    · rw [if_pos e]; exact h1
    · rw [if_neg e]; exact h3 _ (by omega)
theorem Pk.rs {ρ : Nat → Nat} {r c : Nat} : Pk (rsK ρ r c 256) := fun w hw => by
  have := (rs_v (ρ := ρ) (r := r) (c := c)).2.2.1
  omega
theorem Pk.aw {ρ : Nat → Nat} {r c d so cap : Nat} (h : Pk ρ) (hw : ρ 2 < 8) : Pk (awR ρ r c d so cap) := fun u hu => by
  have e2 : awR ρ r c d so cap 2 = ρ 2 + 1 := by rw [aw_at hw, if_pos rfl]
  rw [e2] at hu
  by_cases e : u = ρ 2
  · subst e
    rw [aw_w hw (by omega), aw_w hw (by omega), aw_w hw (by omega)]
    rfl
  · have := h u (by omega)
    rw [aw_o hw (by unfold wI; omega) (by unfold wI; omega), aw_o hw (by unfold wI; omega) (by unfold wI; omega), aw_o hw (by unfold wI; omega) (by unfold wI; omega)]
    exact this
theorem Pk.tu {ρ σ : Nat → Nat} (h : Pk ρ) (hρ : ∀ j, j < 337 → j ≠ 3 → j ≠ 4 → j ≠ 5 → σ j = ρ j) (g2 : ρ 2 ≤ 8) : Pk σ := h.cg (hρ 2 (by omega) (by omega) (by omega) (by omega)) (fun w hw => ⟨hρ _ (by unfold wI; omega) (by unfold wI; omega) (by unfold wI; omega) (by unfold wI; omega), hρ _ (by unfold wI; omega) (by unfold wI; omega) (by unfold wI; omega) (by unfold wI; omega), hρ _ (by unfold wI; omega) (by unfold wI; omega) (by unfold wI; omega) (by unfold wI; omega)⟩)
theorem Pk.al {ρ : Nat → Nat} {a b m : Nat} (h : Pk ρ) (hG : Good ρ) : Pk (alR ρ a b m (ρ 0)).1 := by
  obtain ⟨-, a2, a3, -⟩ := al_g (a := a) (b := b) (m := m) hG (ρ 0) (Nat.le_refl _)
  have b1 := hG.1.1.2
  exact h.cg (a2 2 (by omega)) (fun w _ => ⟨a3 _ (by unfold wI; omega), a3 _ (by unfold wI; omega), a3 _ (by unfold wI; omega)⟩)
theorem pa0 : PA A0 := ⟨fun w hw => by have : w < 0 := hw; omega, fun i hi => by have : i < 0 := hi; omega⟩
