/-! texts of few characters, read; plans of one order -/
set_option maxRecDepth 100000 in
theorem chN : ∀ n, n < 128 → c16 (nI n) = nI n ∧ bC (nI n) = true := by decide +kernel
theorem dgN {d : Nat} (h : d ≤ 9) : isDg (nI (48 + d)) ∧ dgV (nI (48 + d)) = d := by
  refine ⟨⟨fun z => by have := (ltN (b := 48) (by omega) (by omega)).mp z; omega, fun z => by have := (ltN (a := 57) (by omega) (by omega)).mp z; omega⟩, ?_⟩
  unfold dgV
  rw [show nI (48 + d) - 48 = nI (48 + d - 48) from pk_sub (b := 48) (by omega), tnN (by omega)]
  omega
theorem rd_st {W n p : Nat} {tx : Nat → Int32} {s t : RdS} (h : rd1 W s (tx p) = some t) : rdN W tx (n + 1) p s = rdN W tx n (p + 1) t := by
  show (match rd1 W s (tx p) with | none => _ | some t => _) = _
  rw [h]
theorem rd_no {W n p : Nat} {tx : Nat → Int32} {s : RdS} (h : rd1 W s (tx p) = none) : rdN W tx (n + 1) p s = .inl p := by
  show (match rd1 W s (tx p) with | none => _ | some t => _) = _
  rw [h]
theorem rd_let {W : Nat} {s : RdS} {x : Int32} (hd : s.2.1 = false) (hx : LTR W x) : rd1 W s x = some (s.1 + 1, decide (x = 35), (fun j => if j = s.1 then x else s.2.2.1 j), fun j => if j = s.1 then 0 else s.2.2.2 j) := by
  unfold rd1
  rw [if_neg (by rw [hd]; decide), if_neg (LT_nd hx), if_pos hx]
theorem rd_w {W d : Nat} {s : RdS} (hd : s.2.1 = true) (h9 : d ≤ 9) (hw : d < W) : rd1 W s (nI (48 + d)) = some (s.1, false, s.2.2.1, fun j => if j + 1 = s.1 then d else s.2.2.2 j) := by
  unfold rd1
  rw [if_pos hd, (dgN h9).2, if_pos ⟨(dgN h9).1, hw⟩]
theorem rd_wn {W d : Nat} {s : RdS} (hd : s.2.1 = true) (h9 : d ≤ 9) (hw : ¬ d < W) : rd1 W s (nI (48 + d)) = none := by
  unfold rd1
  rw [if_pos hd, (dgN h9).2, if_neg (fun z => hw z.2)]
/-- two orders read: the walker w, and L with the number N -/
def St2 (s : RdS) (w : Nat) (L : Int32) (N : Nat) : Prop := s.1 = 2 ∧ s.2.1 = false ∧ s.2.2.1 0 = 35 ∧ s.2.2.2 0 = w ∧ s.2.2.1 1 = L ∧ s.2.2.2 1 = N
theorem rd_d {W d w N : Nat} {L : Int32} {s : RdS} (h : St2 s w L N) (hL : L ≠ 35) (h9 : d ≤ 9) (h1 : 1 ≤ N * 10 + d) (h2 : N * 10 + d ≤ 50) : ∃ t, rd1 W s (nI (48 + d)) = some t ∧ St2 t w L (N * 10 + d) := by
  obtain ⟨a1, a2, a3, a4, a5, a6⟩ := h
  refine ⟨(s.1, false, s.2.2.1, fun j => if j + 1 = s.1 then s.2.2.2 (s.1 - 1) * 10 + d else s.2.2.2 j), ?_, ⟨a1, rfl, a3, ?_, a5, ?_⟩⟩
  · unfold rd1
    rw [if_neg (by rw [a2]; decide), if_pos (dgN h9).1, (dgN h9).2, if_pos (by rw [a1]; exact ⟨by omega, by rw [show 2 - 1 = 1 from rfl, a5]; exact hL, by rw [show 2 - 1 = 1 from rfl, a6]; exact h1, by rw [show 2 - 1 = 1 from rfl, a6]; exact h2⟩)]
  · show (if 0 + 1 = s.1 then _ else s.2.2.2 0) = w
    rw [if_neg (by omega), a4]
  · show (if 1 + 1 = s.1 then s.2.2.2 (s.1 - 1) * 10 + d else _) = _
    rw [if_pos (by omega), a1, show 2 - 1 = 1 from rfl, a6]
theorem rd_dn {W d w N : Nat} {L : Int32} {s : RdS} (h : St2 s w L N) (h9 : d ≤ 9) (h2 : 50 < N * 10 + d) : rd1 W s (nI (48 + d)) = none := by
  obtain ⟨a1, a2, a3, a4, a5, a6⟩ := h
  unfold rd1
  rw [if_neg (by rw [a2]; decide), if_pos (dgN h9).1, (dgN h9).2, if_neg (fun z => by have := z.2.2.2; rw [a1, show 2 - 1 = 1 from rfl, a6] at this; omega)]
theorem rd_head {W w : Nat} {tx : Nat → Int32} {L : Int32} (h9 : w ≤ 9) (hw : w < W) (t0 : tx 0 = 35) (t1 : tx 1 = nI (48 + w)) (t2 : tx 2 = L) (hL : LTR W L) (hn : L ≠ 35) : ∃ s, St2 s w L 0 ∧ ∀ n, rdN W tx (n + 3) 0 rd0 = rdN W tx n 3 s := by
  have e1 : rd1 W rd0 (tx 0) = some (1, true, (fun j => if j = 0 then 35 else 0), fun j => if j = 0 then 0 else 0) := by
    rw [t0]
    exact rd_let (x := 35) rfl (Or.inr (Or.inl rfl))
  have e2 : rd1 W (1, true, (fun j => if j = 0 then 35 else 0), fun j => if j = 0 then 0 else 0) (tx 1) = some (1, false, (fun j => if j = 0 then 35 else 0), fun j => if j + 1 = 1 then w else if j = 0 then 0 else 0) := by
    rw [t1]
    exact rd_w rfl h9 hw
  have e3 := rd_let (W := W) (s := (1, false, (fun j => if j = 0 then (35 : Int32) else 0), fun j => if j + 1 = 1 then w else if j = 0 then 0 else 0)) (x := L) rfl hL
  rw [← t2] at e3
  refine ⟨_, ⟨rfl, ?_, rfl, rfl, ?_, rfl⟩, fun n => by rw [rd_st e1, rd_st e2, rd_st e3]⟩
  · show decide (tx 2 = 35) = false
    rw [t2]
    simp [hn]
  · show (if 1 = 1 then tx 2 else if 1 = 0 then 35 else 0) = L
    rw [if_pos rfl, t2]
theorem rdT_ok {W n : Nat} {tx : Nat → Int32} {s : RdS} {w N : Nat} {L : Int32} (h : rdN W tx (n + 1) 0 rd0 = .inr s) (hs : St2 s w L N) : rdT W (n + 1) tx = .inr s := by
  unfold rdT
  rw [h]
  show (if n + 1 = 0 ∨ s.2.1 = true then _ else _) = _
  rw [if_neg (fun z => by rw [hs.2.1] at z; rcases z with z | z <;> cases z)]
theorem rdT_no {W n p : Nat} {tx : Nat → Int32} (h : rdN W tx n 0 rd0 = .inl p) : rdT W n tx = .inl p := by
  unfold rdT
  rw [h]
theorem rdT0 {W : Nat} {tx : Nat → Int32} : rdT W 0 tx = .inl 0 := by
  unfold rdT
  show (if 0 = 0 ∨ rd0.2.1 = true then _ else _) = _
  rw [if_pos (Or.inl rfl)]
theorem rdT1 {W : Nat} {tx : Nat → Int32} (t0 : tx 0 = 35) : rdT W 1 tx = .inl 1 := by
  have e1 : rd1 W rd0 (tx 0) = some (1, true, (fun j => if j = 0 then 35 else 0), fun j => if j = 0 then 0 else 0) := by
    rw [t0]
    exact rd_let (x := 35) rfl (Or.inr (Or.inl rfl))
  unfold rdT
  rw [rd_st e1]
  show (if 1 = 0 ∨ true = true then _ else _) = _
  rw [if_pos (Or.inr rfl)]
theorem rdT2 {W w : Nat} {tx : Nat → Int32} (t0 : tx 0 = 35) (t1 : tx 1 = nI (48 + w)) (h9 : w ≤ 9) (hw : ¬ w < W) : rdT W 2 tx = .inl 1 := by
  have e1 : rd1 W rd0 (tx 0) = some (1, true, (fun j => if j = 0 then 35 else 0), fun j => if j = 0 then 0 else 0) := by
    rw [t0]
    exact rd_let (x := 35) rfl (Or.inr (Or.inl rfl))
  have e2 : rd1 W (1, true, (fun j => if j = 0 then (35 : Int32) else 0), fun j => if j = 0 then 0 else 0) (tx 1) = none := by
    rw [t1]
    exact rd_wn rfl h9 hw
  exact rdT_no (by rw [rd_st e1, rd_no e2])
theorem run_no {A : AbS} {p : Nat} (h : rdT (A.1 2) A.2.2.2.1 A.2.2.2.2 = .inl p) : aRun A = (-100 - nI p, A) := by
  unfold aRun
  rw [h]
theorem run_ok {A : AbS} {s : RdS} {w N : Nat} {L : Int32} (h : rdT (A.1 2) A.2.2.2.1 A.2.2.2.2 = .inr s) (hs : St2 s w L N) (hL : L ≠ 35) (hr : L ≠ 114) (hw : w < A.1 2) : aRun A = (nI (sm (fun u => obR A.1 w L (max N 1) (wI u 6)) (A.1 2)) - nI (sm (fun u => A.1 (wI u 6)) (A.1 2)), neA A (obR A.1 w L (max N 1))) := by
  obtain ⟨a1, a2, a3, a4, a5, a6⟩ := hs
  have e : exN s.2.2.1 s.2.2.2 s.1 0 0 A.1 = obR A.1 w L (max N 1) := by
    rw [a1]
    show (if s.2.2.1 0 = 35 then (if s.2.2.1 (0 + 1) = 35 then _ else if s.2.2.1 (0 + 1) = 114 then _ else (if s.2.2.2 0 < A.1 2 then obR A.1 (s.2.2.2 0) (s.2.2.1 (0 + 1)) (max (s.2.2.2 (0 + 1)) 1) else A.1)) else _) = _
    rw [if_pos a3, show 0 + 1 = 1 from rfl, a5, if_neg hL, if_neg hr, a4, if_pos hw, a6]
  unfold aRun
  rw [h]
  simp only []
  rw [e]
theorem ty_sp {A : AbS} {n : Nat} {tx : Nat → Int32} (hn : n < 40) (x : Int32) : aType (txA A n tx) x = (nI (n + 1), txA A (n + 1) (fun j => if j = n then x else tx j)) := if_pos hn
theorem cl_sp {A : AbS} : aClearText A = (nI A.2.2.2.1, txA A 0 A.2.2.2.2) := rfl
theorem Kp.tx {A : AbS} {n : Nat} {tx : Nat → Int32} (hG : GI A) (hP : PA A) (hn : n ≤ 40) (ht : ∀ j, j < n → bC (tx j) = true) : Kp A (txA A n tx) := ⟨⟨hG.1, hG.2.1, hG.2.2.1, hn, ht⟩, hP, fun _ _ _ => rfl⟩
/-! steps of a plan -/
def lfR (ρ : Nat → Nat) (w d : Nat) : Nat := if d = 0 then ρ (wI w 0) else if d = 1 then ρ 1 - 1 - ρ (wI w 1) else if d = 2 then ρ 0 - 1 - ρ (wI w 0) else ρ (wI w 1)
theorem go_is {ρ : Nat → Nat} {w d : Nat} (hG : Good ρ) (hw : w < ρ 2) (hd : d < 4) (hf : Fre ρ (cw ρ w) d) :
    Good (goR (stR ρ (wI w 2) d) w) ∧ goR (stR ρ (wI w 2) d) w (wI w 0) = nbr (cw ρ w) d / 16 ∧ goR (stR ρ (wI w 2) d) w (wI w 1) = nbr (cw ρ w) d % 16 ∧ goR (stR ρ (wI w 2) d) w (wI w 2) = d ∧ goR (stR ρ (wI w 2) d) w (wI w 6) = ρ (wI w 6) + 1 ∧ (∀ u, u ≠ w → goR (stR ρ (wI w 2) d) w (wI u 6) = ρ (wI u 6)) ∧ ∀ j, j < 6 → goR (stR ρ (wI w 2) d) w j = ρ j := by
  have hw8 : w < 8 := by have := hG.2.1; omega
  have hGd := hG.di (v := d) hw8 hd
  have hf' : Fre (stR ρ (wI w 2) d) (cw (stR ρ (wI w 2) d) w) (stR ρ (wI w 2) d (wI w 2)) := by
    rw [cw_di, stR_s, fre_st (by unfold wI; omega) (by unfold wI; omega)]; exact hf
  have hwd : w < stR ρ (wI w 2) d 2 := by rw [stR_n (by unfold wI; omega)]; exact hw
  have hGt := hGd.mo hwd hf'.2.1 hf'.2.2
  have e0 : goR (stR ρ (wI w 2) d) w = mgR (stR ρ (wI w 2) d) (actR (moR (stR ρ (wI w 2) d) w (nbr (cw ρ w) d)) w) := by
    unfold goR
    rw [cw_di, stR_s]
  rw [cw_di, stR_s] at hGt
  have hwt : w < moR (stR ρ (wI w 2) d) w (nbr (cw ρ w) d) 2 := by rw [mo_lo (by omega)]; exact hwd
  have hct := cw256 hGt hwt
  have k : ∀ u f, f < 9 → f ≠ 3 → f ≠ 7 → f ≠ 8 → goR (stR ρ (wI w 2) d) w (wI u f) = moR (stR ρ (wI w 2) d) w (nbr (cw ρ w) d) (wI u f) := by
    intro u f hf h3 h7 h8
    rw [e0, mg_lo (by unfold wI; omega) (by unfold wI; omega)]
    obtain ⟨n, ⟨e, -, -⟩ | ⟨e, -, -⟩⟩ := actR_is hGt hwt
    · rw [e, pk_wf hf hct, if_neg (by omega), if_neg (by omega)]
    · rw [e, dr_wf hf hct, if_neg (by omega), if_neg (by omega)]
  refine ⟨hGd.go hwd hf', ?_, ?_, ?_, ?_, fun u hu => ?_, fun j hj => ?_⟩
  · rw [k w 0 (by omega) (by omega) (by omega) (by omega), mo_wf (by omega), if_neg (by omega), if_neg (by omega), if_pos (by omega)]
  · rw [k w 1 (by omega) (by omega) (by omega) (by omega), mo_wf (by omega), if_neg (by omega), if_pos (by omega)]
  · rw [k w 2 (by omega) (by omega) (by omega) (by omega), mo_wf (by omega), if_neg (by omega), if_neg (by omega), if_neg (by omega), stR_s]
  · rw [k w 6 (by omega) (by omega) (by omega) (by omega), mo_wf (by omega), if_pos (by omega), stR_n (wI_ne (by omega) (by omega) (by omega))]
  · rw [k u 6 (by omega) (by omega) (by omega) (by omega), mo_wf (by omega), if_neg (by omega), if_neg (by omega), if_neg (by omega), stR_n (wI_ne (by omega) (by omega) (by omega))]
  · rw [go_lo hGd hwd hf' hj, stR_n (by unfold wI; omega)]
theorem gos_sp {w d : Nat} (hw8 : w < 8) (hd : d < 4) : ∀ (n : Nat) (ρ : Nat → Nat), Good ρ → w < ρ 2 →
    gosR w d n ρ (wI w 0) = (if d = 2 then ρ (wI w 0) + min n (lfR ρ w d) else if d = 0 then ρ (wI w 0) - min n (lfR ρ w d) else ρ (wI w 0)) ∧ gosR w d n ρ (wI w 1) = (if d = 1 then ρ (wI w 1) + min n (lfR ρ w d) else if d = 3 then ρ (wI w 1) - min n (lfR ρ w d) else ρ (wI w 1)) ∧
    gosR w d n ρ (wI w 2) = (if 0 < min n (lfR ρ w d) then d else ρ (wI w 2)) ∧ gosR w d n ρ (wI w 6) = ρ (wI w 6) + min n (lfR ρ w d) ∧ (∀ u, u ≠ w → gosR w d n ρ (wI u 6) = ρ (wI u 6)) ∧ ∀ j, j < 6 → gosR w d n ρ j = ρ j
  | 0, ρ, hG, hw => by
    rw [Nat.zero_min]
    refine ⟨?_, ?_, rfl, rfl, fun _ _ => rfl, fun _ _ => rfl⟩
    · show ρ (wI w 0) = _
      split
      · rfl
      · split <;> rfl
    · show ρ (wI w 1) = _
      split
      · rfl
      · split <;> rfl
  | n + 1, ρ, hG, hw => by
    obtain ⟨hc, hcr, hcc, hr1, hr2⟩ := (hG.2.2.2.2.2.1 w hw).cell hG.1
    have f0 := fre0 hr1 hr2 hG.1.1.2
    have f1 := fre1 hr1 hr2 hG.1.1.2 hG.1.2.1.2
    have f2 := fre2 hr1 hr2 hG.1.1.2
    have f3 := fre3 hr1 hr2 hG.1.1.2
    have hd' : d = 0 ∨ d = 1 ∨ d = 2 ∨ d = 3 := by omega
    rw [hcr] at f0 f2 hr1
    rw [hcc] at f1 f3 hr2
    unfold gosR
    by_cases q : Fre ρ (cw ρ w) d
    · rw [if_pos q]
      obtain ⟨g1, g2, g3, g4, g5, g6, g7⟩ := go_is hG hw hd q
      obtain ⟨a1, a2, a3, a4, a5, a6⟩ := gos_sp hw8 hd n (goR (stR ρ (wI w 2) d) w) g1 (by rw [g7 2 (by omega)]; exact hw)
      -- what is left ahead
      have hl : lfR (goR (stR ρ (wI w 2) d) w) w d + 1 = lfR ρ w d ∧ (d = 0 → nbr (cw ρ w) d / 16 = ρ (wI w 0) - 1 ∧ nbr (cw ρ w) d % 16 = ρ (wI w 1) ∧ 1 ≤ ρ (wI w 0)) ∧ (d = 1 → nbr (cw ρ w) d / 16 = ρ (wI w 0) ∧ nbr (cw ρ w) d % 16 = ρ (wI w 1) + 1) ∧ (d = 2 → nbr (cw ρ w) d / 16 = ρ (wI w 0) + 1 ∧ nbr (cw ρ w) d % 16 = ρ (wI w 1)) ∧ (d = 3 → nbr (cw ρ w) d / 16 = ρ (wI w 0) ∧ nbr (cw ρ w) d % 16 = ρ (wI w 1) - 1 ∧ 1 ≤ ρ (wI w 1)) := by
        unfold lfR
        rw [g2, g3, g7 0 (by omega), g7 1 (by omega)]
        rcases hd' with e | e | e | e <;> subst e
        · have h1 := f0.1.mp q
          obtain ⟨h2, h3⟩ := f0.2 h1
          rw [hcc] at h3
          rw [if_pos rfl, if_pos rfl]
          exact ⟨by omega, fun _ => ⟨h2, h3, h1⟩, fun z => by omega, fun z => by omega, fun z => by omega⟩
        · have h1 := f1.1.mp q
          obtain ⟨h2, h3⟩ := f1.2 h1
          rw [hcr] at h2
          rw [if_neg (by omega), if_pos rfl, if_neg (by omega), if_pos rfl]
          exact ⟨by omega, fun z => by omega, fun _ => ⟨h2, h3⟩, fun z => by omega, fun z => by omega⟩
        · have h1 := f2.1.mp q
          obtain ⟨h2, h3⟩ := f2.2 h1
          rw [hcc] at h3
          rw [if_neg (by omega), if_neg (by omega), if_pos rfl, if_neg (by omega), if_neg (by omega), if_pos rfl]
          exact ⟨by omega, fun z => by omega, fun z => by omega, fun _ => ⟨h2, h3⟩, fun z => by omega⟩
        · have h1 := f3.1.mp q
          obtain ⟨h2, h3⟩ := f3.2 h1
          rw [hcr] at h2
          rw [if_neg (by omega), if_neg (by omega), if_neg (by omega), if_neg (by omega), if_neg (by omega), if_neg (by omega)]
          exact ⟨by omega, fun z => by omega, fun z => by omega, fun z => by omega, fun _ => ⟨h2, h3, h1⟩⟩
      obtain ⟨l1, l2, l3, l4, l5⟩ := hl
      have m1 : min (n + 1) (lfR ρ w d) = min n (lfR (goR (stR ρ (wI w 2) d) w) w d) + 1 := by omega
      have ml : min n (lfR (goR (stR ρ (wI w 2) d) w) w d) ≤ lfR (goR (stR ρ (wI w 2) d) w) w d := Nat.min_le_right _ _
      generalize hM : min n (lfR (goR (stR ρ (wI w 2) d) w) w d) = M at *
      rw [m1, a1, a2, a3, a4, g2, g3, g4, g5]
      refine ⟨?_, ?_, ?_, by omega, fun u hu => by rw [a5 u hu, g6 u hu], fun j hj => by rw [a6 j hj, g7 j hj]⟩
      · rcases hd' with e | e | e | e <;> subst e
        · obtain ⟨y1, y2, y3⟩ := l2 rfl
          rw [if_neg (by omega), if_pos rfl, if_neg (by omega), if_pos rfl, y1]; omega
        · rw [if_neg (by omega), if_neg (by omega), if_neg (by omega), if_neg (by omega)]; exact (l3 rfl).1
        · rw [if_pos rfl, if_pos rfl, (l4 rfl).1]; omega
        · rw [if_neg (by omega), if_neg (by omega), if_neg (by omega), if_neg (by omega)]; exact (l5 rfl).1
      · rcases hd' with e | e | e | e <;> subst e
        · rw [if_neg (by omega), if_neg (by omega), if_neg (by omega), if_neg (by omega)]; exact (l2 rfl).2.1
        · rw [if_pos rfl, if_pos rfl, (l3 rfl).2]; omega
        · rw [if_neg (by omega), if_neg (by omega), if_neg (by omega), if_neg (by omega)]; exact (l4 rfl).2
        · obtain ⟨y1, y2, y3⟩ := l5 rfl
          rw [if_neg (by omega), if_pos rfl, if_neg (by omega), if_pos rfl, y2]; omega
      · rw [if_pos (show 0 < M + 1 by omega)]
        split <;> rfl
    · rw [if_neg q]
      have hl : lfR ρ w d = 0 := by
        unfold lfR
        rcases hd' with e | e | e | e <;> subst e
        · rw [if_pos rfl]
          by_cases z : ρ (wI w 0) = 0
          · exact z
          · exact absurd (f0.1.mpr (by omega)) q
        · rw [if_neg (by omega), if_pos rfl]
          by_cases z : ρ (wI w 1) + 1 < ρ 1
          · exact absurd (f1.1.mpr z) q
          · omega
        · rw [if_neg (by omega), if_neg (by omega), if_pos rfl]
          by_cases z : ρ (wI w 0) + 1 < ρ 0
          · exact absurd (f2.1.mpr z) q
          · omega
        · rw [if_neg (by omega), if_neg (by omega), if_neg (by omega)]
          by_cases z : ρ (wI w 1) = 0
          · exact z
          · exact absurd (f3.1.mpr (by omega)) q
      rw [hl, Nat.min_zero]
      refine ⟨?_, ?_, rfl, rfl, fun _ _ => rfl, fun _ _ => rfl⟩
      · split
        · rfl
        · split <;> rfl
      · split
        · rfl
        · split <;> rfl
theorem gos_sum {ρ : Nat → Nat} {w d n : Nat} (hd : d < 4) (hG : Good ρ) (hw : w < ρ 2) : sm (fun u => gosR w d n ρ (wI u 6)) (ρ 2) = sm (fun u => ρ (wI u 6)) (ρ 2) + min n (lfR ρ w d) := by
  obtain ⟨-, -, -, a4, a5, -⟩ := gos_sp (by have := hG.2.1; omega) hd n ρ hG hw
  exact sm_add1 (c := w) (v := min n (lfR ρ w d)) (ρ 2) hw (fun i _ hi => a5 i hi) a4
theorem pk_sum {ρ : Nat → Nat} {w n : Nat} (hG : Good ρ) (hw : w < ρ 2) : sm (fun u => pkR ρ w n (wI u 6)) (ρ 2) = sm (fun u => ρ (wI u 6)) (ρ 2) := sm_congr _ (fun u _ => by rw [pk_wf (by omega) (cw256 hG hw), if_neg (by omega), if_neg (by omega)])
theorem dr_sum {ρ : Nat → Nat} {w n : Nat} (hG : Good ρ) (hw : w < ρ 2) : sm (fun u => drR ρ w n (wI u 6)) (ρ 2) = sm (fun u => ρ (wI u 6)) (ρ 2) := sm_congr _ (fun u _ => by rw [dr_wf (by omega) (cw256 hG hw), if_neg (by omega), if_neg (by omega)])
