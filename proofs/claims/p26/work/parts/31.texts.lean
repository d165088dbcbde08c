/-! the reading of the text, and the orders carried out, upon the account -/
theorem dg_v {x : Int32} (h : isDg x) : ∃ d, d ≤ 9 ∧ x = nI (48 + d) ∧ x - 48 = nI d := by
  obtain ⟨h1, h2⟩ := h
  rw [Int32.lt_iff_toInt_lt, show (48 : Int32).toInt = 48 from by decide] at h1
  rw [Int32.lt_iff_toInt_lt, show (57 : Int32).toInt = 57 from by decide] at h2
  obtain ⟨m, hm, rfl⟩ := nnI (x := x) (by omega)
  rw [nI_toInt hm] at h1 h2
  refine ⟨m - 48, by omega, by rw [show 48 + (m - 48) = m by omega], ?_⟩
  exact pk_sub (a := m) (b := 48) (by omega)
theorem LT_nd {W : Nat} {x : Int32} (h : LTR W x) : ¬ isDg x := by
  rcases h with e | e | ⟨-, e | e | e | e | e | e⟩ <;> subst e <;> decide
theorem takes_nd {K : II} {x v : Int32} (h : ¬ isDg x) : fX2_takes K x v = fX2_takes_J17 K x v 0 := by
  unfold fX2_takes fX2_takes_J16
  by_cases q : x < 48
  · rw [ifp q]
  · rw [ifn q, ifp (Classical.byContradiction fun z => h ⟨q, z⟩)]
theorem takes_dg {K : II} {x v : Int32} (h : isDg x) : fX2_takes K x v = fX2_takes_J17 K x v 1 := by
  unfold fX2_takes
  rw [ifn h.1, ifn h.2]
theorem takes_let {K : II} {x : Int32} {W oc : Nat} (h1 : K 88 4 = nI oc) (h2 : K 88 5 = 0) (hoc : oc < 40) (hx : bC x = true) (hL : LTR W x) (hO : fX2_isOrder x (nI W) = some 1) : fX2_takes K x (nI W) = some (1, up2 (up2 (up2 (up2 K 90 oc x) 91 oc 0) 88 4 (nI (oc + 1))) 88 5 (if x = 35 then 1 else 0)) := by
  rw [takes_nd (LT_nd hL)]
  unfold fX2_takes_J17 fX2_takesLetter
  rw [h2, jf0, jf0, hO, bd1, jf1, h1, ifn (show ¬ nI oc < (0 : Int32) from fun z => by have := (nI_ltI (b := 0) (by omega) (by omega)).mp z; omega), ifp (show nI oc < (40 : Int32) from (nI_ltI (b := 40) (by omega) (by omega)).mpr hoc), ckN hoc (by omega), ck_t hx, tnN (show oc < 2 ^ 31 by omega), bd1, up2_n (show (88 : Nat) ≠ 90 by omega), h1, ckN hoc (by omega), tnN (show oc < 2 ^ 31 by omega), bd1, up2_n (show (88 : Nat) ≠ 91 by omega), up2_n (show (88 : Nat) ≠ 90 by omega), h1, nI_1, bd1]
  by_cases q : x = 35
  · rw [ifn (fun z => z q), if_pos q, bd1, bd1, show bB 1 = true from rfl, ck_t rfl]
  · rw [ifp q, if_neg q, bd1, bd1, show bB 1 = true from rfl, ck_t rfl]
theorem takes_no {K : II} {x : Int32} {W : Nat} (h2 : K 88 5 = 0) (hd : ¬ isDg x) (hO : fX2_isOrder x (nI W) = some 0) : fX2_takes K x (nI W) = some (0, K) := by
  rw [takes_nd hd]
  unfold fX2_takes_J17 fX2_takesLetter
  rw [h2, jf0, jf0, hO, bd1, jf0, bd1, show bB 0 = true from rfl, ck_t rfl]
theorem takes_d {K : II} {x : Int32} {W oc N d : Nat} (h1 : K 88 4 = nI (oc + 1)) (h2 : K 88 5 = 0) (hoc : oc < 40) (hx : isDg x) (hd : x - 48 = nI d) (h9 : d ≤ 9) (hn : K 91 oc = nI N) (hN : N ≤ 50) : fX2_takes K x (nI W) = if K 90 oc ≠ 35 ∧ 1 ≤ N * 10 + d ∧ N * 10 + d ≤ 50 then some (1, up2 K 91 oc (nI (N * 10 + d))) else some (0, K) := by
  rw [takes_dg hx]
  unfold fX2_takes_J17 fX2_takesDigit
  rw [h2, jf0, jf1, h1, show nI (oc + 1) - 1 = nI oc from pk_sub (a := oc + 1) (b := 1) (by omega), ifn (show ¬ nI oc < (0 : Int32) from fun z => by have := (nI_ltI (b := 0) (by omega) (by omega)).mp z; omega), ifn (show ¬ (40 : Int32) ≤ nI oc from nle (a := 40) (by omega) (by omega) (by omega)), ckN hoc (by omega), ckN hoc (by omega), ckN hoc (by omega), tnN (show oc < 2 ^ 31 by omega), hd, hn, show (10 : Int32) = nI 10 from rfl, pk_mul, nI_add]
  by_cases q : K 90 oc = 35
  · rw [ifn (fun z => z q), if_neg (fun z => z.1 q), bd1, show bB 0 = true from rfl, ck_t rfl]
  · rw [ifp q]
    rcases rngX (nI (N * 10 + d)) 1 50 (by omega) (by omega) with ⟨m, m1, m2, m3, -, e⟩ | ⟨-, hno, e⟩
    · have : N * 10 + d = m := (nI_eq (by omega) (by omega)).mp m3
      rw [show fX8_isBetween (nI (N * 10 + d)) 1 50 = _ from e, bd1, if1, if_pos ⟨q, by omega, by omega⟩, bd1, bd1, show bB 1 = true from rfl, ck_t rfl]
    · rw [show fX8_isBetween (nI (N * 10 + d)) 1 50 = _ from e, bd1, if0, if_neg (fun z => hno _ z.2.2 z.2.1 rfl), bd1, show bB 0 = true from rfl, ck_t rfl]
theorem takes_d0 {K : II} {x : Int32} {W : Nat} (h1 : K 88 4 = nI 0) (h2 : K 88 5 = 0) (hx : isDg x) : fX2_takes K x (nI W) = some (0, K) := by
  rw [takes_dg hx]
  unfold fX2_takes_J17 fX2_takesDigit
  rw [h2, jf0, jf1, h1, ifp (by decide), bd1, show bB 0 = true from rfl, ck_t rfl]
theorem takes_w {K : II} {x : Int32} {W oc d : Nat} (h1 : K 88 4 = nI (oc + 1)) (h2 : K 88 5 = 1) (hoc : oc < 40) (hx : isDg x) (hd : x - 48 = nI d) (h9 : d ≤ 9) (h8 : W ≤ 8) : fX2_takes K x (nI W) = if d < W then some (1, up2 (up2 K 88 5 0) 91 oc (nI d)) else some (0, up2 K 88 5 0) := by
  rw [takes_dg hx]
  unfold fX2_takes_J17 fX2_takesWalker
  rw [h2, jf1, bd1, jf1, hd, up2_b (show (4 : Nat) ≠ 5 by omega), h1, show nI (oc + 1) - 1 = nI oc from pk_sub (a := oc + 1) (b := 1) (by omega)]
  by_cases q : d < W
  · rw [ifn (nle (by omega) (by omega) q), if_pos q, ifn (show ¬ nI oc < (0 : Int32) from fun z => by have := (nI_ltI (b := 0) (by omega) (by omega)).mp z; omega), ifp (show nI oc < (40 : Int32) from (nI_ltI (b := 40) (by omega) (by omega)).mpr hoc), ckN hoc (by omega), tnN (show oc < 2 ^ 31 by omega), bd1, bd1, jf1]
  · rw [ifp (yle (by omega) (by omega) (by omega)), if_neg q, bd1, jf0]
theorem takes_wn {K : II} {x : Int32} {W : Nat} (h2 : K 88 5 = 1) (hx : ¬ isDg x) : fX2_takes K x (nI W) = some (0, up2 K 88 5 0) := by
  rw [takes_nd hx]
  unfold fX2_takes_J17
  rw [h2, jf1, bd1, jf0]
def FP (I I' : II) : Prop := (∀ a, a ≠ 88 → a ≠ 90 → a ≠ 91 → I' a = I a) ∧ ∀ j, j ≠ 4 → j ≠ 5 → I' 88 j = I 88 j
theorem FP.tr {I J K : II} (h1 : FP I J) (h2 : FP J K) : FP I K := ⟨fun a ha hb hc => (h2.1 a ha hb hc).trans (h1.1 a ha hb hc), fun j hj hk => (h2.2 j hj hk).trans (h1.2 j hj hk)⟩
theorem FP.rf {I : II} : FP I I := ⟨fun _ _ _ _ => rfl, fun _ _ _ => rfl⟩
theorem FP.a90 {I : II} {k : Nat} {v : Int32} : FP I (up2 I 90 k v) := ⟨fun a _ h _ => up2_n h, fun j _ _ => by rw [up2_n (by omega)]⟩
theorem FP.a91 {I : II} {k : Nat} {v : Int32} : FP I (up2 I 91 k v) := ⟨fun a _ _ h => up2_n h, fun j _ _ => by rw [up2_n (by omega)]⟩
theorem FP.a4 {I : II} {v : Int32} : FP I (up2 I 88 4 v) := ⟨fun a h _ _ => up2_n h, fun j h _ => up2_b h⟩
theorem FP.a5 {I : II} {v : Int32} : FP I (up2 I 88 5 v) := ⟨fun a h _ _ => up2_n h, fun j _ h => up2_b h⟩
theorem CI.fp {I I' : II} {P : PP} {A : AbS} (h : CI I P A) (hG : GI A) (hf : FP I I') : CI I' P A := by
  obtain ⟨h1, ⟨h2, h3, h4⟩, h5, h6⟩ := h
  refine ⟨⟨h1.1.fm hG.1.2.1 (fun a _ _ => hf.1 a (by omega) (by omega) (by omega)), h1.2.fm (fun a _ _ => hf.1 a (by omega) (by omega) (by omega))⟩, ⟨h2, by rw [hf.1 21 (by omega) (by omega) (by omega)]; exact h3, fun i hi => ?_⟩, fun s hs => ⟨by rw [hf.1 _ (by omega) (by omega) (by omega)]; exact (h5 s hs).1, fun hk => ?_⟩, by rw [hf.2 1 (by omega) (by omega), hf.1 89 (by omega) (by omega) (by omega)]; exact h6⟩
  · have hi5 : i < 5 := Nat.lt_of_lt_of_le hi hG.2.1.1
    have := HB_n (h2.1 i hi5)
    exact (h4 i hi).fm (hG.2.1.2 i hi).2.1 (fun a _ _ => hf.1 a (by omega) (by omega) (by omega))
  · exact ((h5 s hs).2 hk).fm ((hG.2.2.1 s hs).2 hk).2.1 (fun a _ _ => hf.1 a (by omega) (by omega) (by omega))
theorem letterOf_C {K : II} {oc j : Nat} (h : K 88 4 = nI oc) (ho : oc ≤ 40) (hj : j < oc) {x : Int32} (hx : K 90 j = x) (hb : bC x = true) : fX2_letterOf K (nI j) = some x := by
  unfold fX2_letterOf
  rw [h, ifn (show ¬ nI j < (0 : Int32) from fun z => by have := (nI_ltI (b := 0) (by omega) (by omega)).mp z; omega), ifn (nle (by omega) (by omega) hj), ifn (show ¬ (40 : Int32) ≤ nI j from nle (a := 40) (by omega) (by omega) (by omega)), ckN (show j < 40 by omega) (by omega), tnN (show j < 2 ^ 31 by omega), hx, ck_t hb]
theorem numberOf_C {K : II} {oc j N : Nat} (h : K 88 4 = nI oc) (ho : oc ≤ 40) (hj : j < oc) {x : Int32} (hx : K 90 j = x) (hn : K 91 j = nI N) (hN : N ≤ 50) : fX2_numberOf K (nI j) = some (if x = 35 then nI N else nI (max N 1)) := by
  unfold fX2_numberOf
  rw [h, ifn (show ¬ nI j < (0 : Int32) from fun z => by have := (nI_ltI (b := 0) (by omega) (by omega)).mp z; omega), ifn (nle (by omega) (by omega) hj), ifp (show nI j < (40 : Int32) from (nI_ltI (b := 40) (by omega) (by omega)).mpr (by omega)), ckN (show j < 40 by omega) (by omega), ckN (show j < 40 by omega) (by omega), ckN (show j < 40 by omega) (by omega), tnN (show j < 2 ^ 31 by omega), hx, hn]
  by_cases q : x = 35
  · rw [ifn (fun z => z q), if_pos q]
  · rw [ifp q, if_neg q, show (1 : Int32) = nI 1 from rfl, mxN (by omega) (by omega)]
theorem ord_C {W : Nat} (h8 : W ≤ 8) (x : Int32) : (LTR W x → fX2_isOrder x (nI W) = some 1) ∧ (¬ LTR W x → fX2_isOrder x (nI W) = some 0) := by
  unfold fX2_isOrder fX2_isOrder_J38 fX2_isOrder_J43
  by_cases a1 : x = 114
  · rw [ifp a1]
    exact ⟨fun _ => rfl, fun z => absurd (Or.inl a1) z⟩
  · rw [ifn a1]
    by_cases a2 : x = 35
    · rw [ifn (fun z => z a2)]
      exact ⟨fun _ => rfl, fun z => absurd (Or.inr (Or.inl a2)) z⟩
    · rw [ifp a2]
      by_cases w : W = 0
      · have w1 : nI W ≤ (0 : Int32) := by rw [w]; decide
        have hn : ¬ LTR W x := by
          intro z
          rcases z with e | e | ⟨e, -⟩
          · exact a1 e
          · exact a2 e
          · omega
        refine ⟨fun z => absurd z hn, fun _ => ?_⟩
        rw [ifp w1, ifp w1]
        split
        · rfl
        · split
          · rfl
          · split
            · rfl
            · split <;> rfl
      · have w1 : ¬ nI W ≤ (0 : Int32) := nle (b := 0) (by omega) (by omega) (by omega)
        rw [ifn w1, ifn w1]
        by_cases a3 : x = 110
        · subst a3; exact ⟨fun _ => rfl, fun z => absurd (Or.inr (Or.inr ⟨by omega, Or.inl rfl⟩)) z⟩
        by_cases a4 : x = 101
        · subst a4; exact ⟨fun _ => rfl, fun z => absurd (Or.inr (Or.inr ⟨by omega, Or.inr (Or.inl rfl)⟩)) z⟩
        by_cases a5 : x = 115
        · subst a5; exact ⟨fun _ => rfl, fun z => absurd (Or.inr (Or.inr ⟨by omega, Or.inr (Or.inr (Or.inl rfl))⟩)) z⟩
        by_cases a6 : x = 119
        · subst a6; exact ⟨fun _ => rfl, fun z => absurd (Or.inr (Or.inr ⟨by omega, Or.inr (Or.inr (Or.inr (Or.inl rfl)))⟩)) z⟩
        by_cases a7 : x = 103
        · subst a7; exact ⟨fun _ => rfl, fun z => absurd (Or.inr (Or.inr ⟨by omega, Or.inr (Or.inr (Or.inr (Or.inr (Or.inl rfl))))⟩)) z⟩
        by_cases a8 : x = 100
        · subst a8; exact ⟨fun _ => rfl, fun z => absurd (Or.inr (Or.inr ⟨by omega, Or.inr (Or.inr (Or.inr (Or.inr (Or.inr rfl))))⟩)) z⟩
        have hn : ¬ LTR W x := by
          intro z
          rcases z with e | e | ⟨-, e | e | e | e | e | e⟩
          · exact a1 e
          · exact a2 e
          · exact a3 e
          · exact a4 e
          · exact a5 e
          · exact a6 e
          · exact a7 e
          · exact a8 e
        refine ⟨fun z => absurd z hn, fun _ => ?_⟩
        rw [ifn a3, ifn a4, ifn a5, ifp a6, ifn a7, ifp a8]
        exact if0
/-- what was read so far, in the memory -/
def RS (W : Nat) (K : II) (s : RdS) : Prop := K 88 4 = nI s.1 ∧ K 88 5 = (if s.2.1 = true then 1 else 0) ∧ (s.2.1 = true → 0 < s.1) ∧ ∀ j, j < s.1 → K 90 j = s.2.2.1 j ∧ K 91 j = nI (s.2.2.2 j) ∧ LTR W (s.2.2.1 j) ∧ bC (s.2.2.1 j) = true ∧ s.2.2.2 j ≤ 50 ∧ (s.2.2.1 j = 35 → s.2.2.2 j < W ∨ (s.2.1 = true ∧ j + 1 = s.1))
theorem rd1_C {W : Nat} {K : II} {s : RdS} {x : Int32} (h8 : W ≤ 8) (h : RS W K s) (ho : s.1 < 40) (hx : bC x = true) : ∃ K', FP K K' ∧ (rd1 W s x = none → fX2_takes K x (nI W) = some (0, K')) ∧ ∀ t, rd1 W s x = some t → fX2_takes K x (nI W) = some (1, K') ∧ RS W K' t := by
  obtain ⟨oc, due, lt, nu⟩ := s
  obtain ⟨h1, h2, h3, h4⟩ := h
  change K 88 4 = nI oc at h1
  change K 88 5 = if due = true then 1 else 0 at h2
  change due = true → 0 < oc at h3
  change ∀ j, j < oc → K 90 j = lt j ∧ K 91 j = nI (nu j) ∧ LTR W (lt j) ∧ bC (lt j) = true ∧ nu j ≤ 50 ∧ (lt j = 35 → nu j < W ∨ (due = true ∧ j + 1 = oc)) at h4
  change oc < 40 at ho
  unfold rd1
  by_cases q : due = true
  · simp only [if_pos q]
    rw [if_pos q] at h2
    obtain ⟨m, hm⟩ : ∃ m, oc = m + 1 := ⟨oc - 1, by have := h3 q; omega⟩
    subst hm
    by_cases qd : isDg x
    · obtain ⟨d, d1, d2, d3⟩ := dg_v qd
      have dv : dgV x = d := by
        unfold dgV
        rw [d3, tnN (by omega)]
      have tk := takes_w (W := W) h1 h2 (show m < 40 by omega) qd d3 d1 h8
      rw [dv]
      by_cases qw : d < W
      · rw [if_pos qw] at tk
        refine ⟨_, FP.a5.tr FP.a91, fun z => ?_, fun t ht => ⟨tk, ?_⟩⟩
        · rw [if_pos ⟨qd, qw⟩] at z
          cases z
        · rw [if_pos ⟨qd, qw⟩] at ht
          cases ht
          refine ⟨by rw [up2_n (by omega), up2_b (by omega)]; exact h1, by rw [up2_n (by omega)]; exact up2_a, fun z => by omega, fun j hj => ?_⟩
          have hj : j < m + 1 := hj
          obtain ⟨b1, b2, b3, b4, b5, b6⟩ := h4 j hj
          show up2 (up2 K 88 5 0) 91 m (nI d) 90 j = lt j ∧ up2 (up2 K 88 5 0) 91 m (nI d) 91 j = nI (if j + 1 = m + 1 then d else nu j) ∧ LTR W (lt j) ∧ bC (lt j) = true ∧ (if j + 1 = m + 1 then d else nu j) ≤ 50 ∧ (lt j = 35 → (if j + 1 = m + 1 then d else nu j) < W ∨ (false = true ∧ j + 1 = m + 1))
          rw [up2_n (by omega), up2_n (by omega), up2_at]
          by_cases e : j = m
          · rw [if_pos e, if_pos (by omega)]
            exact ⟨b1, rfl, b3, b4, by omega, fun _ => Or.inl qw⟩
          · rw [if_neg e, if_neg (by omega), up2_n (by omega)]
            exact ⟨b1, b2, b3, b4, b5, fun z => (b6 z).imp id (fun y => by omega)⟩
      · rw [if_neg qw] at tk
        refine ⟨_, FP.a5, fun _ => tk, fun t ht => ?_⟩
        rw [if_neg (fun z => qw z.2)] at ht
        cases ht
    · refine ⟨_, FP.a5, fun _ => takes_wn h2 qd, fun t ht => ?_⟩
      rw [if_neg (fun z => qd z.1)] at ht
      cases ht
  · simp only [if_neg q]
    rw [if_neg q] at h2
    by_cases qd : isDg x
    · simp only [if_pos qd]
      obtain ⟨d, d1, d2, d3⟩ := dg_v qd
      have dv : dgV x = d := by
        unfold dgV
        rw [d3, tnN (by omega)]
      rw [dv]
      by_cases q0 : oc = 0
      · refine ⟨K, FP.rf, fun _ => takes_d0 (by rw [h1, q0]) h2 qd, fun t ht => ?_⟩
        rw [if_neg (fun z => by have := z.1; omega)] at ht
        cases ht
      · obtain ⟨m, hm⟩ : ∃ m, oc = m + 1 := ⟨oc - 1, by omega⟩
        subst hm
        obtain ⟨c1, c2, c3, c4, c5, c6⟩ := h4 m (by omega)
        have tk := takes_d (W := W) h1 h2 (show m < 40 by omega) qd d3 d1 c2 c5
        rw [show m + 1 - 1 = m by omega]
        by_cases qc : lt m ≠ 35 ∧ 1 ≤ nu m * 10 + d ∧ nu m * 10 + d ≤ 50
        · rw [c1, if_pos qc] at tk
          refine ⟨_, FP.a91, fun z => ?_, fun t ht => ⟨tk, ?_⟩⟩
          · rw [if_pos ⟨by omega, qc⟩] at z
            cases z
          · rw [if_pos ⟨by omega, qc⟩] at ht
            cases ht
            refine ⟨by rw [up2_n (by omega)]; exact h1, by rw [up2_n (by omega)]; exact h2, fun z => by omega, fun j hj => ?_⟩
            have hj : j < m + 1 := hj
            obtain ⟨b1, b2, b3, b4, b5, b6⟩ := h4 j hj
            show up2 K 91 m (nI (nu m * 10 + d)) 90 j = lt j ∧ up2 K 91 m (nI (nu m * 10 + d)) 91 j = nI (if j + 1 = m + 1 then nu m * 10 + d else nu j) ∧ LTR W (lt j) ∧ bC (lt j) = true ∧ (if j + 1 = m + 1 then nu m * 10 + d else nu j) ≤ 50 ∧ (lt j = 35 → (if j + 1 = m + 1 then nu m * 10 + d else nu j) < W ∨ (false = true ∧ j + 1 = m + 1))
            rw [up2_n (by omega), up2_at]
            by_cases e : j = m
            · rw [if_pos e, if_pos (by omega)]
              exact ⟨b1, rfl, b3, b4, qc.2.2, fun z => absurd (by rw [← e]; exact z) qc.1⟩
            · rw [if_neg e, if_neg (by omega)]
              exact ⟨b1, b2, b3, b4, b5, fun z => (b6 z).imp id (fun y => absurd y.1 q)⟩
        · rw [c1, if_neg qc] at tk
          refine ⟨_, FP.rf, fun _ => tk, fun t ht => ?_⟩
          rw [if_neg (fun z => qc z.2)] at ht
          cases ht
    · simp only [if_neg qd]
      by_cases ql : LTR W x
      · have tk := takes_let (W := W) h1 h2 ho hx ql ((ord_C h8 x).1 ql)
        refine ⟨_, (FP.a90.tr (FP.a91.tr (FP.a4.tr FP.a5))), fun z => ?_, fun t ht => ⟨tk, ?_⟩⟩
        · rw [if_pos ql] at z
          cases z
        · rw [if_pos ql] at ht
          cases ht
          refine ⟨by rw [up2_b (by omega), up2_a], ?_, fun z => by show 0 < oc + 1; omega, fun j hj => ?_⟩
          · show up2 _ 88 5 _ 88 5 = if decide (x = 35) = true then 1 else 0
            rw [up2_a]
            by_cases e : x = 35
            · rw [if_pos e, if_pos (by simpa using e)]
            · rw [if_neg e, if_neg (by simpa using e)]
          · have hj : j < oc + 1 := hj
            show up2 (up2 (up2 (up2 K 90 oc x) 91 oc 0) 88 4 (nI (oc + 1))) 88 5 (if x = 35 then 1 else 0) 90 j = (if j = oc then x else lt j) ∧ up2 (up2 (up2 (up2 K 90 oc x) 91 oc 0) 88 4 (nI (oc + 1))) 88 5 (if x = 35 then 1 else 0) 91 j = nI (if j = oc then 0 else nu j) ∧ LTR W (if j = oc then x else lt j) ∧ bC (if j = oc then x else lt j) = true ∧ (if j = oc then 0 else nu j) ≤ 50 ∧ ((if j = oc then x else lt j) = 35 → (if j = oc then 0 else nu j) < W ∨ (decide (x = 35) = true ∧ j + 1 = oc + 1))
            simp only [up2_n (show (90 : Nat) ≠ 88 by omega), up2_n (show (90 : Nat) ≠ 91 by omega), up2_n (show (91 : Nat) ≠ 88 by omega), up2_at]
            by_cases e : j = oc
            · simp only [if_pos e]
              exact ⟨trivial, rfl, ql, hx, by omega, fun z => Or.inr ⟨by simpa using z, by omega⟩⟩
            · simp only [if_neg e]
              obtain ⟨b1, b2, b3, b4, b5, b6⟩ := h4 j (by omega)
              rw [up2_n (show (91 : Nat) ≠ 90 by omega)]
              exact ⟨b1, b2, b3, b4, b5, fun z => (b6 z).imp id (fun y => absurd y.1 q)⟩
      · refine ⟨K, FP.rf, fun _ => takes_no h2 qd ((ord_C h8 x).2 ql), fun t ht => ?_⟩
        rw [if_neg ql] at ht
        cases ht
theorem rd1_le {W : Nat} {s t : RdS} {x : Int32} (h : rd1 W s x = some t) : t.1 ≤ s.1 + 1 := by
  unfold rd1 at h
  split at h
  · split at h
    · cases h; show s.1 ≤ _; omega
    · cases h
  · split at h
    · split at h
      · cases h; show s.1 ≤ _; omega
      · cases h
    · split at h
      · cases h; exact Nat.le_refl _
      · cases h
abbrev rdCt : II → Option (Int32 × II) := fun I8 => (if (I8 88 1) = 0 then some ((I8 88 1), I8) else (if (I8 88 5) = 0 then some ((-1), I8) else some ((I8 88 1), I8)))
theorem read_C {W len : Nat} {tx : Nat → Int32} (h8 : W ≤ 8) (hl : len ≤ 40) (hb : ∀ j, j < len → bC (tx j) = true) (K0 : II) (k1 : K0 88 1 = nI len) (k2 : ∀ j, j < len → K0 89 j = tx j) :
    ∀ (n p fu : Nat) (K : II) (s : RdS), p + n = len → n < fu → FP K0 K → RS W K s → s.1 ≤ p →
      ∃ K' r, fX2_readOrders_L12 fu rdCt (nI W) (nI p) K = some (r, K') ∧ FP K0 K' ∧ (match rdN W tx n p s with | .inl q => r = nI q ∧ q ≤ 40 | .inr t => (len = 0 ∨ t.2.1 = true → r = nI len) ∧ (¬ (len = 0 ∨ t.2.1 = true) → r = -1 ∧ RS W K' t ∧ t.1 ≤ 40)) := by
  intro n
  induction n with
  | zero =>
    intro p fu K s hp hfu fK hs ho
    obtain ⟨fu, rfl⟩ : ∃ m, fu = m + 1 := ⟨fu - 1, by omega⟩
    have e : p = len := by omega
    subst e
    have e1 : fX2_readOrders_L12 (fu + 1) rdCt (nI W) (nI p) K = rdCt K := by
      show (if (K 88 1) ≤ nI p then rdCt K else _) = _
      rw [fK.2 1 (by omega) (by omega), k1, ifp (yle (by omega) (by omega) (Nat.le_refl _))]
    rw [e1]
    show ∃ K' r, (if (K 88 1) = 0 then some ((K 88 1), K) else (if (K 88 5) = 0 then some ((-1), K) else some ((K 88 1), K))) = some (r, K') ∧ FP K0 K' ∧ ((p = 0 ∨ s.2.1 = true → r = nI p) ∧ (¬ (p = 0 ∨ s.2.1 = true) → r = -1 ∧ RS W K' s ∧ s.1 ≤ 40))
    rw [fK.2 1 (by omega) (by omega), k1, hs.2.1]
    by_cases q : p = 0
    · rw [ifp (show nI p = (0 : Int32) by rw [q]; rfl)]
      exact ⟨K, _, rfl, fK, fun _ => rfl, fun z => absurd (Or.inl q) z⟩
    · rw [ifn (show ¬ nI p = (0 : Int32) from fun z => by have := (eqN (b := 0) (by omega) (by omega)).mp z; omega)]
      by_cases qd : s.2.1 = true
      · rw [if_pos qd, jf1]
        exact ⟨K, _, rfl, fK, fun _ => rfl, fun z => absurd (Or.inr qd) z⟩
      · rw [if_neg qd, jf0]
        exact ⟨K, _, rfl, fK, fun z => absurd z (fun y => y.elim q qd), fun _ => ⟨rfl, hs, by omega⟩⟩
  | succ n ih =>
    intro p fu K s hp hfu fK hs ho
    obtain ⟨fu, rfl⟩ : ∃ m, fu = m + 1 := ⟨fu - 1, by omega⟩
    obtain ⟨K1, f1, t1, t2⟩ := rd1_C (x := tx p) h8 hs (by omega) (hb p (by omega))
    have e1 : fX2_readOrders_L12 (fu + 1) rdCt (nI W) (nI p) K = (fX2_takes K (tx p) (nI W)).bind fun v6 => (if ¬ v6.1 = 0 then fX2_readOrders_L12 fu rdCt (nI W) (nI (p + 1)) v6.2 else some (nI p, v6.2)) := by
      show (if (K 88 1) ≤ nI p then _ else (if (40 : Int32) ≤ nI p then _ else ck (ix (nI p) 40) ((fX2_takes K (K 89 (nI p).toNatClampNeg) (nI W)).bind fun v6 => (if ¬ v6.1 = 0 then fX2_readOrders_L12 fu rdCt (nI W) (nI p + 1) v6.2 else some (nI p, v6.2))))) = _
      rw [fK.2 1 (by omega) (by omega), k1, ifn (nle (by omega) (by omega) (by omega)), ifn (show ¬ (40 : Int32) ≤ nI p from nle (a := 40) (by omega) (by omega) (by omega)), ckN (show p < 40 by omega) (by omega), tnN (show p < 2 ^ 31 by omega), fK.1 89 (by omega) (by omega) (by omega), k2 p (by omega), nI_1]
    rw [e1]
    unfold rdN
    cases hr : rd1 W s (tx p) with
    | none =>
      rw [t1 hr, bd1, ifn (show ¬ ¬ ((0 : Int32), K1).1 = 0 from fun z => z rfl)]
      exact ⟨K1, _, rfl, fK.tr f1, rfl, by omega⟩
    | some t =>
      obtain ⟨a1, a2⟩ := t2 t hr
      rw [a1, bd1, ifp (show ¬ ((1 : Int32), K1).1 = 0 from (by decide : ¬ (1 : Int32) = 0))]
      have := rd1_le hr
      exact ih (p + 1) fu K1 t (by omega) (by omega) (fK.tr f1) a2 (by omega)
theorem gosC {ρ : Nat → Nat} {w d m : Nat} (hG : Good ρ) (hw : w < ρ 2) (hd : d < 4) (hm : m ≤ 50) {K1 : II} (c1 : CR K1 ρ) : ∃ K', fX7_obey_L79 2000 (fun I9 => some I9) (7 + w) (nI m) (nI d) 0 K1 = some K' ∧ CR K' (gosR w d m ρ) ∧ Good (gosR w d m ρ) ∧ gosR w d m ρ 2 = ρ 2 ∧ FC K1 K' := by
  have g2 := hG.2.1
  have hw8 : w < 8 := by omega
  have lp : ∀ (n x : Nat) (σ : Nat → Nat) (K : II) (fu : Nat), x + n = m → n < fu → Good σ → σ 2 = ρ 2 → CR K σ → FC K1 K → ∃ K', fX7_obey_L79 fu (fun I9 => some I9) (7 + w) (nI m) (nI d) (nI x) K = some K' ∧ CR K' (gosR w d n σ) ∧ Good (gosR w d n σ) ∧ gosR w d n σ 2 = ρ 2 ∧ FC K1 K' := by
    intro n
    induction n with
    | zero =>
      intro x σ K fu hx hf hS s2 k1 k2
      obtain ⟨fu, rfl⟩ : ∃ m, fu = m + 1 := ⟨fu - 1, by omega⟩
      refine ⟨K, ?_, k1, hS, s2, k2⟩
      show (if nI m ≤ nI x then some K else _) = _
      rw [ifp (yle (by omega) (by omega) (by omega))]
    | succ n ih =>
      intro x σ K fu hx hf hS s2 k1 k2
      obtain ⟨fu, rfl⟩ : ∃ m, fu = m + 1 := ⟨fu - 1, by omega⟩
      have hws : w < σ 2 := by omega
      have wl := wall_C k1 hS hws hd
      have e1 : fX7_obey_L79 (fu + 1) (fun I9 => some I9) (7 + w) (nI m) (nI d) (nI x) K = (fX7_hasWall K (7 + w) (nI d)).bind fun v6 => (if ¬ v6 = 0 then some K else (fX7_stepAhead K (7 + w) (nI d)).bind fun v8 => fX7_obey_L79 fu (fun I9 => some I9) (7 + w) (nI m) (nI d) (nI (x + 1)) v8) := by
        show (if nI m ≤ nI x then some K else (fX7_hasWall K (7 + w) (nI d)).bind fun v6 => (if ¬ v6 = 0 then some K else (fX7_stepAhead K (7 + w) (nI d)).bind fun v8 => fX7_obey_L79 fu (fun I9 => some I9) (7 + w) (nI m) (nI d) (nI x + 1) v8)) = _
        rw [ifn (nle (by omega) (by omega) (by omega)), nI_1]
      rw [e1]
      unfold gosR
      by_cases q : Fre σ (cw σ w) d
      · have hGd := hS.di hw8 hd
        have hf' : Fre (stR σ (wI w 2) d) (cw (stR σ (wI w 2) d) w) (stR σ (wI w 2) d (wI w 2)) := by
          rw [cw_di, stR_s, fre_st (by unfold wI; omega) (by unfold wI; omega)]; exact q
        have hwd : w < stR σ (wI w 2) d 2 := by rw [stR_n (by unfold wI; omega)]; exact hws
        obtain ⟨K2, a1, a2, a3⟩ := ahead_C1 k1 hS hws hd q
        rw [wl.1 q, bd1, if0, a1, bd1, if_pos q]
        exact ih (x + 1) _ K2 fu (by omega) (by omega) (hGd.go hwd hf') (by rw [go_lo hGd hwd hf' (by omega), stR_n (by unfold wI; omega)]; exact s2) a2 (k2.tr a3)
      · rw [wl.2.1 q, bd1, if1, if_neg q]
        exact ⟨K, rfl, k1, hS, s2, k2⟩
  exact lp m 0 ρ K1 2000 (by omega) (by omega) hG rfl c1 FC.rf
theorem order_C {ρ : Nat → Nat} {w m : Nat} {x : Int32} (hG : Good ρ) (hw : w < ρ 2) (hm : m ≤ 50) {K : II} (c1 : CR K ρ) (hx : x = 110 ∨ x = 101 ∨ x = 115 ∨ x = 119 ∨ x = 103 ∨ x = 100) : ∃ K', fX7_obey K (7 + w) x (nI m) = some K' ∧ CR K' (obR ρ w x m) ∧ Good (obR ρ w x m) ∧ obR ρ w x m 2 = ρ 2 ∧ FC K K' := by
  have g2 := hG.2.1
  have hw8 : w < 8 := by omega
  have hW := hG.2.2.2.2.2.1 w hw
  have hc := (hW.cell hG.1).1
  have hgc := hG.1.2.2.1 _ hc
  obtain ⟨-, -, -, w4, w5, w6⟩ := hW
  unfold fX7_obey obR
  rw [under_C c1 hG hw, bd1]
  have dirs : ∀ d, d < 4 → dirL x = d → fX7_directionOf x = some (nI d) → ¬ x = 103 → ¬ x = 100 → ∃ K', (if ¬ x = 103 then (if ¬ x = 100 then (fX7_directionOf x).bind fun v4 => fX7_obey_L79 2000 (fun I9 => some I9) (7 + w) (nI m) v4 0 K else (fX7_pickUp K (7 + w) (-(mn (nI m) (mn (K (7 + w) 3) (99 - nI (gR ρ (cw ρ w))))))).bind fun v10 => some v10) else (fX7_pickUp K (7 + w) (mn (nI m) (mn (nI (gR ρ (cw ρ w))) ((K (7 + w) 4) - (K (7 + w) 3))))).bind fun v11 => some v11) = some K' ∧ CR K' (if x = 103 then pkR ρ w (min m (min (gR ρ (cw ρ w)) (ρ (wI w 4) - ρ (wI w 3)))) else if x = 100 then drR ρ w (min m (min (ρ (wI w 3)) (99 - gR ρ (cw ρ w)))) else gosR w (dirL x) m ρ) ∧ Good (if x = 103 then pkR ρ w (min m (min (gR ρ (cw ρ w)) (ρ (wI w 4) - ρ (wI w 3)))) else if x = 100 then drR ρ w (min m (min (ρ (wI w 3)) (99 - gR ρ (cw ρ w)))) else gosR w (dirL x) m ρ) ∧ (if x = 103 then pkR ρ w (min m (min (gR ρ (cw ρ w)) (ρ (wI w 4) - ρ (wI w 3)))) else if x = 100 then drR ρ w (min m (min (ρ (wI w 3)) (99 - gR ρ (cw ρ w)))) else gosR w (dirL x) m ρ) 2 = ρ 2 ∧ FC K K' := by
    intro d hd e0 e1 n1 n2
    rw [ifp n1, ifp n2, e1, bd1, if_neg n1, if_neg n2, e0]
    exact gosC hG hw hd hm c1
  rcases hx with e | e | e | e | e | e
  · exact dirs 0 (by omega) (by rw [e]; rfl) (by rw [e]; rfl) (by rw [e]; decide) (by rw [e]; decide)
  · exact dirs 1 (by omega) (by rw [e]; rfl) (by rw [e]; rfl) (by rw [e]; decide) (by rw [e]; decide)
  · exact dirs 2 (by omega) (by rw [e]; rfl) (by rw [e]; rfl) (by rw [e]; decide) (by rw [e]; decide)
  · exact dirs 3 (by omega) (by rw [e]; rfl) (by rw [e]; rfl) (by rw [e]; decide) (by rw [e]; decide)
  · have n1 := Nat.min_le_left m (min (gR ρ (cw ρ w)) (ρ (wI w 4) - ρ (wI w 3)))
    have n2 := Nat.min_le_right m (min (gR ρ (cw ρ w)) (ρ (wI w 4) - ρ (wI w 3)))
    have n3 := Nat.min_le_left (gR ρ (cw ρ w)) (ρ (wI w 4) - ρ (wI w 3))
    have n4 := Nat.min_le_right (gR ρ (cw ρ w)) (ρ (wI w 4) - ρ (wI w 3))
    rw [e, ifn (fun z => z rfl), c1.fl hw (by omega), c1.fl hw (by omega), pk_sub w4, mnN (by omega) (by omega), mnN (by omega) (by omega), if_pos rfl]
    by_cases q : 0 < min m (min (gR ρ (cw ρ w)) (ρ (wI w 4) - ρ (wI w 3)))
    · obtain ⟨K', a1, a2, a3⟩ := pick_C c1 hG hw q (by omega)
      rw [a1, bd1]
      exact ⟨K', rfl, a2, hG.pk hw (by omega) (by omega), pk_lo (by omega), a3⟩
    · have q0 : min m (min (gR ρ (cw ρ w)) (ρ (wI w 4) - ρ (wI w 3))) = 0 := by omega
      obtain ⟨K', a1, a2, a3⟩ := drop_C c1 hG hw (n := 0) (by omega) (by omega)
      rw [dr0] at a2
      rw [q0, pk0, show nI 0 = -(nI 0) from rfl, a1, bd1]
      exact ⟨K', rfl, a2, hG, rfl, a3⟩
  · have n1 := Nat.min_le_left m (min (ρ (wI w 3)) (99 - gR ρ (cw ρ w)))
    have n2 := Nat.min_le_right m (min (ρ (wI w 3)) (99 - gR ρ (cw ρ w)))
    have n3 := Nat.min_le_left (ρ (wI w 3)) (99 - gR ρ (cw ρ w))
    have n4 := Nat.min_le_right (ρ (wI w 3)) (99 - gR ρ (cw ρ w))
    obtain ⟨K', a1, a2, a3⟩ := drop_C c1 hG hw (n := min m (min (ρ (wI w 3)) (99 - gR ρ (cw ρ w)))) (by omega) (by omega)
    have s99 : (99 : Int32) - nI (gR ρ (cw ρ w)) = nI (99 - gR ρ (cw ρ w)) := pk_sub (a := 99) hgc
    rw [e, ifp (by decide), ifn (fun z => z rfl), s99, c1.fl hw (by omega), mnN (by omega) (by omega), mnN (by omega) (by omega), a1, bd1, if_neg (show ¬ (100 : Int32) = 103 by decide), if_pos rfl]
    exact ⟨K', rfl, a2, hG.dr hw (by omega) (by omega), dr_lo (by omega), a3⟩
theorem runC_lp {ρ : Nat → Nat} (hG : Good ρ) {s : RdS} {K1 : II} {P1 : PP} (hP : RS (ρ 2) K1 s) (h40 : s.1 ≤ 40) (hdu : ¬ s.2.1 = true) (v4 : Int32) (ctC : II → Option (Int32 × II × PP)) : ∀ (n j w : Nat) (σ : Nat → Nat) (o : Option Nat) (K : II) (fu : Nat), j + n = s.1 → n < fu → Good σ → σ 2 = ρ 2 → CR K σ → FC K1 K → (0 < ρ 2 → o = some (7 + w) ∧ w < ρ 2) →
    ∃ K', fX8_run_L67 fu ctC v4 P1 o (nI j) K = ctC K' ∧ CR K' (exN s.2.2.1 s.2.2.2 n j w σ) ∧ Good (exN s.2.2.1 s.2.2.2 n j w σ) ∧ exN s.2.2.1 s.2.2.2 n j w σ 2 = ρ 2 ∧ FC K1 K' := by
  intro n
  induction n with
  | zero =>
    intro j w σ o K fu hj hfu hS s2 c1 fK ho
    obtain ⟨fu, rfl⟩ : ∃ m, fu = m + 1 := ⟨fu - 1, by omega⟩
    refine ⟨K, ?_, c1, hS, s2, fK⟩
    show (if (K 88 4) ≤ nI j then ctC K else _) = _
    rw [fK 88 (by omega), hP.1, ifp (yle (by omega) (by omega) (by omega))]
  | succ n ih =>
    intro j w σ o K fu hj hfu hS s2 c1 fK
    obtain ⟨fu, rfl⟩ : ∃ m, fu = m + 1 := ⟨fu - 1, by omega⟩
    have h8 := hG.2.1
    obtain ⟨x3, x5, x1, x2, hN, x6⟩ := hP.2.2.2 j (by omega)
    generalize hlt : s.2.2.1 = lt at *
    generalize hnu : s.2.2.2 = nu at *
    have k4 : K 88 4 = nI s.1 := by rw [fK 88 (by omega)]; exact hP.1
    have eL := letterOf_C k4 h40 (show j < s.1 by omega) (x := lt j) (by rw [fK 90 (by omega)]; exact x3) x2
    have eN := numberOf_C k4 h40 (show j < s.1 by omega) (x := lt j) (N := nu j) (by rw [fK 90 (by omega)]; exact x3) (by rw [fK 91 (by omega)]; exact x5) hN
    have eC : fX8_run_L67 (fu + 1) ctC v4 P1 o (nI j) K = (if ¬ lt j = 35 then (if ¬ lt j = 114 then (match o with | none => fX8_run_L67 fu ctC v4 P1 none (nI (j + 1)) K | some a11 => (fX7_obey K a11 (lt j) (if lt j = 35 then nI (nu j) else nI (max (nu j) 1))).bind fun v12 => fX8_run_L67 fu ctC v4 P1 (some a11) (nI (j + 1)) v12) else (fX7_makeRounds K (if lt j = 35 then nI (nu j) else nI (max (nu j) 1))).bind fun v13 => fX8_run_L67 fu ctC v4 P1 o (nI (j + 1)) v13) else (fX4_walkerAt K 2 (if lt j = 35 then nI (nu j) else nI (max (nu j) 1))).bind fun v14 => fX8_run_L67 fu ctC v4 P1 v14 (nI (j + 1)) K) := by
      show (if (K 88 4) ≤ nI j then ctC K else (fX2_letterOf K (nI j)).bind fun v7 => (fX2_numberOf K (nI j)).bind fun v8 => (if ¬ v7 = 35 then (if ¬ v7 = 114 then (match o with | none => fX8_run_L67 fu ctC v4 P1 none (nI j + 1) K | some a11 => (fX7_obey K a11 v7 v8).bind fun v12 => fX8_run_L67 fu ctC v4 P1 (some a11) (nI j + 1) v12) else (fX7_makeRounds K v8).bind fun v13 => fX8_run_L67 fu ctC v4 P1 o (nI j + 1) v13) else (fX4_walkerAt K 2 v8).bind fun v14 => fX8_run_L67 fu ctC v4 P1 v14 (nI j + 1) K)) = _
      rw [k4, ifn (nle (by omega) (by omega) (by omega)), eL, bd1, eN, bd1, nI_1]
    rw [eC]
    intro ho
    unfold exN
    by_cases y : lt j = 35
    · have hNw : nu j < ρ 2 := (x6 y).resolve_right (fun z => hdu z.1)
      rw [ifn (show ¬ ¬ lt j = 35 from fun z => z y), if_pos y, if_pos y, walkerAt_C (ρ := σ) c1.1.1.2.2.1 (by omega) (by omega), bd1]
      exact ih (j + 1) (nu j) σ _ K fu (by omega) (by omega) hS s2 c1 fK (fun _ => ⟨rfl, hNw⟩)
    · rw [ifp y, if_neg y, if_neg y]
      by_cases q : lt j = 114
      · rw [ifn (fun z => z q), if_pos q]
        obtain ⟨K', a1, a2, a3⟩ := makeRounds_C c1 hS (k := max (nu j) 1) (by omega)
        have g := rds_g hS (max (nu j) 1)
        rw [a1, bd1]
        exact ih (j + 1) w _ o K' fu (by omega) (by omega) g.1 (by rw [g.2 2 (by omega) (by omega)]; exact s2) a2 (fK.tr a3) ho
      · rw [ifp q, if_neg q]
        have hx : 0 < ρ 2 ∧ (lt j = 110 ∨ lt j = 101 ∨ lt j = 115 ∨ lt j = 119 ∨ lt j = 103 ∨ lt j = 100) := by
          rcases x1 with e | e | e
          · exact absurd e q
          · exact absurd e y
          · exact e
        obtain ⟨h1, h2⟩ := ho hx.1
        obtain ⟨K', a1, a2, a3, a4, a5⟩ := order_C (m := max (nu j) 1) hS (show w < σ 2 by omega) (by omega) c1 hx.2
        rw [h1, if_pos (show w < σ 2 by omega)]
        simp only []
        rw [a1, bd1]
        exact ih (j + 1) w _ _ K' fu (by omega) (by omega) a3 (by omega) a2 (fK.tr a5) (fun _ => ⟨rfl, h2⟩)
theorem k_run {A : AbS} {I : II} {P : PP} (hG : GI A) (hC : CI I P A) : Rs (fX8_run I P) I (aRun A) := by
  have g2 := hG.1.2.1
  have hlen := hG.2.2.2.1
  unfold fX8_run fX2_readOrders
  rw [show I 2 4 = nI (A.1 2) from hC.1.1.1.2.2.1, bd1, bd1]
  have f0 : FP I (up2 (up2 I 88 4 0) 88 5 0) := FP.a4.tr FP.a5
  have hC0 := hC.fp hG f0
  obtain ⟨K', r, e1, e3, e5⟩ := read_C (W := A.1 2) g2 hlen hG.2.2.2.2 _ hC0.2.2.2.1 hC0.2.2.2.2 A.2.2.2.1 0 2000 _ rd0 (by omega) (by omega) FP.rf ⟨by rw [up2_b (by omega), up2_a]; rfl, up2_a, (fun z => absurd z (by decide)), fun j hj => by have : j < 0 := hj; omega⟩ (Nat.le_refl _)
  rw [show fX2_readOrders_L12 2000 (fun I8 => (if (I8 88 1) = 0 then some ((I8 88 1), I8) else (if (I8 88 5) = 0 then some ((-1), I8) else some ((I8 88 1), I8)))) (nI (A.1 2)) 0 (up2 (up2 I 88 4 0) 88 5 0) = _ from e1, bd1]
  simp only []
  have hC1 := hC0.fp hG e3
  have frC : FrC I K' := fun a ha => by rw [e3.1 a (by omega) (by omega) (by omega), f0.1 a (by omega) (by omega) (by omega)]
  have bad : ∀ q, q ≤ 40 → r = nI q → rdT (A.1 2) A.2.2.2.1 A.2.2.2.2 = .inl q → Rs (if r < 0 then (fX1_record K' P 2).bind fun v3 => (fX4_allSteps v3.1 2).bind fun v4 => (fX4_walkerAt v3.1 2 0).bind fun v5 => fX8_run_L67 2000 (fun I15 => (fX4_allSteps I15 2).bind fun v16 => some ((v16 - v4), I15, v3.2)) v4 v3.2 v5 0 v3.1 else some (((-100) - r), K', P)) I (aRun A) := by
    intro q hq hr ht
    unfold aRun
    rw [ht, hr, ifn (show ¬ nI q < (0 : Int32) from fun z => by have := (nI_ltI (b := 0) (by omega) (by omega)).mp z; omega)]
    exact ⟨K', P, rfl, hG, hC1, frC⟩
  unfold rdT at bad
  cases hN : rdN (A.1 2) A.2.2.2.2 A.2.2.2.1 0 rd0 with
  | inl q =>
    rw [hN] at e5 bad
    exact bad q e5.2 e5.1 rfl
  | inr s =>
    rw [hN] at e5 bad
    obtain ⟨z1, z2⟩ := e5
    by_cases qd : A.2.2.2.1 = 0 ∨ s.2.1 = true
    · exact bad A.2.2.2.1 hlen (z1 qd) (by simp only [if_pos qd])
    · obtain ⟨y1, y2, y3⟩ := z2 qd
      have ht : rdT (A.1 2) A.2.2.2.1 A.2.2.2.2 = .inr s := by
        unfold rdT
        rw [hN]
        simp only [if_neg qd]
      unfold aRun
      rw [ht, y1, ifp m1_neg]
      simp only []
      obtain ⟨I1, P1, r1, r2, r3⟩ := record_C hC1 hG
      obtain ⟨I1', P1', r1', -, -, r5⟩ := doI hG hC1
      rw [r1] at r1'
      obtain ⟨rfl, rfl⟩ : I1 = I1' ∧ P1 = P1' := by
        have := Option.some.inj r1'
        exact ⟨congrArg Prod.fst this, congrArg Prod.snd this⟩
      rw [r1, bd1]
      simp only []
      have c1 : CR I1 A.1 := r2.1
      rw [stpC c1.1 g2, bd1]
      have hP1 : RS (A.1 2) I1 s := by
        obtain ⟨p1, p2, p3, p4⟩ := y2
        refine ⟨by rw [r3 88 (by omega)]; exact p1, by rw [r3 88 (by omega)]; exact p2, p3, fun j hj => ?_⟩
        rw [r3 90 (by omega), r3 91 (by omega)]
        exact p4 j hj
      have wa : ∃ o, fX4_walkerAt I1 2 0 = some o ∧ (0 < A.1 2 → o = some (7 + 0) ∧ 0 < A.1 2) := by
        by_cases w : 0 < A.1 2
        · exact ⟨some (7 + 0), walkerAt_C (w := 0) c1.1.1.2.2.1 g2 w, fun _ => ⟨rfl, w⟩⟩
        · refine ⟨none, ?_, fun z => absurd z w⟩
          unfold fX4_walkerAt
          rw [ifn (by decide), show I1 2 4 = nI (A.1 2) from c1.1.1.2.2.1, show A.1 2 = 0 by omega, ifp (by decide)]
      obtain ⟨o, o1, o2⟩ := wa
      rw [o1, bd1]
      obtain ⟨K2, u1, u3, u4, u5, u6⟩ := runC_lp hG.1 (P1 := P1) hP1 y3 (fun z => qd (Or.inr z)) (nI (sm (fun w => A.1 (wI w 6)) (A.1 2))) (fun I15 => (fX4_allSteps I15 2).bind fun v16 => some ((v16 - (nI (sm (fun w => A.1 (wI w 6)) (A.1 2)))), I15, P1)) s.1 0 0 A.1 o I1 2000 (by omega) (by omega) hG.1 rfl c1 FC.rf o2
      obtain ⟨d2, d3, d4⟩ := r5 _ K2 u4 u6 u3
      rw [show fX8_run_L67 2000 (fun I15 => (fX4_allSteps I15 2).bind fun v16 => some ((v16 - (nI (sm (fun w => A.1 (wI w 6)) (A.1 2)))), I15, P1)) (nI (sm (fun w => A.1 (wI w 6)) (A.1 2))) P1 o 0 I1 = _ from u1, stpC u3.1 (by have := u4.2.1; omega), bd1, u5]
      exact ⟨K2, P1, rfl, d2, d3, frC.tr d4⟩
