/-! the text read as orders, by both -/
def LTR (W : Nat) (x : Int32) : Prop := x = 114 ∨ x = 35 ∨ (0 < W ∧ (x = 110 ∨ x = 101 ∨ x = 115 ∨ x = 119 ∨ x = 103 ∨ x = 100))
theorem let_CM {L : II} {W : Nat} (hW : L 135 2 = nI W) (h8 : W ≤ 8) (x : Int32) : (fX9_isLetter L x = some 1 ∧ fX2_isOrder x (nI W) = some 1 ∧ LTR W x) ∨ (fX9_isLetter L x = some 0 ∧ fX2_isOrder x (nI W) = some 0) := by
  unfold fX9_isLetter fX2_isOrder fX2_isOrder_J38 fX2_isOrder_J43 fX9_directionOf
  rw [hW]
  by_cases a1 : x = 114
  · left
    rw [ifp a1, ifp a1]
    exact ⟨rfl, rfl, Or.inl a1⟩
  · rw [ifn a1, ifn a1]
    by_cases a2 : x = 35
    · left
      rw [ifp a2, ifn (fun z => z a2)]
      exact ⟨rfl, rfl, Or.inr (Or.inl a2)⟩
    · rw [ifn a2, ifp a2]
      by_cases w : W = 0
      · right
        have w1 : nI W ≤ (0 : Int32) := by rw [w]; decide
        rw [ifp w1, ifp w1, ifp w1]
        refine ⟨rfl, ?_⟩
        split
        · rfl
        · split
          · rfl
          · split
            · rfl
            · split <;> rfl
      · have w1 : ¬ nI W ≤ (0 : Int32) := nle (b := 0) (by omega) (by omega) (by omega)
        rw [ifn w1, ifn w1, ifn w1]
        by_cases a3 : x = 110
        · left; subst a3; exact ⟨rfl, rfl, Or.inr (Or.inr ⟨by omega, Or.inl rfl⟩)⟩
        by_cases a4 : x = 101
        · left; subst a4; exact ⟨rfl, rfl, Or.inr (Or.inr ⟨by omega, Or.inr (Or.inl rfl)⟩)⟩
        by_cases a5 : x = 115
        · left; subst a5; exact ⟨rfl, rfl, Or.inr (Or.inr ⟨by omega, Or.inr (Or.inr (Or.inl rfl))⟩)⟩
        by_cases a6 : x = 119
        · left; subst a6; exact ⟨rfl, rfl, Or.inr (Or.inr ⟨by omega, Or.inr (Or.inr (Or.inr (Or.inl rfl)))⟩)⟩
        by_cases a7 : x = 103
        · left; subst a7; exact ⟨rfl, rfl, Or.inr (Or.inr ⟨by omega, Or.inr (Or.inr (Or.inr (Or.inr (Or.inl rfl))))⟩)⟩
        by_cases a8 : x = 100
        · left; subst a8; exact ⟨rfl, rfl, Or.inr (Or.inr ⟨by omega, Or.inr (Or.inr (Or.inr (Or.inr (Or.inr rfl))))⟩)⟩
        right
        rw [ifp a3, ifp a4, ifp a5, ifp a6, bd1, ifn (by decide), ifn a7, ifp a8, ifn a3, ifn a4, ifn a5, ifp a6, ifn (by decide)]
        exact ⟨rfl, rfl⟩
def isDg (x : Int32) : Prop := ¬ x < 48 ∧ ¬ 57 < x
theorem dg_v {x : Int32} (h : isDg x) : ∃ d, d ≤ 9 ∧ x = nI (48 + d) ∧ x - 48 = nI d := by
  obtain ⟨h1, h2⟩ := h
  rw [Int32.lt_iff_toInt_lt, show (48 : Int32).toInt = 48 from by decide] at h1
  rw [Int32.lt_iff_toInt_lt, show (57 : Int32).toInt = 57 from by decide] at h2
  obtain ⟨m, hm, rfl⟩ := nnI (x := x) (by omega)
  rw [nI_toInt hm] at h1 h2
  refine ⟨m - 48, by omega, by rw [show 48 + (m - 48) = m by omega], ?_⟩
  exact pk_sub (a := m) (b := 48) (by omega)
theorem LT_nd {W : Nat} {x : Int32} (h : LTR W x) : ¬ isDg x := by
  unfold LTR at h
  unfold isDg
  rcases h with e | e | ⟨-, e | e | e | e | e | e⟩ <;> subst e <;> decide
theorem takes_nd {K : II} {x v : Int32} (h : ¬ isDg x) : fX2_takes K x v = fX2_takes_J17 K x v 0 := by
  unfold fX2_takes fX2_takes_J16
  by_cases q : x < 48
  · rw [ifp q]
  · rw [ifn q, ifp (Classical.byContradiction fun z => h ⟨q, z⟩)]
theorem takes_dg {K : II} {x v : Int32} (h : isDg x) : fX2_takes K x v = fX2_takes_J17 K x v 1 := by
  unfold fX2_takes
  rw [ifn h.1, ifn h.2]
theorem takes_let {K : II} {x : Int32} {W oc : Nat} (h1 : K 88 4 = nI oc) (h2 : K 88 5 = 0) (hoc : oc < 40) (hx : bC x = true) (hL : LTR W x) (hO : fX2_isOrder x (nI W) = some 1) : fX2_takes K x (nI W) = some (1, up2 (up2 (up2 (up2 K 90 oc x) 91 oc 0) 88 4 (nI (oc + 1))) 88 5 (if x = 35 then 1 else 0)) := by
  rw [takes_nd (LT_nd hL)]
  unfold fX2_takes_J17 fX2_takesLetter
  rw [h2, jf0, jf0, hO, bd1, jf1, h1, ifn (show ¬ nI oc < (0 : Int32) from fun z => by have := (nI_ltI (b := 0) (by omega) (by omega)).mp z; omega), ifp (show nI oc < (40 : Int32) from (nI_ltI (b := 40) (by omega) (by omega)).mpr hoc), ckN hoc (by omega), ck_t hx, tnN (show oc < 2 ^ 31 by omega), bd1, up2_n (show (88 : Nat) ≠ 90 by omega), h1, ckN hoc (by omega), tnN (show oc < 2 ^ 31 by omega), bd1, up2_n (show (88 : Nat) ≠ 91 by omega), up2_n (show (88 : Nat) ≠ 90 by omega), h1, nI_1, bd1]
  by_cases q : x = 35
  · rw [ifn (fun z => z q), if_pos q, bd1, bd1, show bB 1 = true from rfl, ck_t rfl]
  · rw [ifp q, if_neg q, bd1, bd1, show bB 1 = true from rfl, ck_t rfl]
theorem takes_no {K : II} {x : Int32} {W : Nat} (h2 : K 88 5 = 0) (hd : ¬ isDg x) (hO : fX2_isOrder x (nI W) = some 0) : fX2_takes K x (nI W) = some (0, K) := by
  rw [takes_nd hd]
  unfold fX2_takes_J17 fX2_takesLetter
  rw [h2, jf0, jf0, hO, bd1, jf0, bd1, show bB 0 = true from rfl, ck_t rfl]
theorem takes_d {K : II} {x : Int32} {W oc N d : Nat} (h1 : K 88 4 = nI (oc + 1)) (h2 : K 88 5 = 0) (hoc : oc < 40) (hx : isDg x) (hd : x - 48 = nI d) (h9 : d ≤ 9) (hn : K 91 oc = nI N) (hN : N ≤ 50) : fX2_takes K x (nI W) = if K 90 oc ≠ 35 ∧ 1 ≤ N * 10 + d ∧ N * 10 + d ≤ 50 then some (1, up2 K 91 oc (nI (N * 10 + d))) else some (0, K) := by
  rw [takes_dg hx]
  unfold fX2_takes_J17 fX2_takesDigit
  rw [h2, jf0, jf1, h1, show nI (oc + 1) - 1 = nI oc from pk_sub (a := oc + 1) (b := 1) (by omega), ifn (show ¬ nI oc < (0 : Int32) from fun z => by have := (nI_ltI (b := 0) (by omega) (by omega)).mp z; omega), ifn (show ¬ (40 : Int32) ≤ nI oc from nle (a := 40) (by omega) (by omega) (by omega)), ckN hoc (by omega), ckN hoc (by omega), ckN hoc (by omega), tnN (show oc < 2 ^ 31 by omega), hd, hn, show (10 : Int32) = nI 10 from rfl, pk_mul, nI_add, isB_sp]
  by_cases q : K 90 oc = 35
  · rw [ifn (fun z => z q), if_neg (fun z => z.1 q), bd1, show bB 0 = true from rfl, ck_t rfl]
  · rw [ifp q]
    rcases rng (nI (N * 10 + d)) 1 50 (by omega) (by omega) with ⟨m, m1, m2, m3, e⟩ | ⟨hno, e⟩
    · have : N * 10 + d = m := (nI_eq (by omega) (by omega)).mp m3
      rw [show fX9_in (nI (N * 10 + d)) 1 50 = _ from e, bd1, if1, if_pos ⟨q, by omega, by omega⟩, bd1, bd1, show bB 1 = true from rfl, ck_t rfl]
    · rw [show fX9_in (nI (N * 10 + d)) 1 50 = _ from e, bd1, if0, if_neg (fun z => hno _ z.2.2 z.2.1 rfl), bd1, show bB 0 = true from rfl, ck_t rfl]
theorem takes_d0 {K : II} {x : Int32} {W : Nat} (h1 : K 88 4 = nI 0) (h2 : K 88 5 = 0) (hx : isDg x) : fX2_takes K x (nI W) = some (0, K) := by
  rw [takes_dg hx]
  unfold fX2_takes_J17 fX2_takesDigit
  rw [h2, jf0, jf1, h1, ifp (by decide), bd1, show bB 0 = true from rfl, ck_t rfl]
theorem takes_w {K : II} {x : Int32} {W oc d : Nat} (h1 : K 88 4 = nI (oc + 1)) (h2 : K 88 5 = 1) (hoc : oc < 40) (hx : isDg x) (hd : x - 48 = nI d) (h9 : d ≤ 9) (h8 : W ≤ 8) : fX2_takes K x (nI W) = if d < W then some (1, up2 (up2 K 88 5 0) 91 oc (nI d)) else some (0, up2 K 88 5 0) := by
  rw [takes_dg hx]
  unfold fX2_takes_J17 fX2_takesWalker
  rw [h2, jf1, bd1, jf1, hd, up2_b (show (4 : Nat) ≠ 5 by omega), h1, show nI (oc + 1) - 1 = nI oc from pk_sub (a := oc + 1) (b := 1) (by omega)]
  by_cases q : d < W
  · rw [ifn (nle (by omega) (by omega) q), if_pos q, ifn (show ¬ nI oc < (0 : Int32) from fun z => by have := (nI_ltI (b := 0) (by omega) (by omega)).mp z; omega), ifp (show nI oc < (40 : Int32) from (nI_ltI (b := 40) (by omega) (by omega)).mpr hoc), ckN hoc (by omega), tnN (show oc < 2 ^ 31 by omega), bd1, bd1, jf1]
  · rw [ifp (yle (by omega) (by omega) (by omega)), if_neg q, bd1, jf0]
theorem takes_wn {K : II} {x : Int32} {W : Nat} (h2 : K 88 5 = 1) (hx : ¬ isDg x) : fX2_takes K x (nI W) = some (0, up2 K 88 5 0) := by
  rw [takes_nd hx]
  unfold fX2_takes_J17
  rw [h2, jf1, bd1, jf0]
theorem isDigit_M {L : II} {len p : Nat} {tx : Nat → Int32} (h1 : L 134 13 = nI len) (hl : len ≤ 40) (ht : ∀ j, j < len → L 146 j = tx j) (hp : p < 1000) : ((p < len ∧ isDg (tx p)) → fX9_isDigit L (nI p) = some 1) ∧ (¬ (p < len ∧ isDg (tx p)) → fX9_isDigit L (nI p) = some 0) := by
  unfold fX9_isDigit
  rw [h1]
  by_cases q : p < len
  · rw [ifn (nle (by omega) (by omega) q), ckN (show p < 40 by omega) (by omega), ckN (show p < 40 by omega) (by omega), tnN (show p < 2 ^ 31 by omega), ht p q]
    constructor
    · rintro ⟨-, z⟩
      rw [ifn z.1, ifn z.2]
    · intro z
      by_cases r : tx p < 48
      · rw [ifp r]
      · rw [ifn r, ifp (Classical.byContradiction fun y => z ⟨q, r, y⟩)]
  · rw [ifp (yle (by omega) (by omega) (by omega))]
    exact ⟨fun z => absurd z.1 q, fun _ => rfl⟩
