/-! both readers side by side -/
def PLr (W : Nat) (K L : II) (oc : Nat) : Prop := K 88 4 = nI oc ∧ L 134 15 = nI oc ∧ oc ≤ 40 ∧ ∀ j, j < oc → ∃ x N, LTR W x ∧ bC x = true ∧ K 90 j = x ∧ L 147 j = x ∧ K 91 j = nI N ∧ ((x = 35 ∧ L 148 j = nI N ∧ N < W) ∨ (x ≠ 35 ∧ L 148 j = nI (max N 1) ∧ N ≤ 50))
theorem PLr.add {W : Nat} {K L K' L' : II} {oc : Nat} (h : PLr W K L oc) (ho : oc < 40) (x : Int32) (N : Nat) (hx : LTR W x) (hb : bC x = true) (k1 : K' 88 4 = nI (oc + 1)) (l1 : L' 134 15 = nI (oc + 1)) (kx : K' 90 oc = x) (lx : L' 147 oc = x) (kn : K' 91 oc = nI N) (hN : (x = 35 ∧ L' 148 oc = nI N ∧ N < W) ∨ (x ≠ 35 ∧ L' 148 oc = nI (max N 1) ∧ N ≤ 50)) (ko : ∀ j, j ≠ oc → K' 90 j = K 90 j ∧ K' 91 j = K 91 j) (lo : ∀ j, j ≠ oc → L' 147 j = L 147 j ∧ L' 148 j = L 148 j) : PLr W K' L' (oc + 1) := by
  refine ⟨k1, l1, by omega, fun j hj => ?_⟩
  by_cases e : j = oc
  · rw [e]
    exact ⟨x, N, hx, hb, kx, lx, kn, hN⟩
  · rw [(ko j e).1, (ko j e).2, (lo j e).1, (lo j e).2]
    exact h.2.2.2 j (by omega)
theorem read_CM {W len : Nat} {tx : Nat → Int32} (h8 : W ≤ 8) (hl : len ≤ 40) (hb : ∀ j, j < len → bC (tx j) = true) (K0 L0 : II) (k1 : K0 88 1 = nI len) (k2 : ∀ j, j < len → K0 89 j = tx j) (l1 : L0 134 13 = nI len) (l2 : ∀ j, j < len → L0 146 j = tx j) (l3 : L0 135 2 = nI W) (hlen : 0 < len) :
    ∀ (n p oc fu fv : Nat) (K L : II), p ≤ len → len ≤ p + n → 3 * n + 3 < fu → n < fv → FP K0 K → FQ L0 L → PLr W K L oc → oc ≤ p → K 88 5 = 0 → (p < len → isDg (tx p) → oc = 0 ∨ K 90 (oc - 1) = 35 ∨ ∃ N, 10 ≤ N ∧ N ≤ 50 ∧ K 91 (oc - 1) = nI N) →
      ∃ K' L' r s, fX2_readOrders_L12 fu (fun I8 => (if (I8 88 1) = 0 then some ((I8 88 1), I8) else (if (I8 88 5) = 0 then some ((-1), I8) else some ((I8 88 1), I8)))) (nI W) (nI p) K = some (r, K') ∧ fX9_readPlan_L7 fv (fun I42 => some ((-5), I42)) (nI p) L = some (s, L') ∧ FP K0 K' ∧ FQ L0 L' ∧ ((r = -1 ∧ s = -5 ∧ ∃ oc', PLr W K' L' oc') ∨ ∃ q, q ≤ 40 ∧ r = nI q ∧ s = nI q) := by
  intro n
  induction n with
  | zero =>
    intro p oc fu fv K L hp1 hp2 hfu hfv fK fL hPL hoc h5 hd
    obtain ⟨fu, rfl⟩ : ∃ m, fu = m + 1 := ⟨fu - 1, by omega⟩
    obtain ⟨fv, rfl⟩ : ∃ m, fv = m + 1 := ⟨fv - 1, by omega⟩
    have e : p = len := by omega
    refine ⟨K, L, -1, -5, ?_, ?_, fK, fL, Or.inl ⟨rfl, rfl, oc, hPL⟩⟩
    · show (if (K 88 1) ≤ nI p then (if (K 88 1) = 0 then some ((K 88 1), K) else (if (K 88 5) = 0 then some ((-1), K) else some ((K 88 1), K))) else _) = _
      rw [fK.2 1 (by omega) (by omega), k1, ifp (yle (by omega) (by omega) (by omega)), ifn (show ¬ nI len = (0 : Int32) from fun z => by have := (eqN (b := 0) (by omega) (by omega)).mp z; omega), h5, jf0]
    · show (if nI p < (L 134 13) then _ else (if ¬ nI p = 0 then some ((-5), L) else _)) = _
      rw [fL.2 13 (by omega), l1, ifn (fun z => by have := (nI_ltI (by omega) (by omega)).mp z; omega), ifp (show ¬ nI p = (0 : Int32) from fun z => by have := (eqN (b := 0) (by omega) (by omega)).mp z; omega)]
  | succ n ih =>
    intro p oc fu fv K L hp1 hp2 hfu hfv fK fL hPL hoc h5 hd
    by_cases hpl : p = len
    · exact ih p oc fu fv K L hp1 (by omega) (by omega) (by omega) fK fL hPL hoc h5 hd
    have hp : p < len := by omega
    obtain ⟨fu, rfl⟩ : ∃ m, fu = m + 3 := ⟨fu - 3, by omega⟩
    obtain ⟨fv, rfl⟩ : ∃ m, fv = m + 1 := ⟨fv - 1, by omega⟩
    -- one char of the class's
    have cst : ∀ (f q : Nat) (M M' : II) (b : Int32), q < len → FP K0 M → fX2_takes M (tx q) (nI W) = some (b, M') → fX2_readOrders_L12 (f + 1) (fun I8 => (if (I8 88 1) = 0 then some ((I8 88 1), I8) else (if (I8 88 5) = 0 then some ((-1), I8) else some ((I8 88 1), I8)))) (nI W) (nI q) M = (if ¬ b = 0 then fX2_readOrders_L12 f (fun I8 => (if (I8 88 1) = 0 then some ((I8 88 1), I8) else (if (I8 88 5) = 0 then some ((-1), I8) else some ((I8 88 1), I8)))) (nI W) (nI (q + 1)) M' else some (nI q, M')) := by
      intro f q M M' b hq hM ht
      show (if (M 88 1) ≤ nI q then _ else (if (40 : Int32) ≤ nI q then _ else ck (ix (nI q) 40) ((fX2_takes M (M 89 (nI q).toNatClampNeg) (nI W)).bind fun v6 => (if ¬ v6.1 = 0 then fX2_readOrders_L12 f _ (nI W) (nI q + 1) v6.2 else some (nI q, v6.2))))) = _
      rw [hM.2 1 (by omega) (by omega), k1, ifn (nle (by omega) (by omega) hq), ifn (show ¬ (40 : Int32) ≤ nI q from nle (a := 40) (by omega) (by omega) (by omega)), ckN (show q < 40 by omega) (by omega), tnN (show q < 2 ^ 31 by omega), hM.1 89 (by omega) (by omega) (by omega), k2 q hq, ht, bd1, nI_1]
    have cend : ∀ (f : Nat) (M : II), FP K0 M → M 88 5 = 1 → fX2_readOrders_L12 (f + 1) (fun I8 => (if (I8 88 1) = 0 then some ((I8 88 1), I8) else (if (I8 88 5) = 0 then some ((-1), I8) else some ((I8 88 1), I8)))) (nI W) (nI len) M = some (nI len, M) := by
      intro f M hM h
      show (if (M 88 1) ≤ nI len then (if (M 88 1) = 0 then some ((M 88 1), M) else (if (M 88 5) = 0 then some ((-1), M) else some ((M 88 1), M))) else _) = _
      rw [hM.2 1 (by omega) (by omega), k1, ifp (yle (by omega) (by omega) (Nat.le_refl _)), ifn (show ¬ nI len = (0 : Int32) from fun z => by have := (eqN (b := 0) (by omega) (by omega)).mp z; omega), h, jf1]
    have mst : fX9_readPlan_L7 (fv + 1) (fun I42 => some ((-5), I42)) (nI p) L = fX9_readPlan_J19 (fX9_readPlan_L7 fv (fun I42 => some ((-5), I42))) (fun I42 => some ((-5), I42)) L (nI p) := by
      show (if nI p < (L 134 13) then _ else _) = _
      rw [fL.2 13 (by omega), l1, ifp ((nI_ltI (by omega) (by omega)).mpr hp)]
    have L13 : L 134 13 = nI len := by rw [fL.2 13 (by omega)]; exact l1
    have L146 : ∀ j, j < len → L 146 j = tx j := fun j hj => by rw [fL.1 146 (by omega) (by omega) (by omega)]; exact l2 j hj
    have L2 : L 135 2 = nI W := by rw [fL.1 135 (by omega) (by omega) (by omega)]; exact l3
    rw [mst]
    rcases let_CM L2 h8 (tx p) with ⟨a1, a2, a3⟩ | ⟨a1, a2⟩
    · -- a letter
      have oc40 : oc < 40 := by omega
      have t1 := takes_let hPL.1 h5 oc40 (hb p hp) a3 a2
      have J := J19_let L13 hl L146 hp hoc hPL.2.1 L2 h8 (hb p hp) a1 (fX9_readPlan_L7 fv (fun I42 => some ((-5), I42))) (fun I42 => some ((-5), I42))
      rw [cst (fu + 2) p K _ 1 hp fK t1, if1]
      generalize hK1 : up2 (up2 (up2 (up2 K 90 oc (tx p)) 91 oc 0) 88 4 (nI (oc + 1))) 88 5 (if tx p = 35 then 1 else 0) = K1 at *
      have f1 : FP K0 K1 := by rw [← hK1]; exact fK.tr (FP.a90.tr (FP.a91.tr (FP.a4.tr FP.a5)))
      have c4 : K1 88 4 = nI (oc + 1) := by rw [← hK1, up2_b (by omega), up2_a]
      have c90 : K1 90 oc = tx p := by rw [← hK1, up2_n (by omega), up2_n (by omega), up2_n (by omega), up2_a]
      have c91 : K1 91 oc = nI 0 := by rw [← hK1, up2_n (by omega), up2_n (by omega), up2_a]; rfl
      have co : ∀ j, j ≠ oc → K1 90 j = K 90 j ∧ K1 91 j = K 91 j := fun j hj => by
        rw [← hK1]
        rw [up2_n (show (90 : Nat) ≠ 88 by omega), up2_n (show (90 : Nat) ≠ 88 by omega), up2_n (show (90 : Nat) ≠ 91 by omega), up2_b hj, up2_n (show (91 : Nat) ≠ 88 by omega), up2_n (show (91 : Nat) ≠ 88 by omega), up2_b hj, up2_n (show (91 : Nat) ≠ 90 by omega)]
        exact ⟨rfl, rfl⟩
      by_cases q : tx p = 35
      · -- the walker's sign
        have c5 : K1 88 5 = 1 := by rw [← hK1, up2_a, if_pos q]
        by_cases d1 : p + 1 < len ∧ isDg (tx (p + 1))
        · obtain ⟨d, hd9, hdx, hds⟩ := dg_v d1.2
          have t2 := takes_w (W := W) c4 c5 oc40 d1.2 hds hd9 h8
          obtain ⟨j1, j2⟩ := J.2.2.2.2 q d1.1 d hd9 hdx d1.2
          by_cases w : d < W
          · rw [if_pos w] at t2
            rw [cst (fu + 1) (p + 1) K1 _ 1 d1.1 f1 t2, if1, j1 w]
            refine ih (p + 2) (oc + 1) (fu + 1) fv _ _ (by omega) (by omega) (by omega) (by omega) (f1.tr (FP.a5.tr FP.a91)) (fL.tr (FQ.a147.tr (FQ.a148.tr (FQ.a148.tr FQ.a134)))) (hPL.add oc40 (tx p) d a3 (hb p hp) ?_ up2_a ?_ ?_ up2_a (Or.inl ⟨q, ?_, w⟩) (fun j hj => ?_) (fun j hj => ?_)) (by omega) ?_ (fun _ _ => Or.inr (Or.inl ?_))
            · rw [up2_n (by omega), up2_b (by omega)]; exact c4
            · rw [up2_n (by omega), up2_n (by omega)]; exact c90
            · rw [up2_n (by omega), up2_n (by omega), up2_n (by omega), up2_a]
            · rw [up2_n (by omega), up2_a]
            · rw [up2_n (by omega), up2_n (by omega), up2_b hj, up2_n (by omega)]
              exact co j hj
            · rw [up2_n (by omega), up2_n (by omega), up2_n (by omega), up2_b hj, up2_n (by omega), up2_b hj, up2_b hj, up2_n (by omega)]
              exact ⟨rfl, rfl⟩
            · rw [up2_n (by omega), up2_a]
            · rw [up2_n (by omega), up2_n (by omega), show oc + 1 - 1 = oc by omega, c90]; exact q
          · rw [if_neg w] at t2
            obtain ⟨L', j3, j4⟩ := j2 (by omega)
            rw [cst (fu + 1) (p + 1) K1 _ 0 d1.1 f1 t2, if0, j3]
            exact ⟨_, L', _, _, rfl, rfl, f1.tr FP.a5, fL.tr j4, Or.inr ⟨p + 1, by omega, rfl, rfl⟩⟩
        · obtain ⟨L', j3, j4⟩ := J.2.2.2.1 q d1
          rw [j3]
          by_cases e : p + 1 < len
          · rw [cst (fu + 1) (p + 1) K1 _ 0 e f1 (takes_wn c5 (fun z => d1 ⟨e, z⟩)), if0]
            exact ⟨_, L', _, _, rfl, rfl, f1.tr FP.a5, fL.tr j4, Or.inr ⟨p + 1, by omega, rfl, rfl⟩⟩
          · rw [show p + 1 = len by omega, cend (fu + 1) K1 f1 c5]
            exact ⟨_, L', _, _, rfl, rfl, f1, fL.tr j4, Or.inr ⟨len, by omega, rfl, rfl⟩⟩
      · -- an order
        have c5 : K1 88 5 = 0 := by rw [← hK1, up2_a, if_neg q]
        have q90 : K1 90 oc ≠ 35 := by rw [c90]; exact q
        by_cases d1 : p + 1 < len ∧ isDg (tx (p + 1))
        · obtain ⟨d, hd9, hdx, hds⟩ := dg_v d1.2
          have t2 := takes_d (W := W) c4 c5 oc40 d1.2 hds hd9 c91 (by omega)
          by_cases w : d = 0
          · rw [if_neg (by omega)] at t2
            obtain ⟨L', j3, j4⟩ := J.2.1 q d1.1 d hd9 hdx d1.2 w
            rw [cst (fu + 1) (p + 1) K1 _ 0 d1.1 f1 t2, if0, j3]
            exact ⟨_, L', _, _, rfl, rfl, f1, fL.tr j4, Or.inr ⟨p + 1, by omega, rfl, rfl⟩⟩
          · rw [if_pos ⟨q90, by omega, by omega⟩, show 0 * 10 + d = d by omega] at t2
            obtain ⟨j1, j2⟩ := J.2.2.1 q d1.1 d hd9 hdx d1.2 w
            rw [cst (fu + 1) (p + 1) K1 _ 1 d1.1 f1 t2, if1]
            have f2 : FP K0 (up2 K1 91 oc (nI d)) := f1.tr FP.a91
            have c42 : up2 K1 91 oc (nI d) 88 4 = nI (oc + 1) := by rw [up2_n (by omega)]; exact c4
            have c52 : up2 K1 91 oc (nI d) 88 5 = 0 := by rw [up2_n (by omega)]; exact c5
            by_cases d2 : p + 2 < len ∧ isDg (tx (p + 2))
            · obtain ⟨e, he9, hex, hes⟩ := dg_v d2.2
              have t3 := takes_d (K := up2 K1 91 oc (nI d)) (W := W) c42 c52 oc40 d2.2 hes he9 up2_a (by omega)
              rw [up2_n (show (90 : Nat) ≠ 91 by omega)] at t3
              obtain ⟨j3, j4⟩ := j2 d2.1 e he9 hex d2.2
              by_cases w2 : 10 * d + e ≤ 50
              · rw [if_pos ⟨q90, by omega, by omega⟩, show d * 10 + e = 10 * d + e by omega] at t3
                rw [cst fu (p + 2) _ _ 1 d2.1 f2 t3, if1, j3 w2]
                refine ih (p + 3) (oc + 1) fu fv _ _ (by omega) (by omega) (by omega) (by omega) (f2.tr FP.a91) (fL.tr (FQ.a147.tr (FQ.a148.tr (FQ.a148.tr (FQ.a148.tr FQ.a134))))) (hPL.add oc40 (tx p) (10 * d + e) a3 (hb p hp) ?_ up2_a ?_ ?_ up2_a (Or.inr ⟨q, ?_, w2⟩) (fun j hj => ?_) (fun j hj => ?_)) (by omega) ?_ (fun _ _ => Or.inr (Or.inr ⟨10 * d + e, by omega, w2, ?_⟩))
                · rw [up2_n (by omega)]; exact c42
                · rw [up2_n (by omega), up2_n (by omega)]; exact c90
                · rw [up2_n (by omega), up2_n (by omega), up2_n (by omega), up2_n (by omega), up2_a]
                · rw [up2_n (by omega), up2_a, show max (10 * d + e) 1 = 10 * d + e by omega]
                · rw [up2_n (by omega), up2_n (by omega), up2_b hj, up2_b hj]
                  exact co j hj
                · rw [up2_n (by omega), up2_n (by omega), up2_n (by omega), up2_n (by omega), up2_b hj, up2_n (by omega), up2_b hj, up2_b hj, up2_b hj, up2_n (by omega)]
                  exact ⟨rfl, rfl⟩
                · rw [up2_n (by omega)]; exact c52
                · rw [show oc + 1 - 1 = oc by omega, up2_a]
              · rw [if_neg (by omega)] at t3
                obtain ⟨L', j5, j6⟩ := j4 (by omega)
                rw [cst fu (p + 2) _ _ 0 d2.1 f2 t3, if0, j5]
                exact ⟨_, L', _, _, rfl, rfl, f2, fL.tr j6, Or.inr ⟨p + 2, by omega, rfl, rfl⟩⟩
            · rw [j1 d2]
              refine ih (p + 2) (oc + 1) (fu + 1) fv _ _ (by omega) (by omega) (by omega) (by omega) f2 (fL.tr (FQ.a147.tr (FQ.a148.tr (FQ.a148.tr FQ.a134)))) (hPL.add oc40 (tx p) d a3 (hb p hp) c42 up2_a ?_ ?_ up2_a (Or.inr ⟨q, ?_, by omega⟩) (fun j hj => ?_) (fun j hj => ?_)) (by omega) c52 (fun z1 z2 => absurd ⟨z1, z2⟩ d2)
              · rw [up2_n (by omega)]; exact c90
              · rw [up2_n (by omega), up2_n (by omega), up2_n (by omega), up2_a]
              · rw [up2_n (by omega), up2_a, show max d 1 = d by omega]
              · rw [up2_n (by omega), up2_b hj]
                exact co j hj
              · rw [up2_n (by omega), up2_n (by omega), up2_n (by omega), up2_b hj, up2_n (by omega), up2_b hj, up2_b hj, up2_n (by omega)]
                exact ⟨rfl, rfl⟩
        · rw [J.1 q d1]
          refine ih (p + 1) (oc + 1) (fu + 2) fv _ _ (by omega) (by omega) (by omega) (by omega) f1 (fL.tr (FQ.a147.tr (FQ.a148.tr FQ.a134))) (hPL.add oc40 (tx p) 0 a3 (hb p hp) c4 up2_a c90 ?_ c91 (Or.inr ⟨q, ?_, by omega⟩) co (fun j hj => ?_)) (by omega) c5 (fun z1 z2 => absurd ⟨z1, z2⟩ d1)
          · rw [up2_n (by omega), up2_n (by omega), up2_a]
          · rw [up2_n (by omega), up2_a]; rfl
          · rw [up2_n (by omega), up2_n (by omega), up2_b hj, up2_n (by omega), up2_b hj, up2_n (by omega)]
            exact ⟨rfl, rfl⟩
    · -- no letter
      rw [J19_no L13 hl hp (L146 p hp) a1]
      have t0 : fX2_takes K (tx p) (nI W) = some (0, K) := by
        by_cases dg : isDg (tx p)
        · by_cases o0 : oc = 0
          · have := hPL.1
            rw [o0] at this
            exact takes_d0 this h5 dg
          · obtain ⟨m, rfl⟩ : ∃ m, oc = m + 1 := ⟨oc - 1, by omega⟩
            obtain ⟨d, hd9, hdx, hds⟩ := dg_v dg
            obtain ⟨x, N, x1, x2, x3, x4, x5, x6⟩ := hPL.2.2.2 m (by omega)
            have hm40 := hPL.2.2.1
            have hN : N ≤ 50 := by
              rcases x6 with y | y
              · have := y.2.2; omega
              · exact y.2.2
            have t := takes_d (W := W) hPL.1 h5 (show m < 40 by omega) dg hds hd9 x5 hN
            rw [t, if_neg]
            rcases hd hp dg with z | z | ⟨M, z1, z2, z3⟩
            · omega
            · exact fun y => y.1 z
            · rw [show m + 1 - 1 = m by omega, x5] at z3
              have := (nI_eq (by omega) (by omega)).mp z3
              omega
        · exact takes_no h5 dg a2
      rw [cst (fu + 2) p K K 0 hp fK t0, if0]
      exact ⟨K, L, _, _, rfl, rfl, fK, fL, Or.inr ⟨p, by omega, rfl, rfl⟩⟩
