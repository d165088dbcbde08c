/-! heaps as the law counts them, whole -/
theorem sm_zs {f : Nat → Nat} {X : Nat} : ∀ n, (∀ i, X ≤ i → i < X + n → f i = 0) → sm f (X + n) = sm f X
  | 0, _ => rfl
  | n + 1, h => by
    show sm f (X + n) + f (X + n) = sm f X
    rw [sm_zs n (fun i h1 h2 => h i h1 (by omega)), h _ (by omega) (by omega)]
    omega
theorem cnt_zs {g : Nat → Nat} {X n : Nat} (h : ∀ i, X ≤ i → i < X + n → g i = 0) : cnt (fun i => 0 < g i) (X + n) = cnt (fun i => 0 < g i) X := sm_zs n (fun i h1 h2 => dd_f (show ¬ 0 < g i by rw [h i h1 h2]; omega))
section HL
variable {A : AbS} {g : Nat → Nat}
theorem row_sp (hG : GI A) (hg : g = gR A.1) {r : Nat} (hr : r < A.1 0) (ct : Int32 → Int32 → II → Option Int32) : ∀ (n c fu : Nat) (q : II), c + n = A.1 1 → n < fu → HI g q (16 * r + c) →
    ∃ q', HI g q' (16 * r + A.1 1) ∧ hL_heaps_L50 fu ct (nI (mF g)) (nI r) A (nI (sm g (16 * r + c))) (nI (cnt (fun i => 0 < g i) (16 * r + c))) (nI c) q = ct (nI (sm g (16 * r + A.1 1))) (nI (cnt (fun i => 0 < g i) (16 * r + A.1 1))) q' := by
  intro n
  induction n with
  | zero =>
    intro c fu q hc hf hI
    obtain ⟨fu, rfl⟩ : ∃ m, fu = m + 1 := ⟨fu - 1, by omega⟩
    have b2 := hG.1.1.2.1
    have e : c = A.1 1 := by omega
    rw [← e]
    refine ⟨q, hI, ?_⟩
    show (if (qCount A 1) ≤ nI c then ct _ _ q else _) = _
    rw [qc1, if_pos (yle (by omega) (by omega) (by omega))]
  | succ n ih =>
    intro c fu q hc hf hI
    obtain ⟨fu, rfl⟩ : ∃ m, fu = m + 1 := ⟨fu - 1, by omega⟩
    obtain ⟨q1, h1, h2⟩ := cell_sp hG hg hr (show c < A.1 1 by omega) fu ct hI
    rw [h2]
    exact ih (c + 1) fu q1 (by omega) (by omega) h1
theorem rows_sp (hG : GI A) (hg : g = gR A.1) (ct : Int32 → Int32 → II → Option Int32) : ∀ (n r fu : Nat) (q : II), r + n = A.1 0 → n < fu → HI g q (16 * r) →
    ∃ q', HI g q' (16 * A.1 0) ∧ hL_heaps_L37 fu ct (nI (mF g)) A (nI (sm g (16 * r))) (nI (cnt (fun i => 0 < g i) (16 * r))) (nI r) q = ct (nI (sm g (16 * A.1 0))) (nI (cnt (fun i => 0 < g i) (16 * A.1 0))) q' := by
  intro n
  have b1 := hG.1.1.1
  have b2 := hG.1.1.2.1
  have b4 := hG.1.1.2.2.2
  induction n with
  | zero =>
    intro r fu q hr hf hI
    obtain ⟨fu, rfl⟩ : ∃ m, fu = m + 1 := ⟨fu - 1, by omega⟩
    have e : r = A.1 0 := by omega
    rw [← e]
    refine ⟨q, hI, ?_⟩
    show (if (qCount A 0) ≤ nI r then ct _ _ q else _) = _
    rw [qc0, if_pos (yle (by omega) (by omega) (by omega))]
  | succ n ih =>
    intro r fu q hr hf hI
    obtain ⟨fu, rfl⟩ : ∃ m, fu = m + 1 := ⟨fu - 1, by omega⟩
    obtain ⟨q1, h1, h2⟩ := row_sp hG hg (r := r) (by omega) (fun z32 z33 q34 => hL_heaps_L37 fu ct (nI (mF g)) A z32 z33 (nI r + 1) q34) (A.1 1) 0 2000 q (by omega) (by omega) hI
    have e : hL_heaps_L37 (fu + 1) ct (nI (mF g)) A (nI (sm g (16 * r))) (nI (cnt (fun i => 0 < g i) (16 * r))) (nI r) q = (if (qCount A 0) ≤ nI r then ct (nI (sm g (16 * r))) (nI (cnt (fun i => 0 < g i) (16 * r))) q else hL_heaps_L50 2000 (fun z32 z33 q34 => hL_heaps_L37 fu ct (nI (mF g)) A z32 z33 (nI r + 1) q34) (nI (mF g)) (nI r) A (nI (sm g (16 * r))) (nI (cnt (fun i => 0 < g i) (16 * r))) 0 q) := rfl
    have hz : ∀ i, 16 * r + A.1 1 ≤ i → i < 16 * r + A.1 1 + (16 - A.1 1) → g i = 0 := fun i i1 i2 => by
      rw [hg]
      exact b4 i (by omega) (Or.inr (by omega))
    have e16 : 16 * r + A.1 1 + (16 - A.1 1) = 16 * (r + 1) := by omega
    have s1 := sm_zs (16 - A.1 1) hz
    have s2 := cnt_zs hz
    have h3 := h1.skips (16 - A.1 1) hz
    rw [e16] at s1 s2 h3
    rw [e, qc0, if_neg (nle (by omega) (by omega) (by omega))]
    have h2' : hL_heaps_L50 2000 (fun z32 z33 q34 => hL_heaps_L37 fu ct (nI (mF g)) A z32 z33 (nI r + 1) q34) (nI (mF g)) (nI r) A (nI (sm g (16 * r))) (nI (cnt (fun i => 0 < g i) (16 * r))) 0 q = _ := h2
    rw [h2', ← s1, ← s2, nI_1]
    exact ih (r + 1) fu q1 (by omega) (by omega) h3
/-- the heap at a place: its label, its root, what it has -/
theorem place_sp (hb : ∀ c, c < 256 → g c ≤ 99) {q : II} (hI : HI g q 256) {h : Nat} (hh : h < mF g) (h64 : h < 64) : hpAt g h < mF g ∧ Plc g (hpAt g h) = h ∧ cnt (iH g h) 256 = cnF g (hpAt g h) ∧ isRt g (rtAt g (hpAt g h)) ∧ rk g (rtAt g (hpAt g h)) = hpAt g h ∧ q 0 h = nI (cnF g (hpAt g h)) ∧ q 3 h = nI (szF g (hpAt g h)) ∧ q 1 h = nI (moF g (hpAt g h)) ∧ q 2 h = nI (100 * (rtAt g (hpAt g h) / 16) + rtAt g (hpAt g h) % 16) ∧ 0 < cnF g (hpAt g h) := by
  obtain ⟨k1, k2⟩ := hpAt_sp hh
  generalize hpAt g h = k at *
  obtain ⟨x, x1, x2, x3⟩ := rk_ex 256 (show k < rk g 256 from k1)
  have ex : rtAt g k = x := by rw [← x3, rtAt_eq x2]
  have set : ∀ i, i < 256 → (iH g h i ↔ Conn g (rtAt g k) i) := fun i hi => by
    rw [← conn_lab k1 hi]
    constructor
    · intro z
      exact ⟨z.1, Plc_inj (labF_lt hi z.1) k1 (by rw [z.2, k2])⟩
    · intro z
      exact ⟨z.1, by rw [z.2, k2]⟩
  have hc : cnt (iH g h) 256 = cnF g k := cnt_congr set
  have hs : sme g (iH g h) 256 = szF g k := sme_congr set
  have hm : mxe g (iH g h) 256 = moF g k := mxe_congr 256 set
  obtain ⟨a, b, c, d⟩ := hI h h64 hh
  have hx : iH g h x := (set x x1).mpr (by rw [ex]; exact Conn.rf)
  have hpos : 0 < cnF g k := by
    rw [← hc]
    exact Nat.pos_of_ne_zero (fun z => cnt0 256 z x x1 hx)
  refine ⟨k1, k2, hc, by rw [ex]; exact x2, by rw [ex]; exact x3, by rw [a, hc], by rw [b, hs], by rw [c, hm], ?_, hpos⟩
  rcases d with d | ⟨i, i1, i2, i3, i4⟩
  · omega
  · have hxi := (set i i1).mp i2
    rw [ex] at hxi ⊢
    have l1 : x ≤ i := x2.2 i i1 i2.1 (Conn.sym x1 x2.1.2 hxi).2
    have l2 : ¬ x < i := fun z => i3 x z hx
    rw [i4, show i = x by omega]
theorem hp_val (hg : g = gR A.1) {h y : Nat} (hh : h < mF g) (hy : y ≤ 4) : qHeap A (nI h) (nI y) = hpV g (hpAt g h) (nI y) := by
  subst hg
  have hm := mF_le (gR A.1)
  unfold qHeap
  rw [if_neg (nI_pos (by omega)), if_pos ((rgX_N (by omega) (by omega) (by omega)).mpr ⟨by omega, hy⟩), nI_toInt (by omega), if_pos (by omega), tnN (by omega)]
theorem hloop (hG : GI A) (hg : g = gR A.1) {q : II} (hI : HI g q 256) (ct : Int32 → Option Int32) (x2 x3 : Int32) : ∀ (n h fu : Nat), h + n = min (mF g) 64 → n < fu →
    hL_heaps_L304 fu ct (nI (mF g)) x2 x3 A q (nI (sm (fun k => cnt (iH g k) 256) h)) (nI h) = ct (nI (sm (fun k => cnt (iH g k) 256) (min (mF g) 64))) := by
  have hb : ∀ c, c < 256 → g c ≤ 99 := by rw [hg]; exact hG.1.1.2.2.1
  have hm := mF_le g
  intro n
  induction n with
  | zero =>
    intro h fu hh hf
    obtain ⟨fu, rfl⟩ : ∃ m, fu = m + 1 := ⟨fu - 1, by omega⟩
    have e : h = min (mF g) 64 := by omega
    have eL : hL_heaps_L304 (fu + 1) ct (nI (mF g)) x2 x3 A q (nI (sm (fun k => cnt (iH g k) 256) h)) (nI h) = (if nI (mF g) ≤ nI h then ct (nI (sm (fun k => cnt (iH g k) 256) h)) else (if (64 : Int32) ≤ nI h then ct (nI (sm (fun k => cnt (iH g k) 256) h)) else _)) := rfl
    rw [eL, ← e]
    by_cases z : mF g ≤ h
    · rw [if_pos (yle (by omega) (by omega) z)]
    · rw [if_neg (nle (by omega) (by omega) (by omega)), if_pos (show (64 : Int32) ≤ nI h from yle (a := 64) (by omega) (by omega) (by omega))]
  | succ n ih =>
    intro h fu hh hf
    obtain ⟨fu, rfl⟩ : ∃ m, fu = m + 1 := ⟨fu - 1, by omega⟩
    have hN : h < mF g := by omega
    have h64 : h < 64 := by omega
    obtain ⟨k1, k2, k3, k4, k5, p0, p3, p1, p2, kp⟩ := place_sp hb hI hN h64
    have v0 : qHeap A (nI h) 0 = nI (szF g (hpAt g h)) := (hp_val (y := 0) hg hN (by omega)).trans rfl
    have v1 : qHeap A (nI h) 1 = nI (cnF g (hpAt g h)) := (hp_val (y := 1) hg hN (by omega)).trans rfl
    have v2 : qHeap A (nI h) 2 = nI (rtAt g (hpAt g h) / 16) := (hp_val (y := 2) hg hN (by omega)).trans rfl
    have v3 : qHeap A (nI h) 3 = nI (rtAt g (hpAt g h) % 16) := (hp_val (y := 3) hg hN (by omega)).trans rfl
    have v4 : qHeap A (nI h) 4 = nI (moF g (hpAt g h)) := (hp_val (y := 4) hg hN (by omega)).trans rfl
    have x1 := k4.1.1
    have hs := szF_le hb (hpAt g h)
    have hcn := cnF_le g (hpAt g h)
    have next := ih (h + 1) fu (by omega) (by omega)
    have e1 : sm (fun k => cnt (iH g k) 256) (h + 1) = sm (fun k => cnt (iH g k) 256) h + cnF g (hpAt g h) := by rw [← k3]; rfl
    rw [e1, ← nI_add, ← nI_1] at next
    have ckh : ∀ {α : Type} {k : Option α}, ck (ix (nI h) 64) k = k := ckN h64 (by omega)
    have tn : (nI h).toNatClampNeg = h := tnN (by omega)
    have d100 : q 2 h / 100 = nI (rtAt g (hpAt g h) / 16) := by
      rw [p2, show (100 : Int32) = nI 100 from rfl, pk_div (by omega) (by omega) (by omega)]
      exact congrArg nI (by omega)
    have r100 : rm (q 2 h) 100 = nI (rtAt g (hpAt g h) % 16) := by
      rw [p2, show (100 : Int32) = nI 100 from rfl, rmN (by omega) (by omega) (by omega)]
      exact congrArg nI (by omega)
    rw [hL_heaps_L304, if_neg (nle (by omega) (by omega) hN), if_neg (show ¬ (64 : Int32) ≤ nI h from nle (a := 64) (by omega) (by omega) h64)]
    simp only [ckh, tn]
    rw [v0, v1, v2, v3, v4, p0, p3, p1, d100, r100, if_neg (fun z => z rfl), if_neg (fun z => z rfl), if_neg (fun z => z rfl), if_neg (fun z => z rfl), if_neg (fun z => z rfl), if_pos (show ¬ nI (cnF g (hpAt g h)) = (0 : Int32) from fun z => by have := (eqN (b := 0) (by omega) (by omega)).mp z; omega)]
    by_cases z0 : h = 0
    · rw [if_pos (show nI h ≤ (0 : Int32) by rw [z0]; decide)]
      exact next
    · rw [if_neg (show ¬ nI h ≤ (0 : Int32) from nle (b := 0) (by omega) (by omega) (by omega))]
      have em : nI h - 1 = nI (h - 1) := pk_sub (b := 1) (by omega)
      rw [em]
      obtain ⟨j1, j2, j3, j4, j5, o0, o3, o1, o2, jp⟩ := place_sp hb hI (show h - 1 < mF g by omega) (show h - 1 < 64 by omega)
      have ckj : ∀ {α : Type} {k : Option α}, ck (ix (nI (h - 1)) 64) k = k := ckN (by omega) (by omega)
      have tj : (nI (h - 1)).toNatClampNeg = h - 1 := tnN (by omega)
      simp only [ckj, tj]
      have hs' := szF_le hb (hpAt g (h - 1))
      have hcn' := cnF_le g (hpAt g (h - 1))
      have hA : AH g (hpAt g (h - 1)) (hpAt g h) := by
        have hne : hpAt g (h - 1) ≠ hpAt g h := fun z => by rw [z] at j2; omega
        rcases AH_to (g := g) hne with z | z
        · exact z
        · have := Plc_mono k1 z
          omega
      rw [o0, o3, o2, p2]
      unfold AH at hA
      have x1' := j4.1.1
      by_cases s1 : szF g (hpAt g h) < szF g (hpAt g (h - 1))
      · rw [if_neg (fun z => by have := (ltN (by omega) (by omega)).mp z; omega), if_pos (fun z => by have := (eqN (by omega) (by omega)).mp z; omega)]
        exact next
      · have s2 : szF g (hpAt g (h - 1)) = szF g (hpAt g h) := by omega
        rw [s2, if_neg (fun z => by have := (ltN (by omega) (by omega)).mp z; omega), if_neg (fun z => z rfl)]
        by_cases c1 : cnF g (hpAt g (h - 1)) < cnF g (hpAt g h)
        · rw [if_neg (fun z => by have := (ltN (by omega) (by omega)).mp z; omega), if_pos (fun z => by have := (eqN (by omega) (by omega)).mp z; omega)]
          exact next
        · have c2 : cnF g (hpAt g (h - 1)) = cnF g (hpAt g h) := by omega
          have lt : hpAt g (h - 1) < hpAt g h := by omega
          have lr : rtAt g (hpAt g (h - 1)) < rtAt g (hpAt g h) := by
            refine Nat.not_le.mp (fun z => ?_)
            have := rk_mono (g := g) z
            omega
          rw [c2, if_neg (fun z => by have := (ltN (by omega) (by omega)).mp z; omega), if_neg (fun z => z rfl), if_pos (yle (by omega) (by omega) (by omega))]
          exact next
theorem heaps_sp (hG : GI A) : hL_heaps A = some 1 := by
  have b1 := hG.1.1.1
  have b2 := hG.1.1.2.1
  have b4 := hG.1.1.2.2.2
  have hb := hG.1.1.2.2.1
  have hm := mF_le (gR A.1)
  have h0 : HI (gR A.1) (nwI (nwI (nwI (nwI (fun _ _ => 0) 0) 1) 2) 3) (16 * 0) := fun h h1 h2 => by
    refine ⟨?_, ?_, ?_, Or.inl rfl⟩ <;> simp [nwI] <;> rfl
  obtain ⟨q, hq, e⟩ := rows_sp (g := gR A.1) hG rfl (fun z35 z36 q37 => hL_heaps_L304 2000 (fun z68 => (if ¬ (qCount A 3) = z35 then some 0 else (if 64 < (qCount A 5) then hL_heaps_J529 A q37 (qCount A 5) else (if ¬ z68 = z36 then some 0 else hL_heaps_J529 A q37 (qCount A 5))))) (qCount A 5) z35 z36 A q37 0 0) (A.1 0) 0 2000 _ (by omega) (by omega) h0
  have hz : ∀ i, 16 * A.1 0 ≤ i → i < 16 * A.1 0 + (256 - 16 * A.1 0) → gR A.1 i = 0 := fun i i1 i2 => b4 i (by omega) (Or.inl (by omega))
  have e256 : 16 * A.1 0 + (256 - 16 * A.1 0) = 256 := by omega
  have s1 := sm_zs (256 - 16 * A.1 0) hz
  have s2 := cnt_zs hz
  have hI := hq.skips (256 - 16 * A.1 0) hz
  rw [e256] at s1 s2 hI
  have e' : hL_heaps_L37 2000 (fun z35 z36 q37 => hL_heaps_L304 2000 (fun z68 => (if ¬ (qCount A 3) = z35 then some 0 else (if 64 < (qCount A 5) then hL_heaps_J529 A q37 (qCount A 5) else (if ¬ z68 = z36 then some 0 else hL_heaps_J529 A q37 (qCount A 5))))) (qCount A 5) z35 z36 A q37 0 0) (nI (mF (gR A.1))) A 0 0 0 (nwI (nwI (nwI (nwI (fun _ _ => 0) 0) 1) 2) 3) = _ := e
  have j529 : hL_heaps_J529 A q (nI (mF (gR A.1))) = some 1 := by
    have w1 : qHeap A (nI (mF (gR A.1))) 0 = -5 := by
      unfold qHeap
      rw [if_neg (nI_pos (by omega)), if_pos (show rgX 0 4 0 from ⟨by decide, by decide⟩), nI_toInt (by omega), if_neg (by omega)]
    have w2 : qHeap A (-1) 0 = -2 := if_pos (by decide)
    have w3 : qHeap A 0 5 = -2 := (if_neg (by decide)).trans (if_neg (by decide))
    unfold hL_heaps_J529
    rw [w1, w2, w3, if_neg (fun z => z rfl), if_neg (fun z => z rfl), if_neg (fun z => z rfl)]
  unfold hL_heaps
  rw [qc5] at e' ⊢
  refine e'.trans ?_
  rw [← s1, ← s2, qc3]
  have hl := hloop (g := gR A.1) hG rfl hI (fun z68 => (if ¬ nI (sm (gR A.1) 256) = nI (sm (gR A.1) 256) then some 0 else (if 64 < nI (mF (gR A.1)) then hL_heaps_J529 A q (nI (mF (gR A.1))) else (if ¬ z68 = nI (cnt (fun i => 0 < gR A.1 i) 256) then some 0 else hL_heaps_J529 A q (nI (mF (gR A.1))))))) (nI (sm (gR A.1) 256)) (nI (cnt (fun i => 0 < gR A.1 i) 256)) (min (mF (gR A.1)) 64) 0 2000 (by omega) (by omega)
  refine (show _ = _ from hl).trans ?_
  rw [j529, if_neg (fun z => z rfl)]
  by_cases z : 64 < mF (gR A.1)
  · rw [if_pos (show (64 : Int32) < nI (mF (gR A.1)) from (ltN (a := 64) (by omega) (by omega)).mpr z)]
  · rw [if_neg (show ¬ (64 : Int32) < nI (mF (gR A.1)) from fun y => z ((ltN (a := 64) (by omega) (by omega)).mp y)), show min (mF (gR A.1)) 64 = mF (gR A.1) by omega, cnt_parts 256 (Nat.le_refl _), if_neg (fun y => y rfl)]
end HL
