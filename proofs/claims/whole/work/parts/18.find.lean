def FM0 (I I' : II) : Prop := (∀ a, (a < 134 ∨ a = 135 ∨ a = 136 ∨ a = 137 ∨ a = 138 ∨ a = 139 ∨ 145 < a) → I' a = I a) ∧ ∀ j, j ≠ 7 → I' 134 j = I 134 j
theorem FM0.rf {I : II} : FM0 I I := ⟨fun _ _ => rfl, fun _ _ => rfl⟩
theorem FM0.tr {I J K : II} (h1 : FM0 I J) (h2 : FM0 J K) : FM0 I K := ⟨fun a ha => (h2.1 a ha).trans (h1.1 a ha), fun j hj => (h2.2 j hj).trans (h1.2 j hj)⟩
theorem MR.fm {I I' : II} {ρ : Nat → Nat} (h : MR I ρ) (hf : FM0 I I') : MR I' ρ := fun k hk => by rw [hf.1 135 (by omega)]; exact h k hk
def MH (I : II) (g : Nat → Nat) : Prop := I 134 7 = nI (mF g) ∧ (∀ c, c < 256 → I 140 c = lb g (-5) 256 c) ∧ ∀ h, h < mF g → I 141 h = nI (szF g h) ∧ I 142 h = nI (cnF g h) ∧ I 143 h = nI (rtAt g h) ∧ I 144 h = nI (moF g h)
def WM (g : Nat → Nat) (I0 : II) (k : Nat) (I : II) : Prop := I 134 7 = nI (rk g k) ∧ (∀ c, c < 256 → I 140 c = lb g (-5) k c) ∧ (∀ x, x < k → isRt g x → DS g (rk g x) I (Conn g x) ∧ I 143 (rk g x) = nI x) ∧ FM0 I0 I
theorem WM.skip {g : Nat → Nat} {I0 I : II} {k : Nat} : ∀ (m : Nat), WM g I0 k I → (∀ x, k ≤ x → x < k + m → ¬ isRt g x) → WM g I0 (k + m) I
  | 0, h, _ => h
  | m + 1, h, hn => by
    obtain ⟨h1, h2, h3, h4⟩ := WM.skip m h (fun x a b => hn x a (by omega))
    have hr := hn (k + m) (by omega) (by omega)
    refine ⟨?_, fun c hc => ?_, fun x hx hxr => h3 x ?_ hxr, h4⟩
    · rw [h1, show k + (m + 1) = k + m + 1 by omega, rk_succ, dd_f hr]
      rfl
    · rw [h2 c hc, show k + (m + 1) = k + m + 1 by omega, lb_no hr hc]
    · have : x ≠ k + m := fun e => hr (by rw [← e]; exact hxr)
      omega
theorem fill5 {ct : II → Option II} : ∀ (m k fuel : Nat) (I : II), k + m = 256 → m < fuel → ∃ I', fX9_findHeaps_L7 fuel ct (nI k) I = ct I' ∧ (∀ c, c < 256 → I' 140 c = if c < k then I 140 c else -5) ∧ (∀ a, a ≠ 140 → I' a = I a) := by
  intro m
  induction m with
  | zero =>
    intro k fuel I hk hf
    obtain ⟨f, rfl⟩ : ∃ f, fuel = f + 1 := ⟨fuel - 1, by omega⟩
    have e : k = 256 := by omega
    subst e
    rw [fX9_findHeaps_L7, ifp (show (256 : Int32) ≤ nI 256 by decide)]
    exact ⟨I, rfl, fun c hc => by rw [if_pos hc], fun _ _ => rfl⟩
  | succ m ih =>
    intro k fuel I hk hf
    obtain ⟨f, rfl⟩ : ∃ f, fuel = f + 1 := ⟨fuel - 1, by omega⟩
    rw [fX9_findHeaps_L7, ifn (show ¬ (256 : Int32) ≤ nI k from fun z => by
      have := (nI_leI (a := 256) (b := k) (by omega) (by omega)).mp z
      omega), ckN (show k < 256 by omega) (by omega), bd1, tnN (show k < 2 ^ 31 by omega), nI_1]
    obtain ⟨I', h1, h2, h3⟩ := ih (k + 1) f (up2 I 140 k (-5)) (by omega) (by omega)
    refine ⟨I', h1, fun c hc => ?_, fun a ha => by rw [h3 a ha, up2_n ha]⟩
    rw [h2 c hc, up2_at]
    by_cases a1 : c < k
    · rw [if_pos (by omega), if_neg (by omega), if_pos a1]
    · rw [if_neg a1]
      by_cases a2 : c = k
      · rw [if_pos (by omega), if_pos a2]
      · rw [if_neg (by omega)]
section FH
variable {ρ : Nat → Nat} {I0 : II}
theorem find_in (hR : MR I0 ρ) (hB : Bd ρ) (ct : II → Option II) {r : Nat} (hr : r < ρ 0) :
    ∀ (m c fuel : Nat) (I : II), c + m = ρ 1 → m < fuel → WM (gR ρ) I0 (16 * r + c) I → ∃ I', fX9_findHeaps_L42 fuel ct (nI r) (nI c) I = ct I' ∧ WM (gR ρ) I0 (16 * r + ρ 1) I' := by
  have hR16 := hB.1.2
  have hC16 := hB.2.1.2
  intro m
  induction m with
  | zero =>
    intro c fuel I hc hf w
    obtain ⟨f, rfl⟩ : ∃ f, fuel = f + 1 := ⟨fuel - 1, by omega⟩
    have e : c = ρ 1 := by omega
    subst e
    have hMR := hR.fm w.2.2.2
    rw [fX9_findHeaps_L42, hMR 1 (by omega), ifp (nI_le (Nat.le_refl _) (by omega))]
    exact ⟨I, rfl, w⟩
  | succ m ih =>
    intro c fuel I hc hf w
    obtain ⟨f, rfl⟩ : ∃ f, fuel = f + 1 := ⟨fuel - 1, by omega⟩
    have hMR := hR.fm w.2.2.2
    have hk : 16 * r + c < 256 := by omega
    have e9 : (9 : Int32) + 16 * nI r + nI c = nI (9 + (16 * r + c)) := by
      rw [show (9 : Int32) = nI 9 from rfl, show (16 : Int32) = nI 16 from rfl, pk_mul, nI_add, nI_add, Nat.add_assoc]
    have e16 : (16 : Int32) * nI r + nI c = nI (16 * r + c) := by
      rw [show (16 : Int32) = nI 16 from rfl, pk_mul, nI_add]
    rw [fX9_findHeaps_L42, hMR 1 (by omega), ifn (nI_ge (show c < ρ 1 by omega) (by omega)), e9, e16, nI_1, ckN (show 9 + (16 * r + c) < 367 by omega) (by omega), tnN (show 9 + (16 * r + c) < 2 ^ 31 by omega), hMR _ (show 9 + (16 * r + c) < 367 by omega), ckN hk (by omega), tnN (show 16 * r + c < 2 ^ 31 by omega)]
    have hgb : ρ (9 + (16 * r + c)) ≤ 99 := hB.2.2.1 _ hk
    have skip : ¬ isRt (gR ρ) (16 * r + c) → ∃ I', fX9_findHeaps_L42 f ct (nI r) (nI (c + 1)) I = ct I' ∧ WM (gR ρ) I0 (16 * r + ρ 1) I' := fun hn => ih (c + 1) f I (by omega) (by omega) (w.skip 1 (fun x a b => by
      have : x = 16 * r + c := by omega
      rw [this]
      exact hn))
    by_cases hg0 : 0 < gR ρ (16 * r + c)
    · rw [ifn (nI_nle (show 0 < ρ (9 + (16 * r + c)) from hg0) (by omega)), w.2.1 _ hk]
      have hh := rt_here (g := gR ρ) (z := -5) m5_neg hk hg0
      by_cases hneg : lb (gR ρ) (-5) (16 * r + c) (16 * r + c) < 0
      · have hrt := hh.1 hneg
        have hnn : ¬ (0 : Int32) ≤ lb (gR ρ) (-5) (16 * r + c) (16 * r + c) := fun z => by
          rw [Int32.le_iff_toInt_le] at z
          rw [Int32.lt_iff_toInt_lt] at hneg
          omega
        have hrk : rk (gR ρ) (16 * r + c) < 128 := by
          have a1 := rk_lt hrt hk
          have a2 := mF_le (gR ρ)
          unfold mF at a2
          omega
        rw [ifn hnn]
        obtain ⟨I1, e1, e2, e3, e4, e5, e6, e7, e8⟩ := spread_sp hMR hB hrt hrk w.1 w.2.1
        rw [e1, bd1]
        refine ih (c + 1) f I1 (by omega) (by omega) ⟨?_, fun x hx => ?_, fun x hx hxr => ?_, w.2.2.2.tr ⟨fun a ha => e6 a ha, e7⟩⟩
        · rw [e2, ← Nat.add_assoc, rk_succ, dd_t hrt]
        · rw [← Nat.add_assoc]
          by_cases hcc : Conn (gR ρ) (16 * r + c) x
          · rw [(e3 x hx).1 hcc, (lb_yes hrt hx).1 hcc]
          · rw [(e3 x hx).2 hcc, (lb_yes hrt hx).2 hcc]
        · by_cases e : x = 16 * r + c
          · subst e
            exact ⟨e4, e5⟩
          · have hne : rk (gR ρ) x ≠ rk (gR ρ) (16 * r + c) := fun q => e (rk_inj hxr hrt q)
            obtain ⟨a1, a2, a3, a4⟩ := e8 _ hne
            obtain ⟨b1, b2⟩ := w.2.2.1 x (by omega) hxr
            refine ⟨?_, by rw [a4]; exact b2⟩
            unfold DS at b1 ⊢
            rw [a1, a2, a3]
            exact b1
      · have hp : (0 : Int32) ≤ lb (gR ρ) (-5) (16 * r + c) (16 * r + c) := by
          rw [Int32.le_iff_toInt_le]
          rw [Int32.lt_iff_toInt_lt] at hneg
          omega
        rw [ifp hp]
        exact skip (hh.2 hneg)
    · have h0 : ρ (9 + (16 * r + c)) = 0 := by
        have : gR ρ (16 * r + c) = 0 := by omega
        exact this
      rw [h0, ifp (show nI 0 ≤ (0 : Int32) by decide)]
      exact skip (fun z => hg0 z.1.2)
theorem find_out (hR : MR I0 ρ) (hB : Bd ρ) (ct : II → Option II) :
    ∀ (m r fuel : Nat) (I : II), r + m = ρ 0 → m < fuel → WM (gR ρ) I0 (16 * r) I → ∃ I', fX9_findHeaps_L30 fuel ct (nI r) I = ct I' ∧ WM (gR ρ) I0 (16 * ρ 0) I' := by
  have hR16 := hB.1.2
  have hC16 := hB.2.1.2
  intro m
  induction m with
  | zero =>
    intro r fuel I hr hf w
    obtain ⟨f, rfl⟩ : ∃ f, fuel = f + 1 := ⟨fuel - 1, by omega⟩
    have e : r = ρ 0 := by omega
    subst e
    have hMR := hR.fm w.2.2.2
    rw [fX9_findHeaps_L30, hMR 0 (by omega), ifp (nI_le (Nat.le_refl _) (by omega))]
    exact ⟨I, rfl, w⟩
  | succ m ih =>
    intro r fuel I hr hf w
    obtain ⟨f, rfl⟩ : ∃ f, fuel = f + 1 := ⟨fuel - 1, by omega⟩
    have hMR := hR.fm w.2.2.2
    rw [fX9_findHeaps_L30, hMR 0 (by omega), ifn (nI_ge (show r < ρ 0 by omega) (by omega)), nI_1]
    obtain ⟨I1, e1, w1⟩ := find_in hR hB (fun I13 => fX9_findHeaps_L30 f ct (nI (r + 1)) I13) (show r < ρ 0 by omega) (ρ 1) 0 2000 I (by omega) (by omega) w
    rw [show fX9_findHeaps_L42 2000 (fun I13 => fX9_findHeaps_L30 f ct (nI (r + 1)) I13) (nI r) 0 I = _ from e1]
    have w2 := w1.skip (16 - ρ 1) (fun x a b => fun z => by
      have := hB.2.2.2 x z.1.1 (Or.inr (by omega))
      have := z.1.2
      omega)
    rw [show 16 * r + ρ 1 + (16 - ρ 1) = 16 * (r + 1) by omega] at w2
    exact ih (r + 1) f I1 (by omega) (by omega) w2
end FH
theorem findHeaps_sp {ρ : Nat → Nat} {I : II} (hR : MR I ρ) (hB : Bd ρ) : ∃ I', fX9_findHeaps I = some I' ∧ MH I' (gR ρ) ∧ FM0 I I' := by
  have hR16 := hB.1.2
  unfold fX9_findHeaps
  rw [bd1]
  obtain ⟨I1, e1, e2, e3⟩ := fill5 (ct := fun I5 => fX9_findHeaps_L30 2000 (fun I14 => some I14) 0 I5) 256 0 2000 (up2 I 134 7 0) (by omega) (by omega)
  rw [show fX9_findHeaps_L7 2000 (fun I5 => fX9_findHeaps_L30 2000 (fun I14 => some I14) 0 I5) 0 (up2 I 134 7 0) = _ from e1]
  have hf1 : FM0 I I1 := ⟨fun a ha => by rw [e3 a (by omega), up2_n (show a ≠ 134 by omega)], fun j hj => by rw [e3 134 (by omega), up2_b hj]⟩
  have w0 : WM (gR ρ) I (16 * 0) I1 := by
    refine ⟨?_, fun c hc => ?_, fun x hx => absurd hx (by omega), hf1⟩
    · rw [e3 134 (by omega), up2_a]
      rfl
    · rw [e2 c hc, if_neg (by omega), show 16 * 0 = 0 from rfl, lb_0]
  obtain ⟨I2, a1, a2⟩ := find_out hR hB (fun I14 => some I14) (ρ 0) 0 2000 I1 (by omega) (by omega) w0
  have w2 := a2.skip (256 - 16 * ρ 0) (fun x a b => fun z => by
    have := hB.2.2.2 x z.1.1 (Or.inl (by omega))
    have := z.1.2
    omega)
  rw [show 16 * ρ 0 + (256 - 16 * ρ 0) = 256 by omega] at w2
  refine ⟨I2, a1, ⟨w2.1, w2.2.1, fun h hh => ?_⟩, w2.2.2.2⟩
  obtain ⟨x, hx, hr, rfl⟩ := rk_ex 256 hh
  obtain ⟨⟨b1, b2, b3⟩, b4⟩ := w2.2.2.1 x hx hr
  unfold szF cnF moF
  rw [rtAt_eq hr]
  exact ⟨b1, b2, b4, b3⟩
