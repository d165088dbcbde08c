/-! the class's state, and the row that it stands for -/
def CS (I : II) (b : Nat) (ρ : Nat → Nat) : Prop :=
  (I b 0 = nI (ρ 0) ∧ I b 1 = nI (ρ 1) ∧ I b 4 = nI (ρ 2) ∧ I b 6 = nI (ρ 6) ∧ I b 7 = nI (ρ 7)) ∧ (∀ c, c < 256 → I (b + 1) c = nI (gR ρ c)) ∧
  (I (b + 3) 1 = nI (ρ 3) ∧ I (b + 3) 2 = nI (ρ 4) ∧ I (b + 3) 3 = nI (ρ 5)) ∧ (∀ t, t < ρ 3 → I (b + 4) t = nI (ρ (337 + t))) ∧ ∀ w f, w < ρ 2 → f < 9 → I (b + 5 + w) f = nI (ρ (wI w f))
def FC (I I' : II) : Prop := ∀ a, (a < 2 ∨ 20 < a) → I' a = I a
theorem FC.rf {I : II} : FC I I := fun _ _ => rfl
theorem FC.tr {I J K : II} (h1 : FC I J) (h2 : FC J K) : FC I K := fun a ha => (h2 a ha).trans (h1 a ha)
theorem CS.fm {I I' : II} {b : Nat} {ρ : Nat → Nat} (h : CS I b ρ) (hw : ρ 2 ≤ 8) (hf : ∀ a, b ≤ a → a < b + 13 → I' a = I a) : CS I' b ρ := by
  obtain ⟨h1, h2, h3, h4, h5⟩ := h
  refine ⟨?_, fun c hc => ?_, ?_, fun t ht => ?_, fun w f hw hf2 => ?_⟩
  · rw [hf b (by omega) (by omega)]; exact h1
  · rw [hf _ (by omega) (by omega)]; exact h2 c hc
  · rw [hf _ (by omega) (by omega)]; exact h3
  · rw [hf _ (by omega) (by omega)]; exact h4 t ht
  · rw [hf _ (by omega) (by omega)]; exact h5 w f hw hf2
def CR (I : II) (ρ : Nat → Nat) : Prop := CS I 2 ρ ∧ HC I (gR ρ)
theorem sub_sw {a s v g : Nat} (h : a + g = s + v) : nI s + (nI v - nI g) = nI a := by
  have e : nI a + nI g = nI s + nI v := by rw [nI_add, nI_add, h]
  rw [Int32.sub_eq_add_neg, ← Int32.add_assoc, ← e, Int32.add_assoc, Int32.add_right_neg, Int32.add_zero]
theorem lb_congr {g g' : Nat → Nat} (h : ∀ c, c < 256 → (0 < g c ↔ 0 < g' c)) {z : Int32} {k c : Nat} (hc : c < 256) : lb g' z k c = lb g z k c := by
  unfold lb
  by_cases hg : 0 < g c
  · rw [← rtOf_congr h hc hg, ← labF_congr h hc hg]
    by_cases hr : rtOf g c < k
    · rw [if_pos ⟨(h c hc).mp hg, hr⟩, if_pos ⟨hg, hr⟩]
    · rw [if_neg (fun z => hr z.2), if_neg (fun z => hr z.2)]
  · rw [if_neg (fun z => hg ((h c hc).mpr z.1)), if_neg (fun z => hg z.1)]
theorem HC.fm {I I' : II} {g : Nat → Nat} (h : HC I g) (hf : ∀ a, 15 ≤ a → a ≤ 20 → I' a = I a) : HC I' g := by
  unfold HC CH at h ⊢
  rw [hf 15 (by omega) (by omega), hf 16 (by omega) (by omega), hf 17 (by omega) (by omega), hf 18 (by omega) (by omega), hf 19 (by omega) (by omega)]
  exact h
theorem follow_sp {I : II} {g : Nat → Nat} {c v : Nat} (hb : ∀ i, i < 256 → g i ≤ 99) (hH : HC I g) (hc : c < 256) (hv : v ≤ 99) : ∃ I', fX0_follow I (nI c) (nI (g c)) (nI v) = some I' ∧ HC I' (fun i => if i = c then v else g i) ∧ ∀ a, (a < 15 ∨ 20 < a) → I' a = I a := by
  have hgc := hb c hc
  have z1 : (nI (g c) = (0 : Int32)) ↔ g c = 0 := eqN (b := 0) (by omega) (by omega)
  have z2 : (nI v = (0 : Int32)) ↔ v = 0 := eqN (b := 0) (by omega) (by omega)
  have hcn : ¬ nI c < (0 : Int32) := fun z => by have := (nI_ltI (b := 0) (by omega) (by omega)).mp z; omega
  have hcl : nI c < (256 : Int32) := (nI_ltI (b := 256) (by omega) (by omega)).mpr hc
  have same : (g c = 0 ↔ v = 0) → ∃ I', fX0_follow_J26 I (nI c) (nI (g c)) (nI v) = some I' ∧ HC I' (fun i => if i = c then v else g i) ∧ ∀ a, (a < 15 ∨ 20 < a) → I' a = I a := by
    intro hs
    unfold fX0_follow_J26
    rcases hH with ⟨h0, hC⟩ | h1
    · rw [ifn (fun z => z h0), ifn hcn, ifp hcl, ckN hc (by omega), tnN (show c < 2 ^ 31 by omega), hC.2.1 c hc]
      by_cases hg : g c = 0
      · have hL : lb g (-1) 256 c = -1 := if_neg (fun z => by have := z.1; omega)
        rw [hL, ifp m1_neg]
        refine ⟨I, rfl, ?_, fun _ _ => rfl⟩
        have : (fun i => if i = c then v else g i) = g := by
          funext i
          by_cases e : i = c
          · rw [if_pos e, e]; omega
          · rw [if_neg e]
        rw [this]
        exact Or.inl ⟨h0, hC⟩
      · have hl := labF_lt hc (show 0 < g c by omega)
        have hm := mF_le g
        rw [lb_full hc (by omega), ifn (fun z => by have := (nI_ltI (b := 0) (by omega) (by omega)).mp z; omega), ifn (fun z => by have := (leN (a := 128) (by omega) (by omega)).mp z; omega), ckN (show labF g c < 128 by omega) (by omega), ckN (show labF g c < 128 by omega) (by omega), tnN (show labF g c < 2 ^ 31 by omega), bd1]
        have hsup : ∀ i, i < 256 → (0 < g i ↔ 0 < (fun i => if i = c then v else g i) i) := by
          intro i hi
          show 0 < g i ↔ 0 < (if i = c then v else g i)
          by_cases e : i = c
          · rw [if_pos e, e]; omega
          · rw [if_neg e]
        refine ⟨_, rfl, Or.inl ⟨by rw [up2_n (by omega)]; exact h0, ?_, fun i hi => ?_, fun k hk => ?_⟩, fun a ha => up2_n (by omega)⟩
        · rw [up2_n (by omega), ← mF_congr hsup]; exact hC.1
        · rw [up2_n (by omega), lb_congr hsup hi]; exact hC.2.1 i hi
        · rw [← mF_congr hsup] at hk
          obtain ⟨s1, s2, s3⟩ := hC.2.2 k hk
          have sc := sz_change hsup hk hc (show 0 < g c by omega) (fun i _ hne => if_neg hne)
          rw [show (if c = c then v else g c) = v from if_pos rfl] at sc
          refine ⟨?_, ?_, ?_⟩
          · rw [up2_at]
            by_cases e : k = labF g c
            · rw [if_pos e, ← e, s1]
              rw [if_pos e.symm, if_pos e.symm] at sc
              exact sub_sw sc
            · rw [if_neg e, s1]
              rw [if_neg (Ne.symm e), if_neg (Ne.symm e)] at sc
              rw [show szF g k = szF (fun i => if i = c then v else g i) k by omega]
          · rw [up2_n (by omega), ← cnF_congr hsup hk]; exact s2
          · rw [up2_n (by omega), ← rtAt_congr hsup hk]; exact s3
    · rw [ifp (by rw [h1]; decide)]
      exact ⟨I, rfl, Or.inr h1, fun _ _ => rfl⟩
  have diff : ∃ I', ((some (up2 I 15 6 1)).bind fun I13 => fX0_follow_J26 I13 (nI c) (nI (g c)) (nI v)) = some I' ∧ HC I' (fun i => if i = c then v else g i) ∧ ∀ a, (a < 15 ∨ 20 < a) → I' a = I a := by
    rw [bd1]
    unfold fX0_follow_J26
    rw [ifp (by rw [up2_a]; decide)]
    exact ⟨_, rfl, Or.inr up2_a, fun a ha => up2_n (by omega)⟩
  unfold fX0_follow fX0_follow_J9 fX0_follow_J18
  by_cases q1 : g c = 0
  · rw [ifn (fun z => z (z1.mpr q1))]
    by_cases q2 : v = 0
    · rw [ifn (fun z => z (z2.mpr q2)), ifp rfl]
      exact same (by omega)
    · rw [ifp (fun z => q2 (z2.mp z)), ifn (by decide)]
      exact diff
  · rw [ifp (fun z => q1 (z1.mp z))]
    by_cases q2 : v = 0
    · rw [ifn (fun z => z (z2.mpr q2)), ifn (by decide)]
      exact diff
    · rw [ifp (fun z => q2 (z2.mp z)), ifp rfl]
      exact same (by omega)
theorem gR_st {ρ : Nat → Nat} {c v : Nat} : gR (stR ρ (9 + c) v) = fun i => if i = c then v else gR ρ i := by
  funext i
  show stR ρ (9 + c) v (9 + i) = _
  by_cases e : i = c
  · rw [e, stR_s, if_pos rfl]
  · rw [stR_n (by omega), if_neg e]
    rfl
theorem gR_so {ρ : Nat → Nat} {k v : Nat} (hk : k < 9 ∨ 264 < k) : ∀ c, c < 256 → gR (stR ρ k v) c = gR ρ c := fun c _ => stR_n (by omega)
theorem HC_congr {I : II} {g g' : Nat → Nat} (h : HC I g) (he : ∀ c, c < 256 → g' c = g c) : HC I g' := by
  rcases h with ⟨h0, hC⟩ | h1
  · have hs : ∀ c, c < 256 → (0 < g c ↔ 0 < g' c) := fun c hc => by rw [he c hc]
    refine Or.inl ⟨h0, by rw [← mF_congr hs]; exact hC.1, fun c hc => by rw [lb_congr hs hc]; exact hC.2.1 c hc, fun k hk => ?_⟩
    rw [← mF_congr hs] at hk
    obtain ⟨s1, s2, s3⟩ := hC.2.2 k hk
    rw [← cnF_congr hs hk, ← rtAt_congr hs hk]
    refine ⟨?_, s2, s3⟩
    have r : isRt g (rtAt g k) ∧ labF g (rtAt g k) = k := by
      obtain ⟨x, -, hx, rfl⟩ := rk_ex 256 hk
      rw [rtAt_eq hx]
      exact ⟨hx, by unfold labF; rw [rtOf_eq hx Conn.rf]⟩
    have hl := r.2
    have sc := sz_change hs hk (c := rtAt g k) r.1.1.1 r.1.1.2 (fun i hi _ => he i hi)
    rw [s1]
    rw [if_pos hl, if_pos hl, he _ r.1.1.1] at sc
    rw [show szF g k = szF g' k by omega]
  · exact Or.inr h1
