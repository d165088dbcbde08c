theorem lb_no {g : Nat → Nat} {z : Int32} {k c : Nat} (h : ¬ isRt g k) (hc : c < 256) : lb g z (k + 1) c = lb g z k c := by
  unfold lb
  by_cases hg : 0 < g c
  · have hne : rtOf g c ≠ k := fun e => h (by rw [← e]; exact (rtOf_sp hc hg).1)
    by_cases hl : rtOf g c < k
    · rw [if_pos ⟨hg, by omega⟩, if_pos ⟨hg, hl⟩]
    · rw [if_neg (fun q => by omega), if_neg (fun q => hl q.2)]
  · rw [if_neg (fun q => hg q.1), if_neg (fun q => hg q.1)]
theorem lb_yes {g : Nat → Nat} {z : Int32} {k c : Nat} (h : isRt g k) (hc : c < 256) : (Conn g k c → lb g z (k + 1) c = nI (rk g k)) ∧ (¬ Conn g k c → lb g z (k + 1) c = lb g z k c) := by
  constructor
  · intro hcc
    have hg := (Conn.sym h.1.1 h.1.2 hcc).1.2
    unfold lb labF
    rw [rtOf_eq h hcc, if_pos ⟨hg, by omega⟩]
  · intro hcc
    unfold lb
    by_cases hg : 0 < g c
    · have hne : rtOf g c ≠ k := fun e => hcc (by rw [← e]; exact (rtOf_sp hc hg).2)
      by_cases hl : rtOf g c < k
      · rw [if_pos ⟨hg, by omega⟩, if_pos ⟨hg, hl⟩]
      · rw [if_neg (fun q => by omega), if_neg (fun q => hl q.2)]
    · rw [if_neg (fun q => hg q.1), if_neg (fun q => hg q.1)]
theorem lb_0 {g : Nat → Nat} {z : Int32} {c : Nat} : lb g z 0 c = z := by
  unfold lb
  rw [if_neg (fun q => by omega)]
theorem lb_full {g : Nat → Nat} {z : Int32} {c : Nat} (hc : c < 256) (hg : 0 < g c) : lb g z 256 c = nI (labF g c) := by
  unfold lb
  rw [if_pos ⟨hg, (rtOf_sp hc hg).1.1.1⟩]
theorem lb_none {g : Nat → Nat} {z : Int32} {k c : Nat} (hg : g c = 0) : lb g z k c = z := by
  unfold lb
  rw [if_neg (fun q => by omega)]
theorem rt_here {g : Nat → Nat} {z : Int32} {k : Nat} (hz : z < 0) (hk : k < 256) (hg : 0 < g k) : (lb g z k k < 0 → isRt g k) ∧ (¬ lb g z k k < 0 → ¬ isRt g k) := by
  have hr := rtOf_sp hk hg
  have hle : rtOf g k ≤ k := by
    rcases Nat.lt_or_ge k (rtOf g k) with q | q
    · have := hr.1.2 k hk hg (Conn.sym hr.1.1.1 hr.1.1.2 hr.2).2
      have h2 := hr.1.2 k hk hg (Conn.sym hr.1.1.1 hr.1.1.2 hr.2).2
      omega
    · exact q
  constructor
  · intro h
    have hn : ¬ rtOf g k < k := fun q => by
      unfold lb at h
      rw [if_pos ⟨hg, q⟩] at h
      have h2 := labF_lt hk hg
      have h3 := mF_le g
      exact absurd h (nI_pos (by omega))
    have e : rtOf g k = k := by omega
    rw [← e]
    exact hr.1
  · intro h hk2
    have e : rtOf g k = k := rtOf_eq hk2 Conn.rf
    apply h
    unfold lb
    rw [if_neg (fun q => by omega)]
    exact hz
def CH (I : II) (g : Nat → Nat) : Prop := I 15 5 = nI (mF g) ∧ (∀ c, c < 256 → I 19 c = lb g (-1) 256 c) ∧ ∀ h, h < mF g → I 16 h = nI (szF g h) ∧ I 17 h = nI (cnF g h) ∧ I 18 h = nI (rtAt g h)
def HC (I : II) (g : Nat → Nat) : Prop := (I 15 6 = 0 ∧ CH I g) ∨ I 15 6 = 1
theorem num_loop {g : Nat → Nat} {I0 : II} (hb : ∀ c, c < 256 → g c < 2 ^ 20) (hg : ∀ c, c < 256 → I0 3 c = nI (g c)) (ct : II → Option (Int32 × II)) :
    ∀ (m k fuel : Nat) (I : II), k + m = 256 → m < fuel → I 15 5 = nI (rk g k) → (∀ c, c < 256 → I 19 c = lb g (-1) k c) → (∀ x, x < k → isRt g x → I 16 (rk g x) = nI (sme g (Conn g x) 256) ∧ I 17 (rk g x) = nI (cnt (Conn g x) 256) ∧ I 18 (rk g x) = nI x) → (∀ a, (a < 15 ∨ 20 < a) → I a = I0 a) →
    ∃ I', fX0_numberIn_L27 fuel ct 3 (nI k) I = ct I' ∧ I' 15 5 = nI (rk g 256) ∧ (∀ c, c < 256 → I' 19 c = lb g (-1) 256 c) ∧ (∀ x, x < 256 → isRt g x → I' 16 (rk g x) = nI (sme g (Conn g x) 256) ∧ I' 17 (rk g x) = nI (cnt (Conn g x) 256) ∧ I' 18 (rk g x) = nI x) ∧ (∀ a, (a < 15 ∨ 20 < a) → I' a = I0 a) := by
  intro m
  induction m with
  | zero =>
    intro k fuel I hk hf h1 h2 h3 h4
    obtain ⟨f, rfl⟩ : ∃ f, fuel = f + 1 := ⟨fuel - 1, by omega⟩
    have e : k = 256 := by omega
    subst e
    rw [fX0_numberIn_L27, ifp (show (256 : Int32) ≤ nI 256 by decide)]
    exact ⟨I, rfl, h1, h2, h3, h4⟩
  | succ m ih =>
    intro k fuel I hk hf h1 h2 h3 h4
    obtain ⟨f, rfl⟩ : ∃ f, fuel = f + 1 := ⟨fuel - 1, by omega⟩
    have hk2 : k < 256 := by omega
    have hl : ¬ (256 : Int32) ≤ nI k := fun z => by
      have := (nI_leI (a := 256) (b := k) (by omega) (by omega)).mp z
      omega
    rw [fX0_numberIn_L27, ifn hl, ifn hl, ckN hk2 (by omega), ckN hk2 (by omega), tnN (show k < 2 ^ 31 by omega), h4 3 (by omega), hg k hk2, nI_1]
    have skip : ¬ isRt g k → ∃ I', fX0_numberIn_L27 f ct 3 (nI (k + 1)) I = ct I' ∧ I' 15 5 = nI (rk g 256) ∧ (∀ c, c < 256 → I' 19 c = lb g (-1) 256 c) ∧ (∀ x, x < 256 → isRt g x → I' 16 (rk g x) = nI (sme g (Conn g x) 256) ∧ I' 17 (rk g x) = nI (cnt (Conn g x) 256) ∧ I' 18 (rk g x) = nI x) ∧ (∀ a, (a < 15 ∨ 20 < a) → I' a = I0 a) := fun hr =>
      ih (k + 1) f I (by omega) (by omega) (by rw [h1, rk_succ, dd_f hr]; rfl) (fun c hc => by rw [lb_no hr hc]; exact h2 c hc) (fun x hx hxr => h3 x (by
        have : x ≠ k := fun e => hr (by rw [← e]; exact hxr)
        omega) hxr) h4
    by_cases hgk : 0 < g k
    · rw [ifn (nI_nle hgk (by have := hb k hk2; omega)), h2 k hk2]
      have hh := rt_here (g := g) (z := -1) (k := k) m1_neg hk2 hgk
      by_cases hneg : lb g (-1) k k < 0
      · have hr := hh.1 hneg
        have hnn : ¬ (0 : Int32) ≤ lb g (-1) k k := fun z => by
          rw [Int32.le_iff_toInt_le] at z
          rw [Int32.lt_iff_toInt_lt] at hneg
          omega
        have hrk : rk g k < 128 := by
          have a1 := rk_lt hr hk2
          have a2 := mF_le g
          unfold mF at a2
          omega
        rw [ifn hnn, h1, ifn (show ¬ (128 : Int32) ≤ nI (rk g k) from fun z => by
          have := (nI_leI (a := 128) (b := rk g k) (by omega) (by omega)).mp z
          omega)]
        obtain ⟨I1, e1, e2, e3, e4, e5, e6, e7⟩ := findHeap_sp (h := rk g k) hb (fun c hc => by rw [h4 3 (by omega)]; exact hg c hc) hr hrk h2
        rw [e1, bd1, bd1]
        have h15 : I1 15 = I 15 := e3 15 (by omega) (by omega) (by omega) (by omega) (by omega)
        rw [h15, h1, nI_1]
        refine ih (k + 1) f _ (by omega) (by omega) ?_ (fun c hc => ?_) (fun x hx hxr => ?_) (fun a ha => ?_)
        · rw [up2_a, rk_succ, dd_t hr]
        · rw [up2_n (show 19 ≠ 15 by omega)]
          by_cases hcc : Conn g k c
          · rw [(e2 c hc).1 hcc, (lb_yes hr hc).1 hcc]
          · rw [(e2 c hc).2 hcc, (lb_yes hr hc).2 hcc]
        · rw [up2_n (show 16 ≠ 15 by omega), up2_n (show 17 ≠ 15 by omega), up2_n (show 18 ≠ 15 by omega)]
          by_cases e : x = k
          · subst e
            exact ⟨e5, e6, e7⟩
          · have hne : rk g x ≠ rk g k := fun q => e (rk_inj hxr hr q)
            obtain ⟨a1, a2, a3⟩ := e4 (rk g x) hne
            rw [a1, a2, a3]
            exact h3 x (by omega) hxr
        · rw [up2_n (show a ≠ 15 by omega), e3 a (by omega) (by omega) (by omega) (by omega) (by omega)]
          exact h4 a ha
      · have hp : (0 : Int32) ≤ lb g (-1) k k := by
          rw [Int32.le_iff_toInt_le]
          rw [Int32.lt_iff_toInt_lt] at hneg
          omega
        rw [ifp hp]
        exact skip (hh.2 hneg)
    · have h0 : g k = 0 := by omega
      rw [h0, ifp (show nI 0 ≤ (0 : Int32) by decide)]
      exact skip (fun z => hgk z.1.2)
theorem fl2_a {I : II} {a n j : Nat} {v : Int32} : fl2 I a n v a j = if j < n then v else I a j := by simp [fl2]
theorem fl2_n {I : II} {a n b : Nat} {v : Int32} (h : b ≠ a) : fl2 I a n v b = I b := by simp [fl2, h]
theorem numberIn_sp {g : Nat → Nat} {I : II} (hb : ∀ c, c < 256 → g c < 2 ^ 20) (hg : ∀ c, c < 256 → I 3 c = nI (g c)) (hH : HC I g) :
    ∃ I', fX0_numberIn I 3 = some (nI (mF g), I') ∧ CH I' g ∧ I' 15 6 = 0 ∧ (∀ a, (a < 15 ∨ 20 < a) → I' a = I a) := by
  unfold fX0_numberIn
  rcases hH with ⟨h0, hc⟩ | h1
  · rw [h0, ifn (show ¬ ¬ (0 : Int32) = 0 from fun z => z rfl), hc.1]
    exact ⟨I, rfl, hc, h0, fun _ _ => rfl⟩
  · rw [h1, ifp (show ¬ (1 : Int32) = 0 by decide), bd1, bd1]
    obtain ⟨I', e1, e2, e3, e4, e5⟩ := num_loop (I0 := I) hb hg (fun I13 => (some (up2 I13 15 6 0)).bind fun I14 => some ((I14 15 5), I14)) 256 0 2000 (up2 (fl2 I 19 256 (-1)) 15 5 0) (by omega) (by omega) (by rw [up2_a]; rfl) (fun c hc => by rw [up2_n (show 19 ≠ 15 by omega), fl2_a, if_pos hc, lb_0]) (fun x hx => absurd hx (by omega)) (fun a ha => by rw [up2_n (show a ≠ 15 by omega), fl2_n (show a ≠ 19 by omega)])
    rw [show fX0_numberIn_L27 2000 (fun I13 => (some (up2 I13 15 6 0)).bind fun I14 => some ((I14 15 5), I14)) 3 0 (up2 (fl2 I 19 256 (-1)) 15 5 0) = _ from e1, bd1, up2_b (show 5 ≠ 6 by omega), e2]
    refine ⟨_, rfl, ⟨by rw [up2_b (show 5 ≠ 6 by omega), e2]; rfl, fun c hc => by rw [up2_n (show 19 ≠ 15 by omega)]; exact e3 c hc, fun h hh => ?_⟩, up2_a, fun a ha => by rw [up2_n (show a ≠ 15 by omega)]; exact e5 a ha⟩
    obtain ⟨x, hx, hr, rfl⟩ := rk_ex 256 hh
    rw [up2_n (show 16 ≠ 15 by omega), up2_n (show 17 ≠ 15 by omega), up2_n (show 18 ≠ 15 by omega)]
    unfold szF cnF
    rw [rtAt_eq hr]
    exact e4 x hx hr
