/-- what is done of a heap: labelled, not in the stack -/
def Dn (S : Nat → Prop) (sk : Nat → Nat) (n : Nat) (c : Nat) : Prop := S c ∧ ∀ j, j < n → sk j ≠ c
/-- the cells S are labelled h; the stack sk of n cells; k the first cell; over the memory I0 ahead of it -/
def DQ (g : Nat → Nat) (k h : Nat) (I0 I : II) (S : Nat → Prop) (sk : Nat → Nat) (n : Nat) : Prop :=
  (∀ c, c < 256 → (S c → I 140 c = nI h) ∧ (¬ S c → I 140 c = lb g (-5) k c)) ∧ (∀ j, j < n → I 145 j = nI (sk j) ∧ S (sk j)) ∧ (∀ i j, i < n → j < n → sk i = sk j → i = j) ∧
  (∀ c, S c → c < 256 ∧ 0 < g c ∧ Conn g k c) ∧ S k ∧ (∀ a, (a < 140 ∨ a = 143 ∨ 145 < a) → I a = I0 a) ∧ (∀ j, j ≠ h → I 141 j = I0 141 j ∧ I 142 j = I0 142 j ∧ I 144 j = I0 144 j)
def DS (g : Nat → Nat) (h : Nat) (I : II) (p : Nat → Prop) : Prop := I 141 h = nI (sme g p 256) ∧ I 142 h = nI (cnt p 256) ∧ I 144 h = nI (mxe g p 256)
theorem DS.congr {g : Nat → Nat} {h : Nat} {I : II} {p q : Nat → Prop} (hq : ∀ c, c < 256 → (p c ↔ q c)) (hs : DS g h I p) : DS g h I q := by
  unfold DS at hs ⊢
  rw [← sme_congr hq, ← cnt_congr hq, ← mxe_congr 256 hq]
  exact hs
/-- closed but for a cell's later directions -/
def CL (g : Nat → Nat) (S : Nat → Prop) (sk : Nat → Nat) (n : Nat) (ex d0 : Nat) : Prop := ∀ c, Dn S sk n c → ∀ d, d < 4 → (c = ex → d < d0) → nbr c d < 256 → 0 < g (nbr c d) → S (nbr c d)
theorem DQ.push {g : Nat → Nat} {k h : Nat} {I0 I : II} {S : Nat → Prop} {sk : Nat → Nat} {n e : Nat} (q : DQ g k h I0 I S sk n) (he : e < 256) (hg : 0 < g e) (hc : Conn g k e) (hn : ¬ S e) : DQ g k h I0 (up2 (up2 I 140 e (nI h)) 145 n (nI e)) (fun c => S c ∨ c = e) (fun j => if j = n then e else sk j) (n + 1) ∧ (∀ c, c < 256 → (Dn S sk n c ↔ Dn (fun c => S c ∨ c = e) (fun j => if j = n then e else sk j) (n + 1) c)) := by
  obtain ⟨q1, q2, q3, q4, q5, q6, q7⟩ := q
  have e140 : ∀ c, up2 (up2 I 140 e (nI h)) 145 n (nI e) 140 c = if c = e then nI h else I 140 c := fun c => by simp [up2]
  have e145 : ∀ c, up2 (up2 I 140 e (nI h)) 145 n (nI e) 145 c = if c = n then nI e else I 145 c := fun c => by simp [up2]
  refine ⟨⟨fun c hc2 => ⟨fun hs => ?_, fun hs => ?_⟩, fun j hj => ?_, fun i j hi hj hij => ?_, fun c hs => ?_, Or.inl q5, fun a ha => ?_, fun j hj => ?_⟩, fun c hc2 => ⟨fun hd => ⟨Or.inl hd.1, fun j hj => ?_⟩, fun hd => ?_⟩⟩
  · rw [e140]
    by_cases ec : c = e
    · rw [if_pos ec]
    · rw [if_neg ec]
      exact (q1 c hc2).1 (hs.resolve_right ec)
  · rw [e140, if_neg (fun z => hs (Or.inr z))]
    exact (q1 c hc2).2 (fun z => hs (Or.inl z))
  · rw [e145]
    by_cases ej : j = n
    · subst ej
      simp
    · simp only [ej, if_false]
      have := q2 j (by omega)
      exact ⟨this.1, Or.inl this.2⟩
  · by_cases ei : i = n
    · by_cases ej : j = n
      · omega
      · subst ei
        simp only [if_true, ej, if_false] at hij
        exact absurd (by rw [hij]; exact (q2 j (by omega)).2) hn
    · by_cases ej : j = n
      · subst ej
        simp only [if_true, ei, if_false] at hij
        exact absurd (by rw [← hij]; exact (q2 i (by omega)).2) hn
      · simp only [ei, ej, if_false] at hij
        exact q3 i j (by omega) (by omega) hij
  · rcases hs with hs | rfl
    · exact q4 c hs
    · exact ⟨he, hg, hc⟩
  · rw [up2_n (show a ≠ 145 by omega), up2_n (show a ≠ 140 by omega)]
    exact q6 a ha
  · rw [up2_n (show 141 ≠ 145 by omega), up2_n (show 141 ≠ 140 by omega), up2_n (show 142 ≠ 145 by omega), up2_n (show 142 ≠ 140 by omega), up2_n (show 144 ≠ 145 by omega), up2_n (show 144 ≠ 140 by omega)]
    exact q7 j hj
  · by_cases ej : j = n
    · subst ej
      simp only [if_true]
      exact fun z => hn (by rw [z]; exact hd.1)
    · simp only [ej, if_false]
      exact hd.2 j (by omega)
  · have h1 := hd.2 n (by omega)
    simp only [if_true] at h1
    refine ⟨hd.1.resolve_right (fun z => h1 z.symm), fun j hj => ?_⟩
    have h2 := hd.2 j (by omega)
    simp only [Nat.ne_of_lt hj, if_false] at h2
    exact h2
theorem DQ.lt {g : Nat → Nat} {k h : Nat} {I0 I : II} {S : Nat → Prop} {sk : Nat → Nat} {n e : Nat} (q : DQ g k h I0 I S sk n) (he : e < 256) (hn : ¬ S e) : n < 256 := by
  have h1 := (cnt_img (g := g) n sk (fun j hj => (q.2.2.2.1 _ (q.2.1 j hj).2).1) q.2.2.1).1
  have h2 := cnt_lt (p := fun c => ∃ j, j < n ∧ sk j = c) (n := 256) (c := e) he (fun ⟨j, hj, hc⟩ => hn (by rw [← hc]; exact (q.2.1 j hj).2))
  omega
section DFS
variable {g ρ : Nat → Nat} {k h : Nat} {I0 : II}
theorem dfs_in (hR : MR I0 ρ) (hB : Bd ρ) (hgr : g = gR ρ) (hk : isRt g k) (hh : h < 128) (ct : Int32 → II → Option II) {cell : Nat} (hcell : cell < 256) (hcg : Conn g k cell) (hc0 : 0 < g cell) :
    ∀ (m d fuel : Nat) (I : II) (S : Nat → Prop) (sk : Nat → Nat) (n : Nat), d + m = 4 → m < fuel → DQ g k h I0 I S sk n → DS g h I (Dn S sk n) → CL g S sk n cell d →
    ∃ (I' : II) (S' : Nat → Prop) (sk' : Nat → Nat) (n' : Nat), fX9_spread_L138 fuel ct (nI h) (nI cell) (nI n) (nI d) I = ct (nI n') I' ∧ DQ g k h I0 I' S' sk' n' ∧ DS g h I' (Dn S' sk' n') ∧ CL g S' sk' n' cell 4 ∧ (∀ c, c < 256 → (Dn S sk n c ↔ Dn S' sk' n' c)) := by
  intro m
  induction m with
  | zero =>
    intro d fuel I S sk n hd hf q hs hcl
    obtain ⟨f, rfl⟩ : ∃ f, fuel = f + 1 := ⟨fuel - 1, by omega⟩
    have hd4 : d = 4 := by omega
    subst hd4
    rw [fX9_spread_L138, ifp (show (4 : Int32) ≤ nI 4 by decide)]
    exact ⟨I, S, sk, n, rfl, q, hs, hcl, fun _ _ => Iff.rfl⟩
  | succ m ih =>
    intro d fuel I S sk n hd hf q hs hcl
    obtain ⟨f, rfl⟩ : ∃ f, fuel = f + 1 := ⟨fuel - 1, by omega⟩
    have hd4 : d < 4 := by omega
    have hl4 : ¬ (4 : Int32) ≤ nI d := fun z => by
      have := (nI_leI (a := 4) (b := d) (by omega) (by omega)).mp z
      omega
    have hMR : MR I ρ := fun j hj => by rw [q.2.2.2.2.2.1 135 (by omega)]; exact hR j hj
    have hcr : cell / 16 < ρ 0 := by
      rcases Nat.lt_or_ge (cell / 16) (ρ 0) with z | z
      · exact z
      · have := hB.2.2.2 cell hcell (Or.inl z)
        rw [← hgr] at this
        omega
    have hcc : cell % 16 < ρ 1 := by
      rcases Nat.lt_or_ge (cell % 16) (ρ 1) with z | z
      · exact z
      · have := hB.2.2.2 cell hcell (Or.inr z)
        rw [← hgr] at this
        omega
    have hnd : nI d + 1 = nI (d + 1) := nI_1 d
    have go : (nbr cell d < 256 → 0 < g (nbr cell d) → S (nbr cell d)) → ∃ (I' : II) (S' : Nat → Prop) (sk' : Nat → Nat) (n' : Nat), fX9_spread_L138 f ct (nI h) (nI cell) (nI n) (nI (d + 1)) I = ct (nI n') I' ∧ DQ g k h I0 I' S' sk' n' ∧ DS g h I' (Dn S' sk' n') ∧ CL g S' sk' n' cell 4 ∧ (∀ c, c < 256 → (Dn S sk n c ↔ Dn S' sk' n' c)) := by
      intro hin
      refine ih (d + 1) f I S sk n (by omega) (by omega) q hs (fun c hc d' hd' hex hn hg => ?_)
      by_cases e : c = cell ∧ d' = d
      · obtain ⟨rfl, rfl⟩ := e
        exact hin hn hg
      · exact hcl c hc d' hd' (fun ec => by
          have := hex ec
          have : d' ≠ d := fun ed => e ⟨ec, ed⟩
          omega) hn hg
    rw [fX9_spread_L138, ifn hl4, hnd]
    rcases step_sp hMR hB hcell hcr hcc hd4 with ⟨s1, s2, s3, s4⟩ | ⟨s1, s2⟩
    · rw [s4, bd1]
      generalize he : nbr cell d = e at s1 s2 s3 go ⊢
      have e9 : (9 : Int32) + nI e = nI (9 + e) := nI_add 9 e
      rw [ifn (nI_pos (by omega)), e9, ckN (show 9 + e < 367 by omega) (by omega), tnN (show 9 + e < 2 ^ 31 by omega), hMR (9 + e) (by omega)]
      have hge : ρ (9 + e) = g e := by rw [hgr]; rfl
      have hgb : g e ≤ 99 := by rw [hgr]; exact hB.2.2.1 e s1
      rw [hge]
      by_cases hg0 : 0 < g e
      · have hce : Conn g k e := by
          rw [← he]
          exact hcg.tr (Conn.st hcell hd4 (by rw [he]; exact s1) (by rw [he]; exact hg0))
        rw [ifn (nI_nle hg0 (by omega)), ckN s1 (by omega), tnN (show e < 2 ^ 31 by omega)]
        by_cases hS : S e
        · rw [(q.1 e s1).1 hS, ifp (nI_nneg (by omega))]
          exact go (fun _ _ => hS)
        · have hlb : lb g (-5) k e = -5 := by
            unfold lb
            rw [if_neg]
            rintro ⟨-, h2⟩
            rw [rtOf_eq hk hce] at h2
            omega
          have hn256 := q.lt s1 hS
          rw [(q.1 e s1).2 hS, hlb, ifn (show ¬ (0 : Int32) ≤ -5 by decide), ckN s1 (by omega), bd1, ckN hn256 (by omega), bd1, tnN (show n < 2 ^ 31 by omega), nI_1]
          obtain ⟨q', hD⟩ := q.push s1 hg0 hce hS
          obtain ⟨I', S', sk', n', h1, h2, h3, h4, h5⟩ := ih (d + 1) f _ _ _ (n + 1) (by omega) (by omega) q' (by
            have hs' : DS g h (up2 (up2 I 140 e (nI h)) 145 n (nI e)) (Dn S sk n) := by
              unfold DS
              rw [up2_n (show 141 ≠ 145 by omega), up2_n (show 141 ≠ 140 by omega), up2_n (show 142 ≠ 145 by omega), up2_n (show 142 ≠ 140 by omega), up2_n (show 144 ≠ 145 by omega), up2_n (show 144 ≠ 140 by omega)]
              exact hs
            exact hs'.congr hD) (fun c hc d' hd' hex hn hg => by
            have hc256 : c < 256 := (q'.2.2.2.1 c hc.1).1
            have hcD := (hD c hc256).mpr hc
            by_cases ee : c = cell ∧ d' = d
            · obtain ⟨rfl, rfl⟩ := ee
              exact Or.inr he
            · exact Or.inl (hcl c hcD d' hd' (fun ec => by
                have := hex ec
                have : d' ≠ d := fun ed => ee ⟨ec, ed⟩
                omega) hn hg))
          exact ⟨I', S', sk', n', h1, h2, h3, h4, fun c hc => (hD c hc).trans (h5 c hc)⟩
      · have h0 : g e = 0 := by omega
        rw [h0, ifp (show nI 0 ≤ (0 : Int32) by decide)]
        exact go (fun _ z => absurd z hg0)
    · rw [s2, bd1, ifp m5_neg]
      refine go (fun z1 z2 => ?_)
      rcases s1 with s1 | ⟨s1, s3⟩
      · omega
      · have := hB.2.2.2 _ s1 s3
        rw [← hgr] at this
        omega
theorem dfs_out (hR : MR I0 ρ) (hB : Bd ρ) (hgr : g = gR ρ) (hk : isRt g k) (hh : h < 128) (ct : II → Option II) :
    ∀ (m fuel : Nat) (I : II) (S : Nat → Prop) (sk : Nat → Nat) (n : Nat), cnt (Dn S sk n) 256 + m = 256 → m < fuel → DQ g k h I0 I S sk n → DS g h I (Dn S sk n) → CL g S sk n 256 0 →
    ∃ (I' : II), fX9_spread_L59 fuel ct (nI h) (nI n) I = ct I' ∧ (∀ c, c < 256 → (Conn g k c → I' 140 c = nI h) ∧ (¬ Conn g k c → I' 140 c = lb g (-5) k c)) ∧ DS g h I' (Conn g k) ∧ (∀ a, (a < 140 ∨ a = 143 ∨ 145 < a) → I' a = I0 a) ∧ (∀ j, j ≠ h → I' 141 j = I0 141 j ∧ I' 142 j = I0 142 j ∧ I' 144 j = I0 144 j) := by
  intro m
  induction m with
  | zero =>
    intro fuel I S sk n hm hf q hs hcl
    obtain ⟨f, rfl⟩ : ∃ f, fuel = f + 1 := ⟨fuel - 1, by omega⟩
    rcases Nat.eq_zero_or_pos n with rfl | hn
    · have hmem : ∀ c, c < 256 → (Dn S sk 0 c ↔ Conn g k c) := fun c hc => ⟨fun z => (q.2.2.2.1 c z.1).2.2, fun z => ⟨z S q.2.2.2.2.1 (fun x d hx hx2 hd hn hg => hcl x ⟨hx, fun j hj => absurd hj (by omega)⟩ d hd (fun e => by omega) hn hg), fun j hj => absurd hj (by omega)⟩⟩
      rw [fX9_spread_L59, ifp (show nI 0 ≤ (0 : Int32) by decide)]
      refine ⟨I, rfl, fun c hc => ⟨fun z => (q.1 c hc).1 ((hmem c hc).mpr z).1, fun z => (q.1 c hc).2 (fun z2 => z ((hmem c hc).mp ⟨z2, fun j hj => absurd hj (by omega)⟩))⟩, hs.congr hmem, q.2.2.2.2.2.1, q.2.2.2.2.2.2⟩
    · exfalso
      have h1 : ¬ Dn S sk n (sk 0) := fun z => z.2 0 hn rfl
      have h2 := cnt_lt (p := Dn S sk n) (n := 256) (c := sk 0) (q.2.2.2.1 _ (q.2.1 0 hn).2).1 h1
      omega
  | succ m ih =>
    intro fuel I S sk n hm hf q hs hcl
    obtain ⟨f, rfl⟩ : ∃ f, fuel = f + 1 := ⟨fuel - 1, by omega⟩
    rcases Nat.eq_zero_or_pos n with rfl | hn
    · have hmem : ∀ c, c < 256 → (Dn S sk 0 c ↔ Conn g k c) := fun c hc => ⟨fun z => (q.2.2.2.1 c z.1).2.2, fun z => ⟨z S q.2.2.2.2.1 (fun x d hx hx2 hd hn hg => hcl x ⟨hx, fun j hj => absurd hj (by omega)⟩ d hd (fun e => by omega) hn hg), fun j hj => absurd hj (by omega)⟩⟩
      rw [fX9_spread_L59, ifp (show nI 0 ≤ (0 : Int32) by decide)]
      refine ⟨I, rfl, fun c hc => ⟨fun z => (q.1 c hc).1 ((hmem c hc).mpr z).1, fun z => (q.1 c hc).2 (fun z2 => z ((hmem c hc).mp ⟨z2, fun j hj => absurd hj (by omega)⟩))⟩, hs.congr hmem, q.2.2.2.2.2.1, q.2.2.2.2.2.2⟩
    · obtain ⟨n', rfl⟩ : ∃ n', n = n' + 1 := ⟨n - 1, by omega⟩
      have hn256 : n' < 256 := by
        have h1 := (cnt_img (g := g) (n' + 1) sk (fun j hj => (q.2.2.2.1 _ (q.2.1 j hj).2).1) q.2.2.1).1
        have h2 := cnt_le (fun c => ∃ j, j < n' + 1 ∧ sk j = c) 256
        omega
      have hMR : MR I ρ := fun j hj => by rw [q.2.2.2.2.2.1 135 (by omega)]; exact hR j hj
      obtain ⟨hst, hSc⟩ := q.2.1 n' (by omega)
      obtain ⟨c1, c2, c3⟩ := q.2.2.2.1 _ hSc
      generalize hcell : sk n' = cell at hst hSc c1 c2 c3
      have e9 : (9 : Int32) + nI cell = nI (9 + cell) := nI_add 9 cell
      have hgc : ρ (9 + cell) = g cell := by rw [hgr]; rfl
      have hgb : g cell ≤ 99 := by rw [hgr]; exact hB.2.2.1 cell c1
      rw [fX9_spread_L59, ifn (nI_nle (show 0 < n' + 1 by omega) (by omega)), pk_m1, ckN hn256 (by omega), tnN (show n' < 2 ^ 31 by omega), hst, e9, ckN (show 9 + cell < 367 by omega) (by omega), ckN hh (by omega), ckN hh (by omega), bd1, ckN hh (by omega), ckN hh (by omega), bd1, ckN hh (by omega), tnN (show h < 2 ^ 31 by omega), tnN (show 9 + cell < 2 ^ 31 by omega), hMR (9 + cell) (by omega), hgc, hs.1, nI_add]
      -- the sums, with the cell
      have hnD : ¬ Dn S sk (n' + 1) cell := fun z => z.2 n' (by omega) hcell
      have hD : ∀ c, c < 256 → ((Dn S sk (n' + 1) c ∨ c = cell) ↔ Dn S sk n' c) := by
        intro c hc
        constructor
        · rintro (z | rfl)
          · exact ⟨z.1, fun j hj => z.2 j (by omega)⟩
          · refine ⟨hSc, fun j hj e => ?_⟩
            have := q.2.2.1 j n' (by omega) (by omega) (by rw [e, hcell])
            omega
        · intro z
          by_cases e : c = cell
          · exact Or.inr e
          · refine Or.inl ⟨z.1, fun j hj => ?_⟩
            by_cases ej : j = n'
            · subst ej
              rw [hcell]
              exact fun w => e w.symm
            · exact z.2 j (by omega)
      have u1 : sme g (Dn S sk (n' + 1)) 256 + g cell = sme g (Dn S sk n') 256 := by rw [← sme_ins (g := g) (p := Dn S sk (n' + 1)) c1 hnD, sme_congr hD]
      have u2 : cnt (Dn S sk (n' + 1)) 256 + 1 = cnt (Dn S sk n') 256 := by rw [← cnt_ins (p := Dn S sk (n' + 1)) c1 hnD, cnt_congr hD]
      have u3 : max (mxe g (Dn S sk (n' + 1)) 256) (g cell) = mxe g (Dn S sk n') 256 := by rw [← mxe_ins (g := g) (p := Dn S sk (n' + 1)) c1, mxe_congr 256 hD]
      have hmxb : mxe g (Dn S sk (n' + 1)) 256 ≤ 99 := (mxe_le 256).mpr (fun i hi _ => by rw [hgr]; exact hB.2.2.1 i hi)
      have e142 : up2 I 141 h (nI (sme g (Dn S sk (n' + 1)) 256 + g cell)) 142 h = nI (cnt (Dn S sk (n' + 1)) 256) := by rw [up2_n (show 142 ≠ 141 by omega)]; exact hs.2.1
      rw [e142, nI_1, u1, u2]
      have e144 : up2 (up2 I 141 h (nI (sme g (Dn S sk n') 256))) 142 h (nI (cnt (Dn S sk n') 256)) 144 h = nI (mxe g (Dn S sk (n' + 1)) 256) := by rw [up2_n (show 144 ≠ 142 by omega), up2_n (show 144 ≠ 141 by omega)]; exact hs.2.2
      rw [e144]
      have fin : ∀ v, v = mxe g (Dn S sk n') 256 → ∃ (I' : II), fX9_spread_L138 2000 (fun z I39 => fX9_spread_L59 f ct (nI h) z I39) (nI h) (nI cell) (nI n') (nI 0) (up2 (up2 (up2 I 141 h (nI (sme g (Dn S sk n') 256))) 142 h (nI (cnt (Dn S sk n') 256))) 144 h (nI v)) = ct I' ∧ (∀ c, c < 256 → (Conn g k c → I' 140 c = nI h) ∧ (¬ Conn g k c → I' 140 c = lb g (-5) k c)) ∧ DS g h I' (Conn g k) ∧ (∀ a, (a < 140 ∨ a = 143 ∨ 145 < a) → I' a = I0 a) ∧ (∀ j, j ≠ h → I' 141 j = I0 141 j ∧ I' 142 j = I0 142 j ∧ I' 144 j = I0 144 j) := by
        intro v hv
        rw [hv]
        have q' : DQ g k h I0 (up2 (up2 (up2 I 141 h (nI (sme g (Dn S sk n') 256))) 142 h (nI (cnt (Dn S sk n') 256))) 144 h (nI (mxe g (Dn S sk n') 256))) S sk n' := by
          refine ⟨fun c hc => ?_, fun j hj => ?_, fun i j hi hj => q.2.2.1 i j (by omega) (by omega), q.2.2.2.1, q.2.2.2.2.1, fun a ha => ?_, fun j hj => ?_⟩
          · rw [up2_n (show 140 ≠ 144 by omega), up2_n (show 140 ≠ 142 by omega), up2_n (show 140 ≠ 141 by omega)]
            exact q.1 c hc
          · rw [up2_n (show 145 ≠ 144 by omega), up2_n (show 145 ≠ 142 by omega), up2_n (show 145 ≠ 141 by omega)]
            exact q.2.1 j (by omega)
          · rw [up2_n (show a ≠ 144 by omega), up2_n (show a ≠ 142 by omega), up2_n (show a ≠ 141 by omega)]
            exact q.2.2.2.2.2.1 a ha
          · rw [up2_n (show 141 ≠ 144 by omega), up2_n (show 141 ≠ 142 by omega), up2_b hj, up2_n (show 142 ≠ 144 by omega), up2_b hj, up2_n (show 142 ≠ 141 by omega), up2_b hj, up2_n (show 144 ≠ 142 by omega), up2_n (show 144 ≠ 141 by omega)]
            exact q.2.2.2.2.2.2 j hj
        have hs' : DS g h (up2 (up2 (up2 I 141 h (nI (sme g (Dn S sk n') 256))) 142 h (nI (cnt (Dn S sk n') 256))) 144 h (nI (mxe g (Dn S sk n') 256))) (Dn S sk n') := by
          refine ⟨?_, ?_, ?_⟩
          · rw [up2_n (show 141 ≠ 144 by omega), up2_n (show 141 ≠ 142 by omega), up2_a]
          · rw [up2_n (show 142 ≠ 144 by omega), up2_a]
          · rw [up2_a]
        obtain ⟨I1, S1, sk1, n1, a1, a2, a3, a4, a5⟩ := dfs_in hR hB hgr hk hh (fun z I39 => fX9_spread_L59 f ct (nI h) z I39) c1 c3 c2 4 0 2000 _ S sk n' (by omega) (by omega) q' hs' (fun c hc d hd hex hn2 hg2 => by
          have hc256 := (q.2.2.2.1 c hc.1).1
          rcases (hD c hc256).mpr hc with z | z
          · exact hcl c z d hd (fun e => by omega) hn2 hg2
          · exact absurd (hex z) (by omega))
        rw [a1]
        refine ih f I1 S1 sk1 n1 ?_ (by omega) a2 a3 (fun c hc d hd _ hn2 hg2 => a4 c hc d hd (fun _ => hd) hn2 hg2)
        rw [← cnt_congr a5]
        omega
      by_cases hle : g cell ≤ mxe g (Dn S sk (n' + 1)) 256
      · rw [ifp (nI_le hle (by omega)), ckN hh (by omega), ckN hh (by omega), bd1]
        exact fin _ (by rw [← u3, Nat.max_eq_left hle])
      · rw [ifn (fun z => hle ((nI_leI (by omega) (by omega)).mp z)), ckN hh (by omega), bd1]
        exact fin _ (by rw [← u3, Nat.max_eq_right (by omega)])
end DFS
/-- spread of the reference from the first cell k of heap h -/
theorem spread_sp {ρ : Nat → Nat} {k h : Nat} {I : II} (hR : MR I ρ) (hB : Bd ρ) (hk : isRt (gR ρ) k) (hh : h < 128) (h7 : I 134 7 = nI h) (hl : ∀ c, c < 256 → I 140 c = lb (gR ρ) (-5) k c) :
    ∃ I', fX9_spread I (nI k) = some I' ∧ I' 134 7 = nI (h + 1) ∧ (∀ c, c < 256 → (Conn (gR ρ) k c → I' 140 c = nI h) ∧ (¬ Conn (gR ρ) k c → I' 140 c = lb (gR ρ) (-5) k c)) ∧ DS (gR ρ) h I' (Conn (gR ρ) k) ∧ I' 143 h = nI k ∧ (∀ a, (a < 134 ∨ a = 135 ∨ a = 136 ∨ a = 137 ∨ a = 138 ∨ a = 139 ∨ 145 < a) → I' a = I a) ∧ (∀ j, j ≠ 7 → I' 134 j = I 134 j) ∧ (∀ j, j ≠ h → I' 141 j = I 141 j ∧ I' 142 j = I 142 j ∧ I' 144 j = I 144 j ∧ I' 143 j = I 143 j) := by
  have hk256 := hk.1.1
  unfold fX9_spread
  rw [bd1, h7, nI_1, ckN hh (by omega), bd1, ckN hh (by omega), bd1, ckN hh (by omega), bd1, ckN hh (by omega), bd1, ckN hk256 (by omega), bd1, bd1, tnN (show h < 2 ^ 31 by omega), tnN (show k < 2 ^ 31 by omega)]
  generalize hI0 : up2 (up2 (up2 (up2 (up2 I 134 7 (nI (h + 1))) 141 h 0) 142 h 0) 144 h 0) 143 h (nI k) = I0
  have f1 : ∀ a, (a < 134 ∨ a = 135 ∨ a = 136 ∨ a = 137 ∨ a = 138 ∨ a = 139 ∨ a = 140 ∨ 145 ≤ a) → I0 a = I a := fun a ha => by
    rw [← hI0, up2_n (show a ≠ 143 by omega), up2_n (show a ≠ 144 by omega), up2_n (show a ≠ 142 by omega), up2_n (show a ≠ 141 by omega), up2_n (show a ≠ 134 by omega)]
  have hR0 : MR I0 ρ := fun j hj => by rw [f1 135 (by omega)]; exact hR j hj
  have q : DQ (gR ρ) k h I0 (up2 (up2 I0 140 k (nI h)) 145 0 (nI k)) (fun c => c = k) (fun _ => k) 1 := by
    refine ⟨fun c hc => ⟨fun e => ?_, fun e => ?_⟩, fun j hj => ?_, fun i j hi hj _ => by omega, fun c e => ?_, rfl, fun a ha => ?_, fun j hj => ?_⟩
    · rw [up2_n (show 140 ≠ 145 by omega), e, up2_a]
    · rw [up2_n (show 140 ≠ 145 by omega), up2_b e, f1 140 (by omega)]
      exact hl c hc
    · have : j = 0 := by omega
      subst this
      exact ⟨up2_a, rfl⟩
    · have e : c = k := e
      subst e
      exact ⟨hk256, hk.1.2, Conn.rf⟩
    · rw [up2_n (show a ≠ 145 by omega), up2_n (show a ≠ 140 by omega)]
    · rw [up2_n (show 141 ≠ 145 by omega), up2_n (show 141 ≠ 140 by omega), up2_n (show 142 ≠ 145 by omega), up2_n (show 142 ≠ 140 by omega), up2_n (show 144 ≠ 145 by omega), up2_n (show 144 ≠ 140 by omega)]
      exact ⟨rfl, rfl, rfl⟩
  have hno : ∀ c, ¬ Dn (fun c => c = k) (fun _ => k) 1 c := fun c z => z.2 0 (by omega) z.1.symm
  have hc0 : cnt (Dn (fun c => c = k) (fun _ => k) 1) 256 = 0 := cnt_none (fun i _ => hno i)
  have hs : DS (gR ρ) h (up2 (up2 I0 140 k (nI h)) 145 0 (nI k)) (Dn (fun c => c = k) (fun _ => k) 1) := by
    refine ⟨?_, ?_, ?_⟩
    · rw [up2_n (show 141 ≠ 145 by omega), up2_n (show 141 ≠ 140 by omega), ← hI0, up2_n (show 141 ≠ 143 by omega), up2_n (show 141 ≠ 144 by omega), up2_n (show 141 ≠ 142 by omega), up2_a, sme_none (fun i _ => hno i)]
      rfl
    · rw [up2_n (show 142 ≠ 145 by omega), up2_n (show 142 ≠ 140 by omega), ← hI0, up2_n (show 142 ≠ 143 by omega), up2_n (show 142 ≠ 144 by omega), up2_a, hc0]
      rfl
    · rw [up2_n (show 144 ≠ 145 by omega), up2_n (show 144 ≠ 140 by omega), ← hI0, up2_n (show 144 ≠ 143 by omega), up2_a]
      have : mxe (gR ρ) (Dn (fun c => c = k) (fun _ => k) 1) 256 = 0 := Nat.le_zero.mp ((mxe_le 256).mpr (fun i _ z => absurd z (hno i)))
      rw [this]
      rfl
  obtain ⟨I', a1, a2, a3, a4, a5⟩ := dfs_out hR0 hB rfl hk hh (fun I44 => some I44) 256 2000 _ _ _ 1 (by rw [hc0]) (by omega) q hs (fun c hc => absurd hc (hno c))
  refine ⟨I', a1, ?_, a2, a3, ?_, fun a ha => ?_, fun j hj => ?_, fun j hj => ?_⟩
  · rw [a4 134 (by omega), ← hI0, up2_n (show 134 ≠ 143 by omega), up2_n (show 134 ≠ 144 by omega), up2_n (show 134 ≠ 142 by omega), up2_n (show 134 ≠ 141 by omega), up2_a]
  · rw [a4 143 (by omega), ← hI0, up2_a]
  · rw [a4 a (by omega), f1 a (by omega)]
  · rw [a4 134 (by omega), ← hI0, up2_n (show 134 ≠ 143 by omega), up2_n (show 134 ≠ 144 by omega), up2_n (show 134 ≠ 142 by omega), up2_n (show 134 ≠ 141 by omega), up2_b hj]
  · obtain ⟨b1, b2, b3⟩ := a5 j hj
    rw [b1, b2, b3, a4 143 (by omega), ← hI0]
    refine ⟨?_, ?_, ?_, ?_⟩
    · rw [up2_n (show 141 ≠ 143 by omega), up2_n (show 141 ≠ 144 by omega), up2_n (show 141 ≠ 142 by omega), up2_b hj, up2_n (show 141 ≠ 134 by omega)]
    · rw [up2_n (show 142 ≠ 143 by omega), up2_n (show 142 ≠ 144 by omega), up2_b hj, up2_n (show 142 ≠ 141 by omega), up2_n (show 142 ≠ 134 by omega)]
    · rw [up2_n (show 144 ≠ 143 by omega), up2_b hj, up2_n (show 144 ≠ 142 by omega), up2_n (show 144 ≠ 141 by omega), up2_n (show 144 ≠ 134 by omega)]
    · rw [up2_b hj, up2_n (show 143 ≠ 144 by omega), up2_n (show 143 ≠ 142 by omega), up2_n (show 143 ≠ 141 by omega), up2_n (show 143 ≠ 134 by omega)]
