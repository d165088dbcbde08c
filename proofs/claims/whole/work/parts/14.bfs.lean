/-! the class finds a heap by a queue -/
/-- the queue fo of n cells, over the memory I0 ahead of it; k the first cell, h the heap's number -/
def BQ (g : Nat → Nat) (k h : Nat) (I0 I : II) (fo : Nat → Nat) (n : Nat) : Prop :=
  (∀ j, j < n → I 19 (fo j) = nI h) ∧ (∀ c, c < 256 → (∀ j, j < n → fo j ≠ c) → I 19 c = lb g (-1) k c) ∧ (∀ j, j < n → I 20 j = nI (fo j)) ∧
  (∀ j, j < n → fo j < 256 ∧ 0 < g (fo j) ∧ Conn g k (fo j)) ∧ (∀ i j, i < n → j < n → fo i = fo j → i = j) ∧ (∀ a, a ≠ 19 → a ≠ 20 → I a = I0 a)
theorem BQ.le {g : Nat → Nat} {k h : Nat} {I0 I : II} {fo : Nat → Nat} {n : Nat} (q : BQ g k h I0 I fo n) : n ≤ 256 := by
  have h1 := (cnt_img (g := g) n fo (fun j hj => (q.2.2.2.1 j hj).1) q.2.2.2.2.1).1
  have h2 := cnt_le (fun c => ∃ j, j < n ∧ fo j = c) 256
  omega
theorem BQ.lt {g : Nat → Nat} {k h : Nat} {I0 I : II} {fo : Nat → Nat} {n e : Nat} (q : BQ g k h I0 I fo n) (he : e < 256) (hn : ∀ j, j < n → fo j ≠ e) : n < 256 := by
  have h1 := (cnt_img (g := g) n fo (fun j hj => (q.2.2.2.1 j hj).1) q.2.2.2.2.1).1
  have h2 := cnt_lt (p := fun c => ∃ j, j < n ∧ fo j = c) (n := 256) (c := e) he (fun ⟨j, hj, hc⟩ => hn j hj hc)
  omega
/-- one more cell in the queue -/
theorem BQ.push {g : Nat → Nat} {k h : Nat} {I0 I : II} {fo : Nat → Nat} {n e : Nat} (q : BQ g k h I0 I fo n) (he : e < 256) (hg : 0 < g e) (hc : Conn g k e) (hn : ∀ j, j < n → fo j ≠ e) : BQ g k h I0 (up2 (up2 I 19 e (nI h)) 20 n (nI e)) (fun j => if j = n then e else fo j) (n + 1) := by
  obtain ⟨q1, q2, q3, q4, q5, q6⟩ := q
  have e19 : ∀ c, up2 (up2 I 19 e (nI h)) 20 n (nI e) 19 c = if c = e then nI h else I 19 c := fun c => by simp [up2]
  have e20 : ∀ c, up2 (up2 I 19 e (nI h)) 20 n (nI e) 20 c = if c = n then nI e else I 20 c := fun c => by simp [up2]
  refine ⟨fun j hj => ?_, fun c hc2 hnc => ?_, fun j hj => ?_, fun j hj => ?_, fun i j hi hj hij => ?_, fun a h1 h2 => ?_⟩
  · rw [e19]
    by_cases ej : j = n
    · subst ej
      simp
    · simp only [ej, if_false]
      rw [if_neg (hn j (by omega))]
      exact q1 j (by omega)
  · rw [e19]
    have h1 := hnc n (by omega)
    simp only [if_true] at h1
    rw [if_neg (fun z => h1 z.symm)]
    refine q2 c hc2 (fun j hj => ?_)
    have h2 := hnc j (by omega)
    simp only [Nat.ne_of_lt hj, if_false] at h2
    exact h2
  · rw [e20]
    by_cases ej : j = n
    · subst ej
      simp
    · simp only [ej, if_false]
      exact q3 j (by omega)
  · by_cases ej : j = n
    · subst ej
      simp only [if_true]
      exact ⟨he, hg, hc⟩
    · simp only [ej, if_false]
      exact q4 j (by omega)
  · by_cases ei : i = n
    · by_cases ej : j = n
      · omega
      · subst ei
        simp only [if_true, ej, if_false] at hij
        exact absurd hij.symm (hn j (by omega))
    · by_cases ej : j = n
      · subst ej
        simp only [if_true, ei, if_false] at hij
        exact absurd hij (hn i (by omega))
      · simp only [ei, ej, if_false] at hij
        exact q5 i j (by omega) (by omega) hij
  · rw [up2_n h2, up2_n h1]
    exact q6 a h1 h2
section BFS
variable {g : Nat → Nat} {k h : Nat} {I0 : II}
/-- the four neighbours of one cell -/
theorem bfs_in (hb : ∀ c, c < 256 → g c < 2 ^ 20) (hg : ∀ c, c < 256 → I0 3 c = nI (g c)) (hk : isRt g k) (hh : h < 128) (ct : Int32 → II → Option II) (x2 x4 x6 : Int32) {i cell : Nat} (hcell : cell < 256) (hcg : Conn g k cell) :
    ∀ (m d fuel : Nat) (I : II) (fo : Nat → Nat) (n : Nat), d + m = 4 → m < fuel → BQ g k h I0 I fo n →
    ∃ (I' : II) (fo' : Nat → Nat) (n' : Nat), fX0_findHeap_L59 fuel ct 3 x2 (nI h) x4 x6 (nI cell) (nI n) (nI d) I = ct (nI n') I' ∧ BQ g k h I0 I' fo' n' ∧ n ≤ n' ∧ (∀ j, j < n → fo' j = fo j) ∧ ∀ d', d ≤ d' → d' < 4 → nbr cell d' < 256 → 0 < g (nbr cell d') → ∃ j, j < n' ∧ fo' j = nbr cell d' := by
  intro m
  induction m with
  | zero =>
    intro d fuel I fo n hd hf q
    obtain ⟨f, rfl⟩ : ∃ f, fuel = f + 1 := ⟨fuel - 1, by omega⟩
    have hd4 : d = 4 := by omega
    subst hd4
    refine ⟨I, fo, n, ?_, q, Nat.le_refl _, fun _ _ => rfl, fun d' h1 h2 => absurd h2 (by omega)⟩
    rw [fX0_findHeap_L59, ifp (show (3 : Int32) < nI 4 by decide)]
  | succ m ih =>
    intro d fuel I fo n hd hf q
    obtain ⟨f, rfl⟩ : ∃ f, fuel = f + 1 := ⟨fuel - 1, by omega⟩
    have hd4 : d < 4 := by omega
    have hl3 : ¬ (3 : Int32) < nI d := fun z => by
      have := (nI_ltI (a := 3) (b := d) (by omega) (by omega)).mp z
      omega
    rw [fX0_findHeap_L59, ifn hl3, neigh_sp hcell hd4, bd1]
    have hnd : nI d + 1 = nI (d + 1) := nI_1 d
    have go : (nbr cell d < 256 → 0 < g (nbr cell d) → ∃ j, j < n ∧ fo j = nbr cell d) → ∃ (I' : II) (fo' : Nat → Nat) (n' : Nat), fX0_findHeap_L59 f ct 3 x2 (nI h) x4 x6 (nI cell) (nI n) (nI d + 1) I = ct (nI n') I' ∧ BQ g k h I0 I' fo' n' ∧ n ≤ n' ∧ (∀ j, j < n → fo' j = fo j) ∧ ∀ d', d ≤ d' → d' < 4 → nbr cell d' < 256 → 0 < g (nbr cell d') → ∃ j, j < n' ∧ fo' j = nbr cell d' := by
      intro hin
      obtain ⟨I', fo', n', h1, h2, h3, h4, h5⟩ := ih (d + 1) f I fo n (by omega) (by omega) q
      refine ⟨I', fo', n', by rw [hnd]; exact h1, h2, h3, h4, fun d' a1 a2 a3 a4 => ?_⟩
      by_cases e : d' = d
      · subst e
        obtain ⟨j, hj, hj2⟩ := hin a3 a4
        exact ⟨j, by omega, by rw [h4 j hj]; exact hj2⟩
      · exact h5 d' (by omega) a2 a3 a4
    by_cases hn : nbr cell d < 256
    · rw [ifp hn]
      generalize he : nbr cell d = e at hn go ⊢
      rw [ifn (nI_pos (by omega)), ckN hn (by omega), tnN (show e < 2 ^ 31 by omega)]
      have hI3 : I 3 e = nI (g e) := by rw [q.2.2.2.2.2 3 (by omega) (by omega)]; exact hg e hn
      rw [hI3]
      by_cases hge : 0 < g e
      · have hce : Conn g k e := by
          rw [← he]
          exact hcg.tr (Conn.st hcell hd4 (by rw [he]; exact hn) (by rw [he]; exact hge))
        rw [ifn (nI_nle hge (by have := hb e hn; omega)), ckN hn (by omega)]
        by_cases hin : ∃ j, j < n ∧ fo j = e
        · obtain ⟨j, hj, hj2⟩ := hin
          have h19 := q.1 j hj
          rw [hj2] at h19
          rw [h19, ifp (nI_nneg (by omega))]
          exact go (fun _ _ => ⟨j, hj, hj2⟩)
        · have hno : ∀ j, j < n → fo j ≠ e := fun j hj z => hin ⟨j, hj, z⟩
          have h19 := q.2.1 e hn hno
          have hlb : lb g (-1) k e = -1 := by
            unfold lb
            rw [if_neg]
            rintro ⟨-, h2⟩
            rw [rtOf_eq hk hce] at h2
            omega
          rw [h19, hlb, ifn (show ¬ (0 : Int32) ≤ -1 by decide)]
          have hn256 := q.lt hn hno
          rw [ifn (show ¬ (256 : Int32) ≤ nI n from fun z => by
            have := (nI_leI (a := 256) (b := n) (by omega) (by omega)).mp z
            omega), ckN hn (by omega), bd1, ckN hn256 (by omega), bd1, tnN (show n < 2 ^ 31 by omega), hnd, nI_1]
          obtain ⟨I', fo', n', h1, h2, h3, h4, h5⟩ := ih (d + 1) f _ _ (n + 1) (by omega) (by omega) (q.push hn hge hce hno)
          refine ⟨I', fo', n', h1, h2, by omega, fun j hj => by rw [h4 j (by omega), if_neg (Nat.ne_of_lt hj)], fun d' a1 a2 a3 a4 => ?_⟩
          by_cases ed : d' = d
          · subst ed
            exact ⟨n, by omega, by rw [h4 n (by omega), if_pos rfl, he]⟩
          · exact h5 d' (by omega) a2 a3 a4
      · have h0 : g e = 0 := by omega
        rw [h0, ifp (show nI 0 ≤ (0 : Int32) by decide)]
        exact go (fun _ z => absurd z hge)
    · rw [ifn hn, ifp m1_neg]
      exact go (fun z => absurd z hn)
/-- the whole heap -/
theorem bfs_out (hb : ∀ c, c < 256 → g c < 2 ^ 20) (hg : ∀ c, c < 256 → I0 3 c = nI (g c)) (hk : isRt g k) (hh : h < 128) (ct : Int32 → Int32 → II → Option II) (x2 : Int32) :
    ∀ (m i fuel : Nat) (I : II) (fo : Nat → Nat) (n : Nat), i + m = 256 → m < fuel → i ≤ n → 0 < n → fo 0 = k → BQ g k h I0 I fo n → (∀ j d, j < i → d < 4 → nbr (fo j) d < 256 → 0 < g (nbr (fo j) d) → ∃ t, t < n ∧ fo t = nbr (fo j) d) →
    ∃ (I' : II), fX0_findHeap_L23 fuel ct 3 x2 (nI h) (nI (sm (fun j => g (fo j)) i)) (nI n) (nI i) I = ct (nI (sme g (Conn g k) 256)) (nI (cnt (Conn g k) 256)) I' ∧ (∀ c, c < 256 → (Conn g k c → I' 19 c = nI h) ∧ (¬ Conn g k c → I' 19 c = lb g (-1) k c)) ∧ (∀ a, a ≠ 19 → a ≠ 20 → I' a = I0 a) := by
  have done : ∀ (i : Nat) (I : II) (fo : Nat → Nat) (n : Nat), n ≤ i → i ≤ n → 0 < n → fo 0 = k → BQ g k h I0 I fo n → (∀ j d, j < i → d < 4 → nbr (fo j) d < 256 → 0 < g (nbr (fo j) d) → ∃ t, t < n ∧ fo t = nbr (fo j) d) →
      ct (nI (sm (fun j => g (fo j)) i)) (nI n) I = ct (nI (sme g (Conn g k) 256)) (nI (cnt (Conn g k) 256)) I ∧ (∀ c, c < 256 → (Conn g k c → I 19 c = nI h) ∧ (¬ Conn g k c → I 19 c = lb g (-1) k c)) ∧ (∀ a, a ≠ 19 → a ≠ 20 → I a = I0 a) := by
    intro i I fo n h1 h2 h0 hf q hcl
    have e : i = n := by omega
    subst e
    have hm : ∀ c, c < 256 → ((∃ j, j < i ∧ fo j = c) ↔ Conn g k c) := by
      intro c hc
      constructor
      · rintro ⟨j, hj, rfl⟩
        exact (q.2.2.2.1 j hj).2.2
      · intro hcc
        refine hcc (fun c => ∃ j, j < i ∧ fo j = c) ⟨0, h0, hf⟩ ?_
        rintro x d ⟨j, hj, rfl⟩ hx hd hn hg2
        exact hcl j d hj hd hn hg2
    obtain ⟨e1, e2⟩ := cnt_img (g := g) i fo (fun j hj => (q.2.2.2.1 j hj).1) q.2.2.2.2.1
    rw [cnt_congr hm] at e1
    rw [sme_congr hm] at e2
    refine ⟨by rw [e1, e2], fun c hc => ⟨fun hcc => ?_, fun hcc => ?_⟩, q.2.2.2.2.2⟩
    · obtain ⟨j, hj, rfl⟩ := (hm c hc).mpr hcc
      exact q.1 j hj
    · exact q.2.1 c hc (fun j hj z => hcc ((hm c hc).mp ⟨j, hj, z⟩))
  intro m
  induction m with
  | zero =>
    intro i fuel I fo n hi hf hin h0 hf0 q hcl
    obtain ⟨f, rfl⟩ : ∃ f, fuel = f + 1 := ⟨fuel - 1, by omega⟩
    have hn := q.le
    rw [fX0_findHeap_L23, ifp (nI_le (show n ≤ i by omega) (by omega))]
    exact ⟨I, done i I fo n (by omega) hin h0 hf0 q hcl⟩
  | succ m ih =>
    intro i fuel I fo n hi hf hin h0 hf0 q hcl
    obtain ⟨f, rfl⟩ : ∃ f, fuel = f + 1 := ⟨fuel - 1, by omega⟩
    have hn := q.le
    rw [fX0_findHeap_L23]
    by_cases hlt : n ≤ i
    · rw [ifp (nI_le hlt (by omega))]
      exact ⟨I, done i I fo n hlt hin h0 hf0 q hcl⟩
    · have hi2 : i < n := by omega
      have hfi := q.2.2.2.1 i hi2
      rw [ifn (nI_ge hi2 (by omega)), ifn (show ¬ (256 : Int32) ≤ nI i from fun z => by
        have := (nI_leI (a := 256) (b := i) (by omega) (by omega)).mp z
        omega), ckN (show i < 256 by omega) (by omega), tnN (show i < 2 ^ 31 by omega), q.2.2.1 i hi2, ckN hfi.1 (by omega), tnN (show fo i < 2 ^ 31 by have := hfi.1; omega)]
      have hI3 : I 3 (fo i) = nI (g (fo i)) := by rw [q.2.2.2.2.2 3 (by omega) (by omega)]; exact hg _ hfi.1
      rw [hI3, nI_add, nI_1]
      obtain ⟨I', fo', n', h1, h2, h3, h4, h5⟩ := bfs_in hb hg hk hh (fun z20 I21 => fX0_findHeap_L23 f ct 3 x2 (nI h) (nI (sm (fun j => g (fo j)) i + g (fo i))) z20 (nI (i + 1)) I21) x2 (nI (sm (fun j => g (fo j)) i + g (fo i))) (nI i) (i := i) hfi.1 hfi.2.2 4 0 2000 I fo n (by omega) (by omega) q
      rw [show (0 : Int32) = nI 0 from rfl, h1]
      have hsum : sm (fun j => g (fo j)) i + g (fo i) = sm (fun j => g (fo' j)) (i + 1) := by
        show _ = sm (fun j => g (fo' j)) i + g (fo' i)
        rw [h4 i hi2, sm_congr (f := fun j => g (fo' j)) (f' := fun j => g (fo j)) i (fun j hj => by show g (fo' j) = g (fo j); rw [h4 j (by omega)])]
      rw [hsum]
      refine ih (i + 1) f I' fo' n' (by omega) (by omega) (by omega) (by omega) (by rw [h4 0 h0]; exact hf0) h2 (fun j d hj hd hn2 hg2 => ?_)
      by_cases e : j = i
      · subst e
        rw [h4 j hi2] at hn2 hg2 ⊢
        exact h5 d (by omega) hd hn2 hg2
      · rw [h4 j (by omega)] at hn2 hg2 ⊢
        obtain ⟨t, ht, ht2⟩ := hcl j d (by omega) hd hn2 hg2
        exact ⟨t, by omega, by rw [h4 t ht]; exact ht2⟩
end BFS
/-- findHeap of the class at the first cell k of heap h -/
theorem findHeap_sp {g : Nat → Nat} {k h : Nat} {I : II} (hb : ∀ c, c < 256 → g c < 2 ^ 20) (hg : ∀ c, c < 256 → I 3 c = nI (g c)) (hk : isRt g k) (hh : h < 128) (hl : ∀ c, c < 256 → I 19 c = lb g (-1) k c) :
    ∃ I', fX0_findHeap I 3 (nI k) (nI h) = some I' ∧ (∀ c, c < 256 → (Conn g k c → I' 19 c = nI h) ∧ (¬ Conn g k c → I' 19 c = lb g (-1) k c)) ∧ (∀ a, a ≠ 16 → a ≠ 17 → a ≠ 18 → a ≠ 19 → a ≠ 20 → I' a = I a) ∧ (∀ j, j ≠ h → I' 16 j = I 16 j ∧ I' 17 j = I 17 j ∧ I' 18 j = I 18 j) ∧ I' 16 h = nI (sme g (Conn g k) 256) ∧ I' 17 h = nI (cnt (Conn g k) 256) ∧ I' 18 h = nI k := by
  unfold fX0_findHeap
  have hk256 := hk.1.1
  rw [bd1, ckN hk256 (by omega), bd1, tnN (show k < 2 ^ 31 by omega)]
  have q : BQ g k h I (up2 (up2 I 20 0 (nI k)) 19 k (nI h)) (fun _ => k) 1 := by
    refine ⟨fun j hj => by simp [up2], fun c hc hn => ?_, fun j hj => ?_, fun j hj => ⟨hk256, hk.1.2, Conn.rf⟩, fun i j hi hj _ => by omega, fun a h1 h2 => by rw [up2_n h1, up2_n h2]⟩
    · have := hn 0 (by omega)
      rw [up2_at, if_neg (fun z => this z.symm), up2_n (show 19 ≠ 20 by omega)]
      exact hl c hc
    · have : j = 0 := by omega
      subst this
      rw [up2_n (show 20 ≠ 19 by omega), up2_a]
  obtain ⟨I1, h1, h2, h3⟩ := bfs_out hb hg hk hh (fun z22 z23 I24 => ck (ix (nI h) 128) ((some (up2 I24 16 (nI h).toNatClampNeg z22)).bind fun I26 => ck (ix (nI h) 128) ((some (up2 I26 17 (nI h).toNatClampNeg z23)).bind fun I28 => ck (ix (nI h) 128) ((some (up2 I28 18 (nI h).toNatClampNeg (nI k))).bind fun I30 => some I30)))) (nI k) 256 0 2000 _ _ 1 (by omega) (by omega) (by omega) (by omega) rfl q (fun j d hj => absurd hj (by omega))
  rw [show fX0_findHeap_L23 2000 (fun z22 z23 I24 => ck (ix (nI h) 128) ((some (up2 I24 16 (nI h).toNatClampNeg z22)).bind fun I26 => ck (ix (nI h) 128) ((some (up2 I26 17 (nI h).toNatClampNeg z23)).bind fun I28 => ck (ix (nI h) 128) ((some (up2 I28 18 (nI h).toNatClampNeg (nI k))).bind fun I30 => some I30)))) 3 (nI k) (nI h) 0 1 0 (up2 (up2 I 20 0 (nI k)) 19 k (nI h)) = _ from h1]
  rw [ckN hh (by omega), bd1, ckN hh (by omega), bd1, ckN hh (by omega), bd1, tnN (show h < 2 ^ 31 by omega)]
  refine ⟨_, rfl, fun c hc => ?_, fun a a1 a2 a3 a4 a5 => ?_, fun j hj => ⟨?_, ?_, ?_⟩, ?_, ?_, ?_⟩
  · rw [up2_n (show 19 ≠ 18 by omega), up2_n (show 19 ≠ 17 by omega), up2_n (show 19 ≠ 16 by omega)]
    exact h2 c hc
  · rw [up2_n a3, up2_n a2, up2_n a1]
    exact h3 a a4 a5
  · rw [up2_n (show 16 ≠ 18 by omega), up2_n (show 16 ≠ 17 by omega), up2_b hj, h3 16 (by omega) (by omega)]
  · rw [up2_n (show 17 ≠ 18 by omega), up2_b hj, up2_n (show 17 ≠ 16 by omega), h3 17 (by omega) (by omega)]
  · rw [up2_b hj, up2_n (show 18 ≠ 17 by omega), up2_n (show 18 ≠ 16 by omega), h3 18 (by omega) (by omega)]
  · rw [up2_n (show 16 ≠ 18 by omega), up2_n (show 16 ≠ 17 by omega), up2_a]
  · rw [up2_n (show 17 ≠ 18 by omega), up2_a]
  · rw [up2_a]
