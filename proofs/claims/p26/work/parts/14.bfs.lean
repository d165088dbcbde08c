/-! the class finds a heap by a queue; each cell is added by addCell, which also counts cells and chips -/
def BQ (g : Nat → Nat) (k h : Nat) (I0 I : II) (fo : Nat → Nat) (n : Nat) : Prop :=
  (∀ j, j < n → I 19 (fo j) = nI h) ∧ (∀ c, c < 256 → (∀ j, j < n → fo j ≠ c) → I 19 c = lb g (-1) k c) ∧ (∀ j, j < n → I 20 j = nI (fo j)) ∧
  (∀ j, j < n → fo j < 256 ∧ 0 < g (fo j) ∧ Conn g k (fo j)) ∧ (∀ i j, i < n → j < n → fo i = fo j → i = j) ∧
  (I 17 h = nI n ∧ I 16 h = nI (sm (fun j => g (fo j)) n)) ∧ (∀ a, a ≠ 16 → a ≠ 17 → a ≠ 19 → a ≠ 20 → I a = I0 a) ∧ (∀ j, j ≠ h → I 16 j = I0 16 j ∧ I 17 j = I0 17 j)
theorem BQ.le {g : Nat → Nat} {k h : Nat} {I0 I : II} {fo : Nat → Nat} {n : Nat} (q : BQ g k h I0 I fo n) : n ≤ 256 := by
  have h1 := (cnt_img (g := g) n fo (fun j hj => (q.2.2.2.1 j hj).1) q.2.2.2.2.1).1
  have h2 := cnt_le (fun c => ∃ j, j < n ∧ fo j = c) 256
  omega
theorem BQ.lt {g : Nat → Nat} {k h : Nat} {I0 I : II} {fo : Nat → Nat} {n e : Nat} (q : BQ g k h I0 I fo n) (he : e < 256) (hn : ∀ j, j < n → fo j ≠ e) : n < 256 := by
  have h1 := (cnt_img (g := g) n fo (fun j hj => (q.2.2.2.1 j hj).1) q.2.2.2.2.1).1
  have h2 := cnt_lt (p := fun c => ∃ j, j < n ∧ fo j = c) (n := 256) (c := e) he (fun ⟨j, hj, hc⟩ => hn j hj hc)
  omega
def addM (g : Nat → Nat) (h : Nat) (I : II) (fo : Nat → Nat) (n e : Nat) : II := up2 (up2 (up2 (up2 I 19 e (nI h)) 20 n (nI e)) 17 h (nI (n + 1))) 16 h (nI (sm (fun j => g (fo j)) n + g e))
theorem addM_19 {g : Nat → Nat} {h : Nat} {I : II} {fo : Nat → Nat} {n e c : Nat} : addM g h I fo n e 19 c = if c = e then nI h else I 19 c := by
  unfold addM
  rw [up2_n (show 19 ≠ 16 by omega), up2_n (show 19 ≠ 17 by omega), up2_n (show 19 ≠ 20 by omega), up2_at]
theorem addM_20 {g : Nat → Nat} {h : Nat} {I : II} {fo : Nat → Nat} {n e c : Nat} : addM g h I fo n e 20 c = if c = n then nI e else I 20 c := by
  unfold addM
  rw [up2_n (show 20 ≠ 16 by omega), up2_n (show 20 ≠ 17 by omega), up2_at, up2_n (show 20 ≠ 19 by omega)]
theorem addM_17 {g : Nat → Nat} {h : Nat} {I : II} {fo : Nat → Nat} {n e c : Nat} : addM g h I fo n e 17 c = if c = h then nI (n + 1) else I 17 c := by
  unfold addM
  rw [up2_n (show 17 ≠ 16 by omega), up2_at, up2_n (show 17 ≠ 20 by omega), up2_n (show 17 ≠ 19 by omega)]
theorem addM_16 {g : Nat → Nat} {h : Nat} {I : II} {fo : Nat → Nat} {n e c : Nat} : addM g h I fo n e 16 c = if c = h then nI (sm (fun j => g (fo j)) n + g e) else I 16 c := by
  unfold addM
  rw [up2_at, up2_n (show 16 ≠ 17 by omega), up2_n (show 16 ≠ 20 by omega), up2_n (show 16 ≠ 19 by omega)]
theorem addM_n {g : Nat → Nat} {h : Nat} {I : II} {fo : Nat → Nat} {n e a : Nat} (h1 : a ≠ 16) (h2 : a ≠ 17) (h3 : a ≠ 19) (h4 : a ≠ 20) : addM g h I fo n e a = I a := by
  unfold addM
  rw [up2_n h1, up2_n h2, up2_n h4, up2_n h3]
theorem BQ.push {g : Nat → Nat} {k h : Nat} {I0 I : II} {fo : Nat → Nat} {n e : Nat} (q : BQ g k h I0 I fo n) (he : e < 256) (hg : 0 < g e) (hc : Conn g k e) (hn : ∀ j, j < n → fo j ≠ e) : BQ g k h I0 (addM g h I fo n e) (fun j => if j = n then e else fo j) (n + 1) := by
  obtain ⟨q1, q2, q3, q4, q5, ⟨q6, q7⟩, q8, q9⟩ := q
  refine ⟨fun j hj => ?_, fun c hc2 hnc => ?_, fun j hj => ?_, fun j hj => ?_, fun i j hi hj hij => ?_, ⟨?_, ?_⟩, fun a h1 h2 h3 h4 => ?_, fun j hj => ⟨?_, ?_⟩⟩
  · rw [addM_19]
    by_cases ej : j = n
    · subst ej
      simp
    · simp only [ej, if_false]
      rw [if_neg (hn j (by omega))]
      exact q1 j (by omega)
  · rw [addM_19]
    have h1 := hnc n (by omega)
    simp only [if_true] at h1
    rw [if_neg (fun z => h1 z.symm)]
    refine q2 c hc2 (fun j hj => ?_)
    have h2 := hnc j (by omega)
    simp only [Nat.ne_of_lt hj, if_false] at h2
    exact h2
  · rw [addM_20]
    by_cases ej : j = n
    · subst ej
      simp
    · simp only [ej, if_false]
      exact q3 j (by omega)
  · by_cases ej : j = n
    · subst ej
      simp only [if_true]
      exact ⟨he, hg, hc⟩
    · simp only [ej, if_false]
      exact q4 j (by omega)
  · by_cases ei : i = n
    · by_cases ej : j = n
      · omega
      · subst ei
        simp only [if_true, ej, if_false] at hij
        exact absurd hij.symm (hn j (by omega))
    · by_cases ej : j = n
      · subst ej
        simp only [if_true, ei, if_false] at hij
        exact absurd hij (hn i (by omega))
      · simp only [ei, ej, if_false] at hij
        exact q5 i j (by omega) (by omega) hij
  · rw [addM_17, if_pos rfl]
  · rw [addM_16, if_pos rfl]
    show nI (sm (fun j => g (fo j)) n + g e) = nI (sm (fun j => g (if j = n then e else fo j)) n + g (if n = n then e else fo n))
    rw [if_pos rfl, sm_congr (f := fun j => g (if j = n then e else fo j)) (f' := fun j => g (fo j)) n (fun j hj => by show g (if j = n then e else fo j) = g (fo j); rw [if_neg (Nat.ne_of_lt hj)])]
  · rw [addM_n h1 h2 h3 h4]
    exact q8 a h1 h2 h3 h4
  · rw [addM_16, if_neg hj]
    exact (q9 j hj).1
  · rw [addM_17, if_neg hj]
    exact (q9 j hj).2
section BFS
variable {g : Nat → Nat} {k h : Nat} {I0 : II}
theorem ng256 {n : Nat} (h : n < 256) : ¬ (256 : Int32) ≤ nI n := fun z => by
  have := (nI_leI (a := 256) (b := n) (by omega) (by omega)).mp z
  omega
theorem add_sp (hb : ∀ c, c < 256 → g c < 2 ^ 20) (hg : ∀ c, c < 256 → I0 3 c = nI (g c)) (hk : isRt g k) (hh : h < 128) {I : II} {fo : Nat → Nat} {n e : Nat} (q : BQ g k h I0 I fo n) (hce : e < 256 → 0 < g e → Conn g k e) :
    ∃ (I' : II) (fo' : Nat → Nat) (n' : Nat), fX0_addCell I 3 (if e < 256 then nI e else -1) (nI h) = some I' ∧ BQ g k h I0 I' fo' n' ∧ n ≤ n' ∧ (∀ j, j < n → fo' j = fo j) ∧ (e < 256 → 0 < g e → ∃ j, j < n' ∧ fo' j = e) := by
  unfold fX0_addCell
  by_cases hn : e < 256
  · rw [ifp hn]
    have hI3 : I 3 e = nI (g e) := by rw [q.2.2.2.2.2.2.1 3 (by omega) (by omega) (by omega) (by omega)]; exact hg e hn
    rw [ifn (nI_pos (by omega)), ifn (ng256 hn), ifn (ng256 hn), ifn (nI_pos (by omega)), ifp (show nI h < (128 : Int32) from (nI_ltI (a := h) (b := 128) (by omega) (by omega)).mpr hh), ckN hh (by omega), ckN hn (by omega), tnN (show e < 2 ^ 31 by omega), tnN (show h < 2 ^ 31 by omega), hI3]
    by_cases hge : 0 < g e
    · have hc := hce hn hge
      rw [ifn (nI_nle hge (by have := hb e hn; omega)), ckN hn (by omega)]
      by_cases hin : ∃ j, j < n ∧ fo j = e
      · obtain ⟨j, hj, hj2⟩ := hin
        have h19 := q.1 j hj
        rw [hj2] at h19
        rw [h19, ifp (nI_nneg (by omega))]
        exact ⟨I, fo, n, rfl, q, Nat.le_refl _, fun _ _ => rfl, fun _ _ => ⟨j, hj, hj2⟩⟩
      · have hno : ∀ j, j < n → fo j ≠ e := fun j hj z => hin ⟨j, hj, z⟩
        have h19 := q.2.1 e hn hno
        have hlb : lb g (-1) k e = -1 := by
          unfold lb
          rw [if_neg]
          rintro ⟨-, h2⟩
          rw [rtOf_eq hk hc] at h2
          omega
        have hn256 := q.lt hn hno
        rw [h19, hlb, ifn (show ¬ (0 : Int32) ≤ -1 by decide), q.2.2.2.2.2.1.1, ifn (nI_pos (by omega)), ifn (ng256 hn256), ckN hn (by omega), bd1, ckN hn256 (by omega), bd1, ckN hh (by omega), bd1, ckN hh (by omega), ckN hn (by omega), ckN hh (by omega), bd1, tnN (show n < 2 ^ 31 by omega), nI_1]
        refine ⟨addM g h I fo n e, fun j => if j = n then e else fo j, n + 1, ?_, q.push hn hge hc hno, by omega, fun j hj => if_neg (Nat.ne_of_lt hj), fun _ _ => ⟨n, by omega, if_pos rfl⟩⟩
        unfold addM
        rw [up2_n (show 16 ≠ 17 by omega), up2_n (show 16 ≠ 20 by omega), up2_n (show 16 ≠ 19 by omega), q.2.2.2.2.2.1.2, up2_n (show 3 ≠ 17 by omega), up2_n (show 3 ≠ 20 by omega), up2_n (show 3 ≠ 19 by omega), hI3, nI_add]
    · have h0 : g e = 0 := by omega
      rw [h0, ifp (show nI 0 ≤ (0 : Int32) by decide)]
      exact ⟨I, fo, n, rfl, q, Nat.le_refl _, fun _ _ => rfl, fun _ z => absurd z (by omega)⟩
  · rw [ifn hn, ifp m1_neg]
    exact ⟨I, fo, n, rfl, q, Nat.le_refl _, fun _ _ => rfl, fun z => absurd z hn⟩
theorem bfs_in (hb : ∀ c, c < 256 → g c < 2 ^ 20) (hg : ∀ c, c < 256 → I0 3 c = nI (g c)) (hk : isRt g k) (hh : h < 128) (ct : II → Option II) {i cell : Nat} (hi : i < 256) (hcell : cell < 256) (hcg : Conn g k cell) :
    ∀ (m d fuel : Nat) (I : II) (fo : Nat → Nat) (n : Nat), d + m = 4 → m < fuel → i < n → fo i = cell → BQ g k h I0 I fo n →
    ∃ (I' : II) (fo' : Nat → Nat) (n' : Nat), fX0_findHeap_L65 fuel ct 3 (nI h) (nI i) (nI d) I = ct I' ∧ BQ g k h I0 I' fo' n' ∧ n ≤ n' ∧ (∀ j, j < n → fo' j = fo j) ∧ ∀ d', d ≤ d' → d' < 4 → nbr cell d' < 256 → 0 < g (nbr cell d') → ∃ j, j < n' ∧ fo' j = nbr cell d' := by
  intro m
  induction m with
  | zero =>
    intro d fuel I fo n hd hf hin hfi q
    obtain ⟨f, rfl⟩ : ∃ f, fuel = f + 1 := ⟨fuel - 1, by omega⟩
    have hd4 : d = 4 := by omega
    subst hd4
    refine ⟨I, fo, n, ?_, q, Nat.le_refl _, fun _ _ => rfl, fun d' h1 h2 => absurd h2 (by omega)⟩
    rw [fX0_findHeap_L65, ifp (show (3 : Int32) < nI 4 by decide)]
  | succ m ih =>
    intro d fuel I fo n hd hf hin hfi q
    obtain ⟨f, rfl⟩ : ∃ f, fuel = f + 1 := ⟨fuel - 1, by omega⟩
    have hd4 : d < 4 := by omega
    have hl3 : ¬ (3 : Int32) < nI d := fun z => by
      have := (nI_ltI (a := 3) (b := d) (by omega) (by omega)).mp z
      omega
    rw [fX0_findHeap_L65, ifn hl3, ckN hi (by omega), tnN (show i < 2 ^ 31 by omega), q.2.2.1 i hin, hfi, neigh_sp hcell hd4, bd1]
    obtain ⟨I1, fo1, n1, e1, q1, l1, p1, c1⟩ := add_sp hb hg hk hh q (e := nbr cell d) (fun a b => hcg.tr (Conn.st hcell hd4 a b))
    rw [e1, bd1, nI_1]
    obtain ⟨I', fo', n', h1, h2, h3, h4, h5⟩ := ih (d + 1) f I1 fo1 n1 (by omega) (by omega) (by omega) (by rw [p1 i hin]; exact hfi) q1
    refine ⟨I', fo', n', h1, h2, by omega, fun j hj => by rw [h4 j (by omega), p1 j hj], fun d' a1 a2 a3 a4 => ?_⟩
    by_cases e : d' = d
    · subst e
      obtain ⟨j, hj, hj2⟩ := c1 a3 a4
      exact ⟨j, by omega, by rw [h4 j hj]; exact hj2⟩
    · exact h5 d' (by omega) a2 a3 a4
theorem bfs_out (hb : ∀ c, c < 256 → g c < 2 ^ 20) (hg : ∀ c, c < 256 → I0 3 c = nI (g c)) (hk : isRt g k) (hh : h < 128) (ct : II → Option II) :
    ∀ (m i fuel : Nat) (I : II) (fo : Nat → Nat) (n : Nat), i + m = 256 → m < fuel → i ≤ n → (∃ j, j < n ∧ fo j = k) → BQ g k h I0 I fo n → (∀ j d, j < i → d < 4 → nbr (fo j) d < 256 → 0 < g (nbr (fo j) d) → ∃ t, t < n ∧ fo t = nbr (fo j) d) →
    ∃ (I' : II), fX0_findHeap_L43 fuel ct 3 (nI h) (nI i) I = ct I' ∧ I' 16 h = nI (sme g (Conn g k) 256) ∧ I' 17 h = nI (cnt (Conn g k) 256) ∧ (∀ c, c < 256 → (Conn g k c → I' 19 c = nI h) ∧ (¬ Conn g k c → I' 19 c = lb g (-1) k c)) ∧ (∀ a, a ≠ 16 → a ≠ 17 → a ≠ 19 → a ≠ 20 → I' a = I0 a) ∧ (∀ j, j ≠ h → I' 16 j = I0 16 j ∧ I' 17 j = I0 17 j) := by
  have done : ∀ (i : Nat) (I : II) (fo : Nat → Nat) (n : Nat), n ≤ i → i ≤ n → (∃ j, j < n ∧ fo j = k) → BQ g k h I0 I fo n → (∀ j d, j < i → d < 4 → nbr (fo j) d < 256 → 0 < g (nbr (fo j) d) → ∃ t, t < n ∧ fo t = nbr (fo j) d) →
      I 16 h = nI (sme g (Conn g k) 256) ∧ I 17 h = nI (cnt (Conn g k) 256) ∧ (∀ c, c < 256 → (Conn g k c → I 19 c = nI h) ∧ (¬ Conn g k c → I 19 c = lb g (-1) k c)) ∧ (∀ a, a ≠ 16 → a ≠ 17 → a ≠ 19 → a ≠ 20 → I a = I0 a) ∧ (∀ j, j ≠ h → I 16 j = I0 16 j ∧ I 17 j = I0 17 j) := by
    intro i I fo n h1 h2 h0 q hcl
    have e : i = n := by omega
    subst e
    have hm : ∀ c, c < 256 → ((∃ j, j < i ∧ fo j = c) ↔ Conn g k c) := by
      intro c hc
      constructor
      · rintro ⟨j, hj, rfl⟩
        exact (q.2.2.2.1 j hj).2.2
      · intro hcc
        refine hcc (fun c => ∃ j, j < i ∧ fo j = c) h0 ?_
        rintro x d ⟨j, hj, rfl⟩ hx hd hn hg2
        exact hcl j d hj hd hn hg2
    obtain ⟨e1, e2⟩ := cnt_img (g := g) i fo (fun j hj => (q.2.2.2.1 j hj).1) q.2.2.2.2.1
    rw [cnt_congr hm] at e1
    rw [sme_congr hm] at e2
    refine ⟨by rw [e2]; exact q.2.2.2.2.2.1.2, by rw [e1]; exact q.2.2.2.2.2.1.1, fun c hc => ⟨fun hcc => ?_, fun hcc => ?_⟩, q.2.2.2.2.2.2⟩
    · obtain ⟨j, hj, rfl⟩ := (hm c hc).mpr hcc
      exact q.1 j hj
    · exact q.2.1 c hc (fun j hj z => hcc ((hm c hc).mp ⟨j, hj, z⟩))
  intro m
  induction m with
  | zero =>
    intro i fuel I fo n hi hf hin h0 q hcl
    obtain ⟨f, rfl⟩ : ∃ f, fuel = f + 1 := ⟨fuel - 1, by omega⟩
    have hn := q.le
    rw [fX0_findHeap_L43, ckN hh (by omega), tnN (show h < 2 ^ 31 by omega), q.2.2.2.2.2.1.1, ifp (nI_le (show n ≤ i by omega) (by omega))]
    exact ⟨I, rfl, done i I fo n (by omega) hin h0 q hcl⟩
  | succ m ih =>
    intro i fuel I fo n hi hf hin h0 q hcl
    obtain ⟨f, rfl⟩ : ∃ f, fuel = f + 1 := ⟨fuel - 1, by omega⟩
    have hn := q.le
    rw [fX0_findHeap_L43, ckN hh (by omega), tnN (show h < 2 ^ 31 by omega), q.2.2.2.2.2.1.1]
    by_cases hlt : n ≤ i
    · rw [ifp (nI_le hlt (by omega))]
      exact ⟨I, rfl, done i I fo n hlt hin h0 q hcl⟩
    · have hi2 : i < n := by omega
      have hfi := q.2.2.2.1 i hi2
      rw [ifn (nI_ge hi2 (by omega)), ifn (ng256 (show i < 256 by omega)), nI_1]
      obtain ⟨I', fo', n', h1, h2, h3, h4, h5⟩ := bfs_in hb hg hk hh (fun I17 => fX0_findHeap_L43 f ct 3 (nI h) (nI (i + 1)) I17) (i := i) (by omega) hfi.1 hfi.2.2 4 0 2000 I fo n (by omega) (by omega) hi2 rfl q
      rw [show (0 : Int32) = nI 0 from rfl, h1]
      refine ih (i + 1) f I' fo' n' (by omega) (by omega) (by omega) (h0.elim fun j z => ⟨j, by omega, by rw [h4 j z.1]; exact z.2⟩) h2 (fun j d hj hd hn2 hg2 => ?_)
      by_cases e : j = i
      · subst e
        rw [h4 j hi2] at hn2 hg2 ⊢
        exact h5 d (by omega) hd hn2 hg2
      · rw [h4 j (by omega)] at hn2 hg2 ⊢
        obtain ⟨t, ht, ht2⟩ := hcl j d (by omega) hd hn2 hg2
        exact ⟨t, by omega, by rw [h4 t ht]; exact ht2⟩
end BFS
theorem findHeap_sp {g : Nat → Nat} {k h : Nat} {I : II} (hb : ∀ c, c < 256 → g c < 2 ^ 20) (hg : ∀ c, c < 256 → I 3 c = nI (g c)) (hk : isRt g k) (hh : h < 128) (hl : ∀ c, c < 256 → I 19 c = lb g (-1) k c) :
    ∃ I', fX0_findHeap I 3 (nI k) (nI h) = some I' ∧ (∀ c, c < 256 → (Conn g k c → I' 19 c = nI h) ∧ (¬ Conn g k c → I' 19 c = lb g (-1) k c)) ∧ (∀ a, a ≠ 16 → a ≠ 17 → a ≠ 18 → a ≠ 19 → a ≠ 20 → I' a = I a) ∧ (∀ j, j ≠ h → I' 16 j = I 16 j ∧ I' 17 j = I 17 j ∧ I' 18 j = I 18 j) ∧ I' 16 h = nI (sme g (Conn g k) 256) ∧ I' 17 h = nI (cnt (Conn g k) 256) ∧ I' 18 h = nI k := by
  unfold fX0_findHeap
  have hk256 := hk.1.1
  rw [ifn (nI_pos (by omega)), ifp (show nI h < (128 : Int32) from (nI_ltI (a := h) (b := 128) (by omega) (by omega)).mpr hh), ckN hh (by omega), bd1, ckN hh (by omega), bd1, ckN hh (by omega), bd1, tnN (show h < 2 ^ 31 by omega)]
  generalize hI0 : up2 (up2 (up2 I 16 h 0) 17 h 0) 18 h (nI k) = I0
  have g0 : ∀ a, a ≠ 16 → a ≠ 17 → a ≠ 18 → I0 a = I a := fun a h1 h2 h3 => by rw [← hI0, up2_n h3, up2_n h2, up2_n h1]
  have q0 : BQ g k h I0 I0 (fun _ => k) 0 := by
    refine ⟨fun j hj => absurd hj (by omega), fun c hc _ => ?_, fun j hj => absurd hj (by omega), fun j hj => absurd hj (by omega), fun i j hi => absurd hi (by omega), ⟨?_, ?_⟩, fun a _ _ _ _ => rfl, fun j _ => ⟨rfl, rfl⟩⟩
    · rw [g0 19 (by omega) (by omega) (by omega)]
      exact hl c hc
    · rw [← hI0, up2_n (show 17 ≠ 18 by omega), up2_a]
      rfl
    · rw [← hI0, up2_n (show 16 ≠ 18 by omega), up2_n (show 16 ≠ 17 by omega), up2_a]
      rfl
  have hg0 : ∀ c, c < 256 → I0 3 c = nI (g c) := fun c hc => by
    rw [g0 3 (by omega) (by omega) (by omega)]
    exact hg c hc
  obtain ⟨I1, fo1, n1, e1, q1, -, -, c1⟩ := add_sp hb hg0 hk hh q0 (e := k) (fun _ _ => Conn.rf)
  rw [ifp hk256] at e1
  rw [e1, bd1]
  obtain ⟨I', h1, h2, h3, h4, h5, h6⟩ := bfs_out hb hg0 hk hh (fun I18 => some I18) 256 0 2000 I1 fo1 n1 (by omega) (by omega) (by omega) (c1 hk256 hk.1.2) q1 (fun j d hj => absurd hj (by omega))
  rw [show (0 : Int32) = nI 0 from rfl, h1]
  refine ⟨I', rfl, h4, fun a a1 a2 a3 a4 a5 => ?_, fun j hj => ⟨?_, ?_, ?_⟩, h2, h3, ?_⟩
  · rw [h5 a a1 a2 a4 a5, g0 a a1 a2 a3]
  · rw [(h6 j hj).1, ← hI0, up2_n (show 16 ≠ 18 by omega), up2_n (show 16 ≠ 17 by omega), up2_b hj]
  · rw [(h6 j hj).2, ← hI0, up2_n (show 17 ≠ 18 by omega), up2_b hj, up2_n (show 17 ≠ 16 by omega)]
  · rw [h5 18 (by omega) (by omega) (by omega) (by omega), ← hI0, up2_b hj, up2_n (show 18 ≠ 17 by omega), up2_n (show 18 ≠ 16 by omega)]
  · rw [h5 18 (by omega) (by omega) (by omega) (by omega), ← hI0, up2_a]
