/-! HEAPS, pure: g gives the chips of the 256 cells of a board of 16 by 16; a heap is a set of cells that hang together. -/
def nbr (c d : Nat) : Nat := if d = 0 then (if c < 16 then 256 else c - 16) else if d = 1 then (if c % 16 = 15 then 256 else c + 1) else if d = 2 then (if 240 ≤ c then 256 else c + 16) else (if c % 16 = 0 then 256 else c - 1)
theorem nbr_le {c d : Nat} (hc : c < 256) : nbr c d ≤ 256 := by
  unfold nbr
  repeat' split
  all_goals omega
theorem nbr_back {c d : Nat} (hc : c < 256) (hd : d < 4) (h : nbr c d < 256) : ∃ e, e < 4 ∧ nbr (nbr c d) e = c := by
  have hd4 : d = 0 ∨ d = 1 ∨ d = 2 ∨ d = 3 := by omega
  rcases hd4 with rfl | rfl | rfl | rfl
  · refine ⟨2, by omega, ?_⟩
    revert h
    simp only [nbr]
    simp only [if_true]
    by_cases h1 : c < 16
    · simp [h1]
    · simp only [h1, if_false, show ¬ (2 : Nat) = 0 by omega, show ¬ (2 : Nat) = 1 by omega, if_true]
      intro _
      rw [if_neg (by omega)]
      omega
  · refine ⟨3, by omega, ?_⟩
    revert h
    simp only [nbr]
    by_cases h1 : c % 16 = 15
    · simp [h1]
    · simp only [h1, if_false, show ¬ (1 : Nat) = 0 by omega, if_true, show ¬ (3 : Nat) = 0 by omega, show ¬ (3 : Nat) = 1 by omega, show ¬ (3 : Nat) = 2 by omega]
      intro _
      rw [if_neg (by omega)]
      omega
  · refine ⟨0, by omega, ?_⟩
    revert h
    simp only [nbr]
    by_cases h1 : 240 ≤ c
    · simp [h1]
    · simp only [h1, if_false, show ¬ (2 : Nat) = 0 by omega, show ¬ (2 : Nat) = 1 by omega, if_true]
      intro _
      rw [if_neg (by omega)]
      omega
  · refine ⟨1, by omega, ?_⟩
    revert h
    simp only [nbr]
    by_cases h1 : c % 16 = 0
    · simp [h1]
    · simp only [h1, if_false, show ¬ (1 : Nat) = 0 by omega, if_true, show ¬ (3 : Nat) = 0 by omega, show ¬ (3 : Nat) = 1 by omega, show ¬ (3 : Nat) = 2 by omega]
      intro _
      rw [if_neg (by omega)]
      omega
def Clo (g : Nat → Nat) (S : Nat → Prop) : Prop := ∀ x d, S x → x < 256 → d < 4 → nbr x d < 256 → 0 < g (nbr x d) → S (nbr x d)
def Conn (g : Nat → Nat) (a b : Nat) : Prop := ∀ S : Nat → Prop, S a → Clo g S → S b
theorem Conn.rf {g : Nat → Nat} {a : Nat} : Conn g a a := fun _ h _ => h
theorem Conn.tr {g : Nat → Nat} {a b c : Nat} (h1 : Conn g a b) (h2 : Conn g b c) : Conn g a c := fun S ha hS => h2 S (h1 S ha hS) hS
theorem Conn.st {g : Nat → Nat} {a d : Nat} (ha : a < 256) (hd : d < 4) (hn : nbr a d < 256) (hg : 0 < g (nbr a d)) : Conn g a (nbr a d) := fun _ h hS => hS a d h ha hd hn hg
theorem Conn.sym {g : Nat → Nat} {a b : Nat} (ha : a < 256) (hga : 0 < g a) (h : Conn g a b) : (b < 256 ∧ 0 < g b) ∧ Conn g b a := by
  refine h (fun b => (b < 256 ∧ 0 < g b) ∧ Conn g b a) ⟨⟨ha, hga⟩, Conn.rf⟩ ?_
  intro x d hx hx2 hd hn hg
  refine ⟨⟨hn, hg⟩, ?_⟩
  obtain ⟨e, he, hb⟩ := nbr_back hx2 hd hn
  have h1 : Conn g (nbr x d) (nbr (nbr x d) e) := Conn.st hn he (by rw [hb]; exact hx2) (by rw [hb]; exact hx.1.2)
  rw [hb] at h1
  exact h1.tr hx.2
theorem Conn.congr {g g' : Nat → Nat} (h : ∀ c, c < 256 → (0 < g c ↔ 0 < g' c)) {a b : Nat} : Conn g a b ↔ Conn g' a b := by
  have key : ∀ {g g' : Nat → Nat}, (∀ c, c < 256 → (0 < g c ↔ 0 < g' c)) → Conn g a b → Conn g' a b := fun h hc S ha hS => hc S ha (fun x d hx hx2 hd hn hg => hS x d hx hx2 hd hn ((h _ hn).mp hg))
  exact ⟨key h, key (fun c hc => (h c hc).symm)⟩
def isRt (g : Nat → Nat) (x : Nat) : Prop := (x < 256 ∧ 0 < g x) ∧ ∀ y, y < 256 → 0 < g y → Conn g y x → x ≤ y
theorem rt_ex {g : Nat → Nat} {c : Nat} (hc : c < 256) (hg : 0 < g c) : ∃ x, isRt g x ∧ Conn g x c := by
  obtain ⟨x, ⟨h1, h2, h3⟩, hl⟩ := pk_least (fun y => y < 256 ∧ 0 < g y ∧ Conn g y c) ⟨c, hc, hg, Conn.rf⟩
  refine ⟨x, ⟨⟨h1, h2⟩, fun y hy hgy hyx => ?_⟩, h3⟩
  rcases Nat.lt_or_ge y x with h | h
  · exact absurd ⟨hy, hgy, hyx.tr h3⟩ (hl y h)
  · exact h
theorem rt_un {g : Nat → Nat} {x y c : Nat} (hx : isRt g x) (hy : isRt g y) (h1 : Conn g x c) (h2 : Conn g y c) : x = y := by
  have e1 := (Conn.sym hx.1.1 hx.1.2 h1).2
  have e2 := (Conn.sym hy.1.1 hy.1.2 h2).2
  exact Nat.le_antisymm (hx.2 y hy.1.1 hy.1.2 (h2.tr e1)) (hy.2 x hx.1.1 hx.1.2 (h1.tr e2))
/-! counting -/
noncomputable def dd (p : Prop) : Nat := @ite Nat p (Classical.propDecidable p) 1 0
theorem dd_t {p : Prop} (h : p) : dd p = 1 := if_pos h
theorem dd_f {p : Prop} (h : ¬ p) : dd p = 0 := if_neg h
theorem dd_c {p q : Prop} (h : p ↔ q) : dd p = dd q := by
  by_cases hp : p
  · rw [dd_t hp, dd_t (h.mp hp)]
  · rw [dd_f hp, dd_f (fun z => hp (h.mpr z))]
theorem dd_le (p : Prop) : dd p ≤ 1 := by
  by_cases hp : p
  · rw [dd_t hp]; omega
  · rw [dd_f hp]; omega
def sm (f : Nat → Nat) : Nat → Nat
  | 0 => 0
  | n + 1 => sm f n + f n
theorem sm_congr {f f' : Nat → Nat} : ∀ (n : Nat), (∀ i, i < n → f i = f' i) → sm f n = sm f' n
  | 0, _ => rfl
  | n + 1, h => by
    show sm f n + f n = sm f' n + f' n
    rw [sm_congr n (fun i hi => h i (Nat.lt_succ_of_lt hi)), h n (Nat.lt_succ_self n)]
theorem sm_add1 {f f' : Nat → Nat} {c v : Nat} : ∀ (n : Nat), c < n → (∀ i, i < n → i ≠ c → f' i = f i) → f' c = f c + v → sm f' n = sm f n + v
  | 0, h, _, _ => absurd h (by omega)
  | n + 1, h, ho, hc => by
    show sm f' n + f' n = sm f n + f n + v
    by_cases e : c = n
    · subst e
      rw [sm_congr c (fun i hi => ho i (Nat.lt_succ_of_lt hi) (Nat.ne_of_lt hi)), hc]
      omega
    · rw [sm_add1 n (by omega) (fun i hi hne => ho i (Nat.lt_succ_of_lt hi) hne) hc, ho n (Nat.lt_succ_self n) (fun q => e q.symm)]
      omega
theorem sm_mono {f f' : Nat → Nat} : ∀ (n : Nat), (∀ i, i < n → f i ≤ f' i) → sm f n ≤ sm f' n
  | 0, _ => Nat.le_refl _
  | n + 1, h => Nat.add_le_add (sm_mono n (fun i hi => h i (Nat.lt_succ_of_lt hi))) (h n (Nat.lt_succ_self n))
theorem sm_one : ∀ (n : Nat), sm (fun _ => 1) n = n
  | 0 => rfl
  | n + 1 => by
    show sm (fun _ => 1) n + 1 = n + 1
    rw [sm_one n]
theorem sm_zero : ∀ (n : Nat), sm (fun _ => 0) n = 0
  | 0 => rfl
  | n + 1 => by
    show sm (fun _ => 0) n + 0 = 0
    rw [sm_zero n]
theorem sm_le_of {f : Nat → Nat} {m n : Nat} (h : m ≤ n) : sm f m ≤ sm f n := by
  induction n with
  | zero =>
    have : m = 0 := by omega
    subst this
    exact Nat.le_refl _
  | succ n ih =>
    by_cases e : m = n + 1
    · subst e; exact Nat.le_refl _
    · exact Nat.le_trans (ih (by omega)) (Nat.le_add_right _ _)
noncomputable def cnt (p : Nat → Prop) (n : Nat) : Nat := sm (fun i => dd (p i)) n
theorem cnt_congr {p q : Nat → Prop} {n : Nat} (h : ∀ i, i < n → (p i ↔ q i)) : cnt p n = cnt q n := sm_congr n (fun i hi => dd_c (h i hi))
theorem cnt_le (p : Nat → Prop) (n : Nat) : cnt p n ≤ n := by
  have h := sm_mono (f := fun i => dd (p i)) (f' := fun _ => 1) n (fun i _ => dd_le _)
  rw [sm_one] at h
  exact h
theorem cnt_lt {p : Nat → Prop} {n c : Nat} (hc : c < n) (h : ¬ p c) : cnt p n < n := by
  have h1 := sm_add1 (f := fun i => dd (p i)) (f' := fun i => dd (p i ∨ i = c)) (c := c) (v := 1) n hc (fun i _ hi => dd_c ⟨fun z => z.resolve_right hi, Or.inl⟩) (by rw [dd_t (Or.inr rfl), dd_f h])
  have h2 := cnt_le (fun i => p i ∨ i = c) n
  unfold cnt at h2 ⊢
  dsimp only at h2
  omega
theorem cnt_ins {p : Nat → Prop} {n c : Nat} (hc : c < n) (h : ¬ p c) : cnt (fun i => p i ∨ i = c) n = cnt p n + 1 :=
  sm_add1 (f := fun i => dd (p i)) (f' := fun i => dd (p i ∨ i = c)) (c := c) (v := 1) n hc (fun i _ hi => dd_c ⟨fun z => z.resolve_right hi, Or.inl⟩) (by rw [dd_t (Or.inr rfl), dd_f h])
theorem cnt_mono {p q : Nat → Prop} {n : Nat} (h : ∀ i, i < n → p i → q i) : cnt p n ≤ cnt q n := by
  refine sm_mono n (fun i hi => ?_)
  by_cases hp : p i
  · rw [dd_t hp, dd_t (h i hi hp)]; omega
  · rw [dd_f hp]; omega
noncomputable def sme (g : Nat → Nat) (p : Nat → Prop) (n : Nat) : Nat := sm (fun i => dd (p i) * g i) n
theorem sme_congr {g : Nat → Nat} {p q : Nat → Prop} {n : Nat} (h : ∀ i, i < n → (p i ↔ q i)) : sme g p n = sme g q n := sm_congr n (fun i hi => by rw [dd_c (h i hi)])
theorem sme_ins {g : Nat → Nat} {p : Nat → Prop} {n c : Nat} (hc : c < n) (h : ¬ p c) : sme g (fun i => p i ∨ i = c) n = sme g p n + g c :=
  sm_add1 (f := fun i => dd (p i) * g i) (f' := fun i => dd (p i ∨ i = c) * g i) (c := c) (v := g c) n hc (fun i _ hi => by rw [dd_c (p := p i ∨ i = c) (q := p i) ⟨fun z => z.resolve_right hi, Or.inl⟩]) (by rw [dd_t (Or.inr rfl), dd_f h]; omega)
theorem sme_none {g : Nat → Nat} {p : Nat → Prop} {n : Nat} (h : ∀ i, i < n → ¬ p i) : sme g p n = 0 := by
  unfold sme
  rw [sm_congr (f' := fun _ => 0) n (fun i hi => by rw [dd_f (h i hi)]; omega)]
  exact sm_zero n
theorem cnt_none {p : Nat → Prop} {n : Nat} (h : ∀ i, i < n → ¬ p i) : cnt p n = 0 := by
  unfold cnt
  rw [sm_congr (f' := fun _ => 0) n (fun i hi => dd_f (h i hi))]
  exact sm_zero n
noncomputable def mxe (g : Nat → Nat) (p : Nat → Prop) : Nat → Nat
  | 0 => 0
  | n + 1 => Nat.max (mxe g p n) (dd (p n) * g n)
theorem mxe_le {g : Nat → Nat} {p : Nat → Prop} {v : Nat} : ∀ (n : Nat), mxe g p n ≤ v ↔ ∀ i, i < n → p i → g i ≤ v
  | 0 => by
    constructor
    · intro _ i hi
      exact absurd hi (by omega)
    · intro _
      exact Nat.zero_le _
  | n + 1 => by
    show Nat.max (mxe g p n) (dd (p n) * g n) ≤ v ↔ _
    rw [show Nat.max (mxe g p n) (dd (p n) * g n) = max (mxe g p n) (dd (p n) * g n) from rfl, Nat.max_le, mxe_le n]
    constructor
    · rintro ⟨h1, h2⟩ i hi hp
      by_cases e : i = n
      · subst e
        rw [dd_t hp, Nat.one_mul] at h2
        exact h2
      · exact h1 i (by omega) hp
    · intro h
      refine ⟨fun i hi hp => h i (by omega) hp, ?_⟩
      by_cases hp : p n
      · rw [dd_t hp, Nat.one_mul]
        exact h n (by omega) hp
      · rw [dd_f hp, Nat.zero_mul]
        exact Nat.zero_le _
theorem mxe_ext {g : Nat → Nat} {p : Nat → Prop} {n a : Nat} (h1 : ∀ i, i < n → p i → g i ≤ a) (h2 : a = 0 ∨ ∃ i, i < n ∧ p i ∧ g i = a) : mxe g p n = a := by
  refine Nat.le_antisymm ((mxe_le n).mpr h1) ?_
  rcases h2 with rfl | ⟨i, hi, hp, rfl⟩
  · exact Nat.zero_le _
  · exact (mxe_le n).mp (Nat.le_refl _) i hi hp
/-! the heaps of g by numbers -/
noncomputable def rk (g : Nat → Nat) (x : Nat) : Nat := cnt (isRt g) x
noncomputable def mF (g : Nat → Nat) : Nat := rk g 256
theorem rk_succ {g : Nat → Nat} {x : Nat} : rk g (x + 1) = rk g x + dd (isRt g x) := rfl
theorem rk_mono {g : Nat → Nat} {x y : Nat} (h : x ≤ y) : rk g x ≤ rk g y := sm_le_of h
theorem rk_lt {g : Nat → Nat} {x y : Nat} (hx : isRt g x) (h : x < y) : rk g x < rk g y := by
  have h1 := rk_mono (g := g) (show x + 1 ≤ y from h)
  rw [rk_succ, dd_t hx] at h1
  omega
theorem rk_inj {g : Nat → Nat} {x y : Nat} (hx : isRt g x) (hy : isRt g y) (h : rk g x = rk g y) : x = y := by
  rcases Nat.lt_trichotomy x y with q | q | q
  · have := rk_lt hx q; omega
  · exact q
  · have := rk_lt hy q; omega
theorem rk_ex {g : Nat → Nat} {h : Nat} : ∀ (n : Nat), h < rk g n → ∃ x, x < n ∧ isRt g x ∧ rk g x = h
  | 0, hh => absurd hh (by unfold rk cnt sm; omega)
  | n + 1, hh => by
    rw [rk_succ] at hh
    by_cases e : h < rk g n
    · obtain ⟨x, h1, h2⟩ := rk_ex n e
      exact ⟨x, by omega, h2⟩
    · by_cases hr : isRt g n
      · rw [dd_t hr] at hh
        exact ⟨n, by omega, hr, by omega⟩
      · rw [dd_f hr] at hh
        omega
theorem rt_pair {g : Nat → Nat} {i : Nat} (h1 : isRt g (2 * i)) (h2 : isRt g (2 * i + 1)) : False := by
  have hn : nbr (2 * i) 1 = 2 * i + 1 := by
    unfold nbr
    rw [if_neg (by omega), if_pos rfl, if_neg (by omega)]
  have hc : Conn g (2 * i) (nbr (2 * i) 1) := Conn.st h1.1.1 (by omega) (by rw [hn]; exact h2.1.1) (by rw [hn]; exact h2.1.2)
  rw [hn] at hc
  have := h2.2 (2 * i) h1.1.1 h1.1.2 hc
  omega
theorem rk_half {g : Nat → Nat} : ∀ n, rk g (2 * n) ≤ n
  | 0 => Nat.le_refl _
  | n + 1 => by
    have e : 2 * (n + 1) = 2 * n + 1 + 1 := by omega
    rw [e, rk_succ, rk_succ]
    have ih := rk_half (g := g) n
    by_cases h1 : isRt g (2 * n)
    · by_cases h2 : isRt g (2 * n + 1)
      · exact (rt_pair h1 h2).elim
      · rw [dd_t h1, dd_f h2]; omega
    · have := dd_le (isRt g (2 * n + 1))
      rw [dd_f h1]; omega
theorem mF_le (g : Nat → Nat) : mF g ≤ 128 := rk_half 128
noncomputable def rtOf (g : Nat → Nat) (c : Nat) : Nat := @dite Nat (∃ x, isRt g x ∧ Conn g x c) (Classical.propDecidable _) (fun h => h.choose) (fun _ => 0)
theorem rtOf_sp {g : Nat → Nat} {c : Nat} (hc : c < 256) (hg : 0 < g c) : isRt g (rtOf g c) ∧ Conn g (rtOf g c) c := by
  unfold rtOf
  rw [dif_pos (rt_ex hc hg)]
  exact (rt_ex hc hg).choose_spec
theorem rtOf_eq {g : Nat → Nat} {x c : Nat} (hx : isRt g x) (h : Conn g x c) : rtOf g c = x := by
  have hc := (Conn.sym hx.1.1 hx.1.2 h).1
  have := rtOf_sp hc.1 hc.2
  exact rt_un this.1 hx this.2 h
noncomputable def labF (g : Nat → Nat) (c : Nat) : Nat := rk g (rtOf g c)
theorem labF_lt {g : Nat → Nat} {c : Nat} (hc : c < 256) (hg : 0 < g c) : labF g c < mF g := rk_lt (rtOf_sp hc hg).1 (rtOf_sp hc hg).1.1.1
noncomputable def rtAt (g : Nat → Nat) (h : Nat) : Nat := @dite Nat (∃ x, isRt g x ∧ rk g x = h) (Classical.propDecidable _) (fun h => h.choose) (fun _ => 0)
theorem rtAt_eq {g : Nat → Nat} {x : Nat} (hx : isRt g x) : rtAt g (rk g x) = x := by
  have hex : ∃ y, isRt g y ∧ rk g y = rk g x := ⟨x, hx, rfl⟩
  unfold rtAt
  rw [dif_pos hex]
  exact rk_inj hex.choose_spec.1 hx hex.choose_spec.2
noncomputable def szF (g : Nat → Nat) (h : Nat) : Nat := sme g (Conn g (rtAt g h)) 256
noncomputable def cnF (g : Nat → Nat) (h : Nat) : Nat := cnt (Conn g (rtAt g h)) 256
noncomputable def moF (g : Nat → Nat) (h : Nat) : Nat := mxe g (Conn g (rtAt g h)) 256
theorem rt_congr {g g' : Nat → Nat} (h : ∀ c, c < 256 → (0 < g c ↔ 0 < g' c)) {x : Nat} : isRt g x ↔ isRt g' x := by
  have key : ∀ {g g' : Nat → Nat}, (∀ c, c < 256 → (0 < g c ↔ 0 < g' c)) → isRt g x → isRt g' x := fun h hr => ⟨⟨hr.1.1, (h x hr.1.1).mp hr.1.2⟩, fun y hy hg hc => hr.2 y hy ((h y hy).mpr hg) ((Conn.congr h).mpr hc)⟩
  exact ⟨key h, key (fun c hc => (h c hc).symm)⟩
theorem rk_congr {g g' : Nat → Nat} (h : ∀ c, c < 256 → (0 < g c ↔ 0 < g' c)) (x : Nat) : rk g x = rk g' x := cnt_congr (fun _ _ => rt_congr h)
theorem mF_congr {g g' : Nat → Nat} (h : ∀ c, c < 256 → (0 < g c ↔ 0 < g' c)) : mF g = mF g' := rk_congr h 256
theorem rtOf_congr {g g' : Nat → Nat} (h : ∀ c, c < 256 → (0 < g c ↔ 0 < g' c)) {c : Nat} (hc : c < 256) (hg : 0 < g c) : rtOf g c = rtOf g' c := by
  have h1 := rtOf_sp hc hg
  exact (rtOf_eq ((rt_congr h).mp h1.1) ((Conn.congr h).mp h1.2)).symm
theorem labF_congr {g g' : Nat → Nat} (h : ∀ c, c < 256 → (0 < g c ↔ 0 < g' c)) {c : Nat} (hc : c < 256) (hg : 0 < g c) : labF g c = labF g' c := by
  unfold labF
  rw [rtOf_congr h hc hg, rk_congr h]
theorem rtAt_congr {g g' : Nat → Nat} (h : ∀ c, c < 256 → (0 < g c ↔ 0 < g' c)) {k : Nat} (hk : k < mF g) : rtAt g k = rtAt g' k := by
  obtain ⟨x, -, hx, rfl⟩ := rk_ex 256 hk
  rw [rtAt_eq hx, rk_congr h, rtAt_eq ((rt_congr h).mp hx)]
theorem cnF_congr {g g' : Nat → Nat} (h : ∀ c, c < 256 → (0 < g c ↔ 0 < g' c)) {k : Nat} (hk : k < mF g) : cnF g k = cnF g' k := by
  unfold cnF
  rw [rtAt_congr h hk]
  exact cnt_congr (fun _ _ => Conn.congr h)
theorem sz_change {g g' : Nat → Nat} (h : ∀ c, c < 256 → (0 < g c ↔ 0 < g' c)) {k c : Nat} (hk : k < mF g) (hc : c < 256) (hg : 0 < g c) (ho : ∀ i, i < 256 → i ≠ c → g' i = g i) : szF g' k + (if labF g c = k then g c else 0) = szF g k + (if labF g c = k then g' c else 0) := by
  obtain ⟨x, -, hx, rfl⟩ := rk_ex 256 hk
  have e1 : rtAt g (rk g x) = x := rtAt_eq hx
  have e2 : rtAt g' (rk g x) = x := by rw [← rtAt_congr h hk, e1]
  unfold szF
  rw [e1, e2]
  have hs : sme g' (Conn g' x) 256 = sme g' (Conn g x) 256 := sme_congr (fun _ _ => (Conn.congr h).symm)
  rw [hs]
  have hl := rtOf_sp hc hg
  by_cases hm : Conn g x c
  · have hlab : labF g c = rk g x := by unfold labF; rw [rtOf_eq hx hm]
    rw [if_pos hlab, if_pos hlab]
    -- take the cell out of both sums
    have t1 := sme_ins (g := g) (p := fun i => Conn g x i ∧ i ≠ c) (n := 256) (c := c) hc (fun z => z.2 rfl)
    have t2 := sme_ins (g := g') (p := fun i => Conn g x i ∧ i ≠ c) (n := 256) (c := c) hc (fun z => z.2 rfl)
    have q : ∀ i, i < 256 → (((Conn g x i ∧ i ≠ c) ∨ i = c) ↔ Conn g x i) := fun i _ => ⟨fun z => z.elim (fun a => a.1) (fun a => by rw [a]; exact hm), fun z => by
      by_cases e : i = c
      · exact Or.inr e
      · exact Or.inl ⟨z, e⟩⟩
    rw [sme_congr q] at t1 t2
    have t3 : sme g' (fun i => Conn g x i ∧ i ≠ c) 256 = sme g (fun i => Conn g x i ∧ i ≠ c) 256 := by
      refine sm_congr 256 (fun i hi => ?_)
      by_cases e : i = c
      · rw [dd_f (fun z => z.2 e)]; omega
      · rw [ho i hi e]
    omega
  · have hlab : ¬ labF g c = rk g x := fun e => hm (by
      have := rk_inj hl.1 hx e
      rw [← this]
      exact hl.2)
    rw [if_neg hlab, if_neg hlab]
    have t3 : sme g' (Conn g x) 256 = sme g (Conn g x) 256 := by
      refine sm_congr 256 (fun i hi => ?_)
      by_cases e : i = c
      · subst e
        rw [dd_f hm]; omega
      · rw [ho i hi e]
    omega
