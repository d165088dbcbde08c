/-! THE CORE: a flat memory of named objects (name k stands at address s0 + k), one judgement G over it, one row an instruction. -/
abbrev II := Nat → Nat → Int32
abbrev PP := Nat → Nat → Option Nat
abbrev LL := Nat → Nat ⊕ (Nat × Nat)
abbrev AV := Int32 ⊕ Option Nat
def up2 (I : II) (a k : Nat) (v : Int32) : II := fun x => if x = a then (fun y => if y = k then v else I a y) else I x
def upP (P : PP) (a k : Nat) (v : Option Nat) : PP := fun x => if x = a then (fun y => if y = k then v else P a y) else P x
def cp2 (I : II) (a b n : Nat) : II := fun x => if x = b then (fun y => if y < n then I a y else I b y) else I x
def fl2 (I : II) (a n : Nat) (v : Int32) : II := fun x => if x = a then (fun y => if y < n then v else I a y) else I x
theorem up2_s {I : II} {a k : Nat} {v : Int32} : up2 I a k v a = upd (I a) k v := by
  funext y
  simp [up2, upd]
theorem up2_n {I : II} {a k b : Nat} {v : Int32} (h : b ≠ a) : up2 I a k v b = I b := by simp [up2, h]
def rv (s0 : Nat) (o : Option Nat) : Value := va_rf (o.map fun k => s0 + k)
def cv (s0 : Nat) (a : AV) : Value := match a with
  | .inl x => .int x
  | .inr o => rv s0 o
theorem cv_cat (s0 : Nat) (a : AV) : (cv s0 a).category = 1 := by
  cases a with
  | inl x => rfl
  | inr o => cases o <;> rfl
theorem cv_sum (s0 : Nat) (st : List AV) : ((st.map (cv s0)).map fun v => v.category).sum = st.length := by
  induction st with
  | nil => rfl
  | cons a l ih => simp only [List.map_cons, List.sum_cons, List.length_cons, cv_cat, ih]; omega
def RF (ci : Nat) : String := match ci with
  | 0 => RX0 | 1 => RX1 | 2 => RX2 | 3 => RX3 | 4 => RX4 | 5 => RX5 | 6 => RX6 | 7 => RX7 | _ => RX8
def TF (ci : Nat) : u_T := match ci with
  | 0 => TX0 | 1 => TX1 | 2 => TX2 | 3 => TX3 | 4 => TX4 | 5 => TX5 | 6 => TX6 | 7 => TX7 | _ => TX8
def tyF (ci : Nat) : Nat → FieldType := match ci with
  | 0 => tyX0 | 1 => tyX1 | 2 => tyX2 | 3 => tyX3 | 4 => tyX4 | 5 => tyX5 | 6 => tyX6 | 7 => tyX7 | _ => tyX8
def nF (ci : Nat) : Nat := match ci with
  | 0 => 7 | 1 => 2 | 2 => 6 | 3 => 2 | 4 => 8 | 5 => 4 | 6 => 9 | 7 => 2 | _ => 5
def tg : List Cond := lw_tbl.filter goodWord
theorem tg_in {w : Cond} (k : Nat) (h : lw_tbl[k]? = some w) (hg : goodWord w = true) : w ∈ tg := List.mem_filter.mpr ⟨List.mem_of_getElem? h, hg⟩
theorem tg_good {w : Cond} (h : w ∈ tg) : (w.onTables && w.keeps) = true ∨ ∃ ty, w = .arrayClass ty := good_of_word (List.mem_filter.mp h).2
set_option maxRecDepth 100000 in
theorem ws_all : ([0, 1, 2, 3, 4, 5, 6, 7, 8] : List Nat).all (fun ci => (u_ws (RF ci) (TF ci) (nF ci)).all (fun w => decide (w ∈ lw_tbl) && goodWord w)) = true := by decide +kernel
theorem ci_mem {ci : Nat} (h : ci < 9) : ci ∈ ([0, 1, 2, 3, 4, 5, 6, 7, 8] : List Nat) := by
  simp only [List.mem_cons, List.not_mem_nil, or_false]
  omega
theorem ws_in {ci : Nat} (h : ci < 9) : ∀ w ∈ u_ws (RF ci) (TF ci) (nF ci), w ∈ tg := by
  intro w hw
  have h1 := List.all_eq_true.mp ws_all ci (ci_mem h)
  have h2 := List.all_eq_true.mp h1 w hw
  simp only [Bool.and_eq_true, decide_eq_true_eq] at h2
  exact List.mem_filter.mpr h2
theorem cl_at {ci : Nat} (h : ci < 9) : vwCl[ci]? = some (RF ci, TF ci, nF ci) := by
  match ci, h with
  | 0, _ => rfl
  | 1, _ => rfl
  | 2, _ => rfl
  | 3, _ => rfl
  | 4, _ => rfl
  | 5, _ => rfl
  | 6, _ => rfl
  | 7, _ => rfl
  | 8, _ => rfl
  | n + 9, h => exact absurd h (by omega)
theorem ty_ok {ci : Nat} (h : ci < 9) : ∀ k, k < nF ci → parseFieldDescriptor (TF ci k).2.2.1 = some (tyF ci k) := by
  match ci, h with
  | 0, _ => exact tyX0_ok
  | 1, _ => exact tyX1_ok
  | 2, _ => exact tyX2_ok
  | 3, _ => exact tyX3_ok
  | 4, _ => exact tyX4_ok
  | 5, _ => exact tyX5_ok
  | 6, _ => exact tyX6_ok
  | 7, _ => exact tyX7_ok
  | 8, _ => exact tyX8_ok
  | n + 9, h => exact absurd h (by omega)
theorem nm_ok {ci : Nat} (h : ci < 9) : ∀ a, a < nF ci → ∀ b, b < nF ci → a ≠ b → (TF ci a).2.1 ≠ (TF ci b).2.1 := by
  match ci, h with
  | 0, _ => exact nmX0
  | 1, _ => exact nmX1
  | 2, _ => exact nmX2
  | 3, _ => exact nmX3
  | 4, _ => exact nmX4
  | 5, _ => exact nmX5
  | 6, _ => exact nmX6
  | 7, _ => exact nmX7
  | 8, _ => exact nmX8
  | n + 9, h => exact absurd h (by omega)
def isR (ci k : Nat) : Bool := match tyF ci k with
  | .object _ => true
  | .array _ => true
  | _ => false
def fV (s0 : Nat) (I : II) (P : PP) (ci a k : Nat) : Value := if isR ci k = true then rv s0 (P a k) else .int (I a k)
def cE (s0 : Nat) (DA : Nat → ClassId) (Ly : LL) (I : II) (P : PP) (k : Nat) : va_E := match Ly k with
  | .inl ci => .inr (ci, (List.range (nF ci)).map (fV s0 I P ci k))
  | .inr q => .inl (DA q.1, (q.2, if q.1 < 3 then .inl (I k) else .inr (.inr (.inr (.inr (fun j => (P k j).map fun x => s0 + x))))))
def wd (s0 : Nat) (DA : Nat → ClassId) (Ly : LL) (I : II) (P : PP) (n : Nat) : va_W := (List.range n).map fun k => (s0 + k, cE s0 DA Ly I P k)
def tysA (DA : Nat → ClassId) : List (ClassId × FieldType) := [(DA 0, .int), (DA 1, .char), (DA 2, .int), (DA 3, .object RX6), (DA 4, .object RX4), (DA 5, .object RX3)]
theorem wd_get {s0 : Nat} {DA : Nat → ClassId} {Ly : LL} {I : II} {P : PP} {n k : Nat} (h : k < n) : (wd s0 DA Ly I P n)[k]? = some (s0 + k, cE s0 DA Ly I P k) := by
  simp [wd, h]
theorem wd_inv {s0 : Nat} {DA : Nat → ClassId} {Ly : LL} {I : II} {P : PP} {n k : Nat} {q : Nat × va_E} (h : (wd s0 DA Ly I P n)[k]? = some q) : k < n ∧ q = (s0 + k, cE s0 DA Ly I P k) := by
  have hl := (List.getElem?_eq_some_iff.mp h).1
  have hk : k < n := by simpa [wd] using hl
  rw [wd_get hk] at h
  exact ⟨hk, (Option.some.inj h).symm⟩
theorem wd_D {s0 : Nat} {DA : Nat → ClassId} {Ly : LL} {I : II} {P : PP} {n : Nat} : va_D (fun q => s0 ≤ q) (wd s0 DA Ly I P n) := by
  refine ⟨fun i j p q hi hj he => ?_, fun k q hk => ?_⟩
  · obtain ⟨-, rfl⟩ := wd_inv hi
    obtain ⟨-, rfl⟩ := wd_inv hj
    have h1 : s0 + i = s0 + j := he
    omega
  · obtain ⟨-, rfl⟩ := wd_inv hk
    show s0 ≤ s0 + k
    omega
theorem cE_congr {s0 : Nat} {DA : Nat → ClassId} {Ly : LL} {I I' : II} {P P' : PP} {k : Nat} (h1 : I' k = I k) (h2 : P' k = P k) : cE s0 DA Ly I' P' k = cE s0 DA Ly I P k := by
  unfold cE fV
  rw [h1, h2]
theorem wd_set {s0 : Nat} {DA : Nat → ClassId} {Ly : LL} {I I' : II} {P P' : PP} {n k : Nat} {e : va_E} (h : k < n) (he : e = cE s0 DA Ly I' P' k) (hI : ∀ j, j ≠ k → I' j = I j) (hP : ∀ j, j ≠ k → P' j = P j) : (wd s0 DA Ly I P n).set k (s0 + k, e) = wd s0 DA Ly I' P' n := by
  subst he
  apply List.ext_getElem?
  intro j
  by_cases hj : j < n
  · rw [wd_get hj]
    by_cases hjk : j = k
    · subst hjk
      rw [List.getElem?_set_self (by simpa [wd] using hj)]
    · rw [List.getElem?_set_ne (fun q => hjk q.symm), wd_get hj, cE_congr (hI j hjk) (hP j hjk)]
  · rw [List.getElem?_eq_none (by simpa [wd] using hj), List.getElem?_eq_none (by simpa [wd] using hj)]
theorem cE_o {s0 : Nat} {DA : Nat → ClassId} {Ly : LL} {I : II} {P : PP} {k ci : Nat} (h : Ly k = .inl ci) : cE s0 DA Ly I P k = .inr (ci, (List.range (nF ci)).map (fV s0 I P ci k)) := by
  unfold cE
  rw [h]
theorem cE_i {s0 : Nat} {DA : Nat → ClassId} {Ly : LL} {I : II} {P : PP} {k t len : Nat} (h : Ly k = .inr (t, len)) (ht : t < 3) : cE s0 DA Ly I P k = .inl (DA t, (len, .inl (I k))) := by
  unfold cE
  rw [h]
  simp [ht]
theorem cE_q {s0 : Nat} {DA : Nat → ClassId} {Ly : LL} {I : II} {P : PP} {k t len : Nat} (h : Ly k = .inr (t, len)) (ht : ¬ t < 3) : cE s0 DA Ly I P k = .inl (DA t, (len, .inr (.inr (.inr (.inr (fun j => (P k j).map fun x => s0 + x)))))) := by
  unfold cE
  rw [h]
  simp [ht]
/-- the nest mates' words and those of arrays over own kinds of object, which go from state to state beside the tables -/
def Nst (U : State) : Prop := (va_Nw (.methodLinkNest RX8 9 yX7_init RX8) U ∧ va_Nw (.methodLinkNest RX4 33 yX5_init RX8) U ∧ va_Nw (.methodLinkNest RX4 44 yX6_init RX8) U ∧ va_Nw (.methodLinkNest RX7 20 yX0_init RX8) U ∧ va_Nw (.methodLinkNest RX8 25 yX2_init RX8) U ∧ va_Nw (.methodLinkNest RX8 36 yX3_init RX8) U ∧ va_Nw (.methodLinkNest RX2 48 yX8_isBetween RX8) U) ∧ va_AO RX6 U ∧ va_AO RX4 U ∧ va_AO RX3 U
theorem Nst.warm {s U : State} (hW : s.WarmedH U.vm) (h : Nst s) : Nst U := by
  obtain ⟨⟨h1, h2, h3, h4, h5, h6, h7⟩, a1, a2, a3⟩ := h
  exact ⟨⟨h1.warmM hW, h2.warmM hW, h3.warmM hW, h4.warmM hW, h5.warmM hW, h6.warmM hW, h7.warmM hW⟩, a1.moved hW.alike, a2.moved hW.alike, a3.moved hW.alike⟩
theorem Nst.same {u U : State} (hv : u.vm = U.vm) (h : Nst u) : Nst U := by
  obtain ⟨⟨h1, h2, h3, h4, h5, h6, h7⟩, a1, a2, a3⟩ := h
  have hA : u.vm.Alike U.vm := by rw [hv]; exact Vm.Alike.refl U.vm
  exact ⟨⟨h1.same rfl hv, h2.same rfl hv, h3.same rfl hv, h4.same rfl hv, h5.same rfl hv, h6.same rfl hv, h7.same rfl hv⟩, a1.moved hA, a2.moved hA, a3.moved hA⟩
/-- the memory stands in a state -/
def Rl (s0 : Nat) (D : va_G) (DA : Nat → ClassId) (n : Nat) (Ly : LL) (I : II) (P : PP) (U : State) : Prop := U.heap.size = s0 + n ∧ va_P D vwCl (wd s0 DA Ly I P n) U.heap ∧ va_K D vwCl (tysA DA) U ∧ Nst U
/-- a method: its name, bytes, locals, kind of answer, depth -/
abbrev MD := MethodName × ByteArray × Nat × Option FieldType × Nat
abbrev rmD (d mc ms : Nat) : Room := { frames := d, cells := mc, slots := ms, locals := 41 * d }
def wsM (md : MD) : List Cond := .code md.1 md.2.1 md.2.2.1 md.2.2.2.1 :: tg
abbrev PQ := Option AV → Nat → LL → II → PP → Prop
def Qr (s0 : Nat) (D : va_G) (DA : Nat → ClassId) (Po : PQ) : Array Value → State → Outcome → State → Prop := fun _ st o t =>
  (∃ (r : Option AV) (n : Nat) (Ly : LL) (I : II) (P : PP), o = .returned (r.map (cv s0)) ∧ Po r n Ly I P ∧ Rl s0 D DA n Ly I P t) ∧ va_F (fun q => s0 ≤ q) st t
/-- a contract -/
def Ct (l : Launch) (s0 : Nat) (D : va_G) (DA : Nat → ClassId) (md : MD) (av : List AV) (mc ms n : Nat) (Ly : LL) (I : II) (P : PP) (Po : PQ) : Prop :=
  Met l md.1 (wsM md) (rmD md.2.2.2.2 mc ms) (va_Pc (av.map (cv s0)) (Rl s0 D DA n Ly I P)) (Qr s0 D DA Po) mc ms (fun q => s0 ≤ q)
abbrev Cx := Program × Launch × Env × Room × State × MethodId × Array Value × List Frame × Method × Code × Nat × va_G × (Nat → ClassId) × (State → Prop)
def Fx (X : Cx) (own : String) (cc : ByteArray) (nL d mc ms : Nat) : Prop := match X with
  | (p, _, _, R, s, m, args, _, meth, c, s0, D, DA, _) =>
    p.tables.exec = Jvm.exec ∧ c.code = cc ∧ c.maxLocals = nL ∧ s.vm.findClass own = some m.cls ∧ (∀ w ∈ tg, w.before args s = true) ∧ va_K D vwCl (tysA DA) s ∧ Nst s ∧ s0 ≤ s.heap.size ∧ meth.locks = false ∧ d ≤ R.frames ∧ 41 * d ≤ R.locals ∧ mc ≤ R.cells ∧ ms ≤ R.slots
/-- what a method's own end is -/
def Fr (X : Cx) (ret : Option FieldType) (Po : PQ) (mc ms : Nat) : Prop := match X with
  | (_, _, _, _, s, _, args, below, meth, _, s0, D, DA, Q) => meth.sig.returnType = ret ∧ Q = MQ below (Qr s0 D DA Po) args s mc ms (fun q => s0 ≤ q)
def Fi (X : Cx) : Prop := match X with
  | (_, _, _, _, _, _, _, _, meth, _) => meth.name = "<init>"
def LR (s0 : Nat) (nL : Nat) (lv : List (Option AV)) (ls : Array Slot) : Prop := ls.size = nL ∧ lv_wf ls ∧ ∀ (i : Nat) (v : AV), lv[i]? = some (some v) → ls[i]? = some (.val (cv s0 v))
def G (X : Cx) (nL kc ks n : Nat) (Ly : LL) (pc : Nat) (lv : List (Option AV)) (st : List AV) (I : II) (P : PP) : Prop := match X with
  | (p, l, e, R, s, m, args, below, meth, c, s0, D, DA, Q) =>
    ∀ (H : Heap) (locs : List Loc) (ls : Array Slot), s.heap.size + kc = s0 + n → va_P D vwCl (wd s0 DA Ly I P n) H → va_S (fun q => s0 ≤ q) s.heap H locs → LR s0 nL lv ls → W p l e R s m args below meth c H locs kc ks Q (F0 m pc ls (st.map (cv s0)))
def prs (s0 : Nat) (lv : List (Option AV)) : List (Nat × Value) := (List.range lv.length).filterMap fun i => (lv[i]?.join).map fun v => (i, cv s0 v)
theorem prs_mem {s0 : Nat} {lv : List (Option AV)} {q : Nat × Value} : q ∈ prs s0 lv ↔ ∃ v, lv[q.1]? = some (some v) ∧ q.2 = cv s0 v := by
  unfold prs
  rw [List.mem_filterMap]
  constructor
  · rintro ⟨i, -, h⟩
    cases hi : lv[i]? with
    | none => rw [hi] at h; cases h
    | some o =>
      rw [hi] at h
      cases o with
      | none => cases h
      | some v =>
        cases h
        exact ⟨v, hi, rfl⟩
  · rintro ⟨v, h1, h2⟩
    have hl := (List.getElem?_eq_some_iff.mp h1).1
    refine ⟨q.1, List.mem_range.mpr hl, ?_⟩
    rw [h1]
    show some (q.1, cv s0 v) = some q
    rw [← h2]
theorem LR.has {s0 nL : Nat} {lv : List (Option AV)} {ls : Array Slot} (h : LR s0 nL lv ls) : lv_has ls nL (prs s0 lv) := by
  refine ⟨h.1, h.2.1, fun q hq => ?_⟩
  obtain ⟨v, h1, h2⟩ := prs_mem.mp hq
  rw [h2]
  exact h.2.2 _ _ h1
theorem LR.of {s0 nL i : Nat} {lv : List (Option AV)} {ls ls' : Array Slot} {v : AV} (_h : LR s0 nL lv ls) (h' : lv_has ls' nL ((i, cv s0 v) :: (prs s0 lv).filter (fun q => !(q.1 == i) && !(q.1 + 1 == i && q.2.category == 2)))) : LR s0 nL (lv.set i (some v)) ls' := by
  refine ⟨h'.1, h'.2.1, fun j w hj => ?_⟩
  by_cases e : j = i
  · subst e
    have hl := (List.getElem?_eq_some_iff.mp hj).1
    rw [List.getElem?_set_self (by simpa using hl)] at hj
    have e2 : v = w := Option.some.inj (Option.some.inj hj)
    subst e2
    exact h'.2.2 (j, cv s0 v) List.mem_cons_self
  · rw [List.getElem?_set_ne (fun q => e q.symm)] at hj
    refine h'.2.2 (j, cv s0 w) (List.mem_cons_of_mem _ (List.mem_filter.mpr ⟨prs_mem.mpr ⟨w, hj, rfl⟩, ?_⟩))
    have h1 : (j == i) = false := by simpa using e
    have h2 : ((cv s0 w).category == 2) = false := by rw [cv_cat]; rfl
    simp [h1, h2]
/-- fewer known locals -/
def leL : List (Option AV) → List (Option AV) → Prop
  | [], _ => True
  | none :: a, [] => leL a []
  | none :: a, _ :: b => leL a b
  | some v :: a, x :: b => x = some v ∧ leL a b
  | some _ :: _, [] => False
theorem leL_get : ∀ (a b : List (Option AV)), leL a b → ∀ (i : Nat) (v : AV), a[i]? = some (some v) → b[i]? = some (some v)
  | [], _, _, i, v, h => by simp at h
  | none :: a, [], hl, i, v, h => by
    cases i with
    | zero => simp at h
    | succ i => simpa using leL_get a [] hl i v (by simpa using h)
  | none :: a, x :: b, hl, i, v, h => by
    cases i with
    | zero => simp at h
    | succ i => simpa using leL_get a b hl i v (by simpa using h)
  | some w :: a, x :: b, hl, i, v, h => by
    obtain ⟨h1, h2⟩ := hl
    cases i with
    | zero =>
      subst h1
      simpa using h
    | succ i => simpa using leL_get a b h2 i v (by simpa using h)
  | some w :: a, [], hl, i, v, h => by exact hl.elim
theorem LR.weak {s0 nL : Nat} {a b : List (Option AV)} {ls : Array Slot} (h : LR s0 nL b ls) (hl : leL a b) : LR s0 nL a ls := ⟨h.1, h.2.1, fun i v hi => h.2.2 i v (leL_get a b hl i v hi)⟩
theorem G.weak {X : Cx} {nL kc ks n pc : Nat} {Ly : LL} {a b : List (Option AV)} {st : List AV} {I : II} {P : PP} (hl : leL a b) (h : G X nL kc ks n Ly pc a st I P) : G X nL kc ks n Ly pc b st I P := by
  obtain ⟨p, l, e, R, s, m, args, below, meth, c, s0, D, DA, Q⟩ := X
  intro H locs ls hz hP hS hL
  exact h H locs ls hz hP hS (hL.weak hl)
theorem sz_of {p : Program} {l : Launch} {e : Env} {R : Room} {s : State} {m : MethodId} {args : Array Value} {below : List Frame} {meth : Method} {c : Code} {T : State} {H : Heap} {locs : List Loc} {kc ks s0 n : Nat} {D : va_G} {DA : Nat → ClassId} {Ly : LL} {I : II} {P : PP} (X : Stand p l e R s m args below meth c T locs kc ks) (hT : T.heap = H) (hz : s.heap.size + kc = s0 + n) (hP : va_P D vwCl (wd s0 DA Ly I P n) H) (hS : va_S (fun q => s0 ≤ q) s.heap H locs) (hs0 : s0 ≤ s.heap.size) : H.size = s0 + n := by
  have h1 : T.heap.size ≤ s.heap.size + kc := X.same.2.2.1
  rw [hT] at h1
  have h2 := hS.1
  rcases Nat.eq_zero_or_pos n with h0 | h0
  · subst h0
    omega
  · have h3 := (hP (n - 1) _ (wd_get (by omega))).lt
    have h4 : s0 + (n - 1) < H.size := h3
    omega
/-- a field's place, by the tables -/
def FL (own : String) (idx ci k : Nat) : Prop := ci < 9 ∧ k < nF ci ∧ Cond.fieldLink own idx (TF ci k).1 (TF ci k).2.1 (TF ci k).2.2.1 ∈ tg
theorem fs_setI {s0 : Nat} {I : II} {P : PP} {ci a k : Nat} {x : Int32} (hk : k < nF ci) (hr : isR ci k = false) : ((List.range (nF ci)).map (fV s0 I P ci a)).set k (.int x) = (List.range (nF ci)).map (fV s0 (up2 I a k x) P ci a) := by
  apply List.ext_getElem?
  intro j
  by_cases hj : j < nF ci
  · by_cases hjk : j = k
    · subst hjk
      rw [List.getElem?_set_self (by simpa using hj)]
      simp [hj, fV, hr, up2]
    · rw [List.getElem?_set_ne (fun q => hjk q.symm)]
      simp [hj, fV, up2, hjk]
  · rw [List.getElem?_eq_none (by simpa using hj), List.getElem?_eq_none (by simpa using hj)]
theorem fs_setR {s0 : Nat} {I : II} {P : PP} {ci a k : Nat} {o : Option Nat} (hk : k < nF ci) (hr : isR ci k = true) : ((List.range (nF ci)).map (fV s0 I P ci a)).set k (rv s0 o) = (List.range (nF ci)).map (fV s0 I (upP P a k o) ci a) := by
  apply List.ext_getElem?
  intro j
  by_cases hj : j < nF ci
  · by_cases hjk : j = k
    · subst hjk
      rw [List.getElem?_set_self (by simpa using hj)]
      simp [hj, fV, hr, upP]
    · rw [List.getElem?_set_ne (fun q => hjk q.symm)]
      simp [hj, fV, upP, hjk]
  · rw [List.getElem?_eq_none (by simpa using hj), List.getElem?_eq_none (by simpa using hj)]
