/-! rows that know the script too: local 0 is its array -/
def GL (b0 : Nat) (X : Cx) (nL kc ks n : Nat) (Ly : LL) (pc : Nat) (lv : List (Option AV)) (st : List AV) (I : II) (P : PP) : Prop := match X with
  | (p, l, e, R, s, m, args, below, meth, c, s0, D, DA, Q) =>
    ∀ (H : Heap) (locs : List Loc) (ls : Array Slot), s.heap.size + kc = s0 + n → va_P D vwCl (wd s0 DA Ly I P n) H → va_S (fun q => s0 ≤ q) s.heap H locs → LR s0 nL lv ls → ls[0]? = some (.val (.ref b0)) → W p l e R s m args below meth c H locs kc ks Q (F0 m pc ls (st.map (cv s0)))
theorem LR0 {b0 s0 nL : Nat} {lv : List (Option AV)} {ls : Array Slot} (h : LR s0 nL lv ls) (h0 : ls[0]? = some (.val (.ref b0))) : lv_has ls nL ((0, Value.ref b0) :: prs s0 lv) := by
  have hh := h.has
  refine ⟨hh.1, hh.2.1, fun q hq => ?_⟩
  rcases List.mem_cons.mp hq with e | e
  · rw [e]; exact h0
  · exact hh.2.2 q e
theorem LR1 {b0 s0 nL i : Nat} {lv : List (Option AV)} {ls ls' : Array Slot} {v : AV} (h : LR s0 nL lv ls) (hi : i ≠ 0) (h' : lv_has ls' nL ((i, cv s0 v) :: ((0, Value.ref b0) :: prs s0 lv).filter (fun q => !(q.1 == i) && !(q.1 + 1 == i && q.2.category == 2)))) : LR s0 nL (lv.set i (some v)) ls' ∧ ls'[0]? = some (.val (.ref b0)) := by
  constructor
  · refine LR.of h ⟨h'.1, h'.2.1, fun q hq => h'.2.2 q ?_⟩
    rcases List.mem_cons.mp hq with e | e
    · exact List.mem_cons.mpr (Or.inl e)
    · refine List.mem_cons.mpr (Or.inr ?_)
      rw [List.mem_filter] at e ⊢
      exact ⟨List.mem_cons_of_mem _ e.1, e.2⟩
  · refine h'.2.2 (0, Value.ref b0) (List.mem_cons_of_mem _ (List.mem_filter.mpr ⟨List.mem_cons_self, ?_⟩))
    have e1 : (0 == i) = false := by simp; omega
    simp [e1, Value.category]
section LAWROWS
variable {X : Cx} {own : String} {cc : ByteArray} {nL d mc ms kc ks n pc b0 : Nat} {Ly : LL} {lv : List (Option AV)} {st : List AV} {I : II} {P : PP} {st' av : List AV} {md : MD} {idx mc' ms' : Nat} {Po : PQ}
theorem tL_iconst (F : Fx X own cc nL d mc ms) {k : Int} {v : Int32} (hd : decode cc pc = .ok (.iconst k, 1)) (hv : Int32.ofInt k = v) (kk : GL b0 X nL kc ks n Ly (pc + 1) lv (.inl v :: st) I P) : GL b0 X nL kc ks n Ly pc lv st I P := by
  obtain ⟨p, l, e, R, s, m, args, below, meth, c, s0, D, DA, Q⟩ := X
  obtain ⟨hx, hb, hml, hown, hts, hK, hN, hs0, hlk, hR1, hR2, hR3, hR4⟩ := F
  intro H locs ls hz hP hS hL h0
  exact lv_iconst hx hb hd hv (kk H locs ls hz hP hS hL h0)
theorem tL_bipush (F : Fx X own cc nL d mc ms) {k : Int} {v : Int32} (hd : decode cc pc = .ok (.bipush k, 2)) (hv : (Int8.ofInt k).toInt32 = v) (kk : GL b0 X nL kc ks n Ly (pc + 2) lv (.inl v :: st) I P) : GL b0 X nL kc ks n Ly pc lv st I P := by
  obtain ⟨p, l, e, R, s, m, args, below, meth, c, s0, D, DA, Q⟩ := X
  obtain ⟨hx, hb, hml, hown, hts, hK, hN, hs0, hlk, hR1, hR2, hR3, hR4⟩ := F
  intro H locs ls hz hP hS hL h0
  exact lv_bipush hx hb hd hv (kk H locs ls hz hP hS hL h0)
theorem tL_sipush (F : Fx X own cc nL d mc ms) {k : Int} {v : Int32} (hd : decode cc pc = .ok (.sipush k, 3)) (hv : (Int16.ofInt k).toInt32 = v) (kk : GL b0 X nL kc ks n Ly (pc + 3) lv (.inl v :: st) I P) : GL b0 X nL kc ks n Ly pc lv st I P := by
  obtain ⟨p, l, e, R, s, m, args, below, meth, c, s0, D, DA, Q⟩ := X
  obtain ⟨hx, hb, hml, hown, hts, hK, hN, hs0, hlk, hR1, hR2, hR3, hR4⟩ := F
  intro H locs ls hz hP hS hL h0
  exact lv_sipush hx hb hd hv (kk H locs ls hz hP hS hL h0)
theorem tL_iload_n (F : Fx X own cc nL d mc ms) {k : Fin 4} {x : Int32} (hd : decode cc pc = .ok (.iload_n k, 1)) (hl : lv[(k : Nat)]? = some (some (.inl x))) (kk : GL b0 X nL kc ks n Ly (pc + 1) lv (.inl x :: st) I P) : GL b0 X nL kc ks n Ly pc lv st I P := by
  obtain ⟨p, l, e, R, s, m, args, below, meth, c, s0, D, DA, Q⟩ := X
  obtain ⟨hx, hb, hml, hown, hts, hK, hN, hs0, hlk, hR1, hR2, hR3, hR4⟩ := F
  intro H locs ls hz hP hS hL h0
  exact lv_iload_n hx hb hd rfl (hL.2.2 _ _ hl) (kk H locs ls hz hP hS hL h0)
theorem tL_iload (F : Fx X own cc nL d mc ms) {k : Nat} {x : Int32} (hd : decode cc pc = .ok (.iload k, 2)) (hl : lv[k]? = some (some (.inl x))) (kk : GL b0 X nL kc ks n Ly (pc + 2) lv (.inl x :: st) I P) : GL b0 X nL kc ks n Ly pc lv st I P := by
  obtain ⟨p, l, e, R, s, m, args, below, meth, c, s0, D, DA, Q⟩ := X
  obtain ⟨hx, hb, hml, hown, hts, hK, hN, hs0, hlk, hR1, hR2, hR3, hR4⟩ := F
  intro H locs ls hz hP hS hL h0
  exact lv_iload hx hb hd (hL.2.2 _ _ hl) (kk H locs ls hz hP hS hL h0)
theorem tL_aload_n (F : Fx X own cc nL d mc ms) {k : Fin 4} {o : Option Nat} (hd : decode cc pc = .ok (.aload_n k, 1)) (hl : lv[(k : Nat)]? = some (some (.inr o))) (kk : GL b0 X nL kc ks n Ly (pc + 1) lv (.inr o :: st) I P) : GL b0 X nL kc ks n Ly pc lv st I P := by
  obtain ⟨p, l, e, R, s, m, args, below, meth, c, s0, D, DA, Q⟩ := X
  obtain ⟨hx, hb, hml, hown, hts, hK, hN, hs0, hlk, hR1, hR2, hR3, hR4⟩ := F
  intro H locs ls hz hP hS hL h0
  cases o with
  | none => exact lv_aload_nN hx hb hd rfl (hL.2.2 _ _ hl) (kk H locs ls hz hP hS hL h0)
  | some b => exact lv_aload_n hx hb hd rfl (hL.2.2 _ _ hl) (kk H locs ls hz hP hS hL h0)
theorem tL_aload (F : Fx X own cc nL d mc ms) {k : Nat} {o : Option Nat} (hd : decode cc pc = .ok (.aload k, 2)) (hl : lv[k]? = some (some (.inr o))) (kk : GL b0 X nL kc ks n Ly (pc + 2) lv (.inr o :: st) I P) : GL b0 X nL kc ks n Ly pc lv st I P := by
  obtain ⟨p, l, e, R, s, m, args, below, meth, c, s0, D, DA, Q⟩ := X
  obtain ⟨hx, hb, hml, hown, hts, hK, hN, hs0, hlk, hR1, hR2, hR3, hR4⟩ := F
  intro H locs ls hz hP hS hL h0
  cases o with
  | none => exact lv_aloadN hx hb hd (hL.2.2 _ _ hl) (kk H locs ls hz hP hS hL h0)
  | some b => exact lv_aload hx hb hd (hL.2.2 _ _ hl) (kk H locs ls hz hP hS hL h0)
theorem tL_iadd (F : Fx X own cc nL d mc ms) {x y : Int32} (hd : decode cc pc = .ok (.iadd, 1)) (kk : GL b0 X nL kc ks n Ly (pc + 1) lv (.inl (x + y) :: st) I P) : GL b0 X nL kc ks n Ly pc lv (.inl y :: .inl x :: st) I P := by
  obtain ⟨p, l, e, R, s, m, args, below, meth, c, s0, D, DA, Q⟩ := X
  obtain ⟨hx, hb, hml, hown, hts, hK, hN, hs0, hlk, hR1, hR2, hR3, hR4⟩ := F
  intro H locs ls hz hP hS hL h0
  exact lv_iadd hx hb hd (kk H locs ls hz hP hS hL h0)
theorem tL_isub (F : Fx X own cc nL d mc ms) {x y : Int32} (hd : decode cc pc = .ok (.isub, 1)) (kk : GL b0 X nL kc ks n Ly (pc + 1) lv (.inl (x - y) :: st) I P) : GL b0 X nL kc ks n Ly pc lv (.inl y :: .inl x :: st) I P := by
  obtain ⟨p, l, e, R, s, m, args, below, meth, c, s0, D, DA, Q⟩ := X
  obtain ⟨hx, hb, hml, hown, hts, hK, hN, hs0, hlk, hR1, hR2, hR3, hR4⟩ := F
  intro H locs ls hz hP hS hL h0
  exact lv_isub hx hb hd (kk H locs ls hz hP hS hL h0)
theorem tL_imul (F : Fx X own cc nL d mc ms) {x y : Int32} (hd : decode cc pc = .ok (.imul, 1)) (kk : GL b0 X nL kc ks n Ly (pc + 1) lv (.inl (x * y) :: st) I P) : GL b0 X nL kc ks n Ly pc lv (.inl y :: .inl x :: st) I P := by
  obtain ⟨p, l, e, R, s, m, args, below, meth, c, s0, D, DA, Q⟩ := X
  obtain ⟨hx, hb, hml, hown, hts, hK, hN, hs0, hlk, hR1, hR2, hR3, hR4⟩ := F
  intro H locs ls hz hP hS hL h0
  exact lv_imul hx hb hd (kk H locs ls hz hP hS hL h0)
theorem tL_iand (F : Fx X own cc nL d mc ms) {x y : Int32} (hd : decode cc pc = .ok (.iand, 1)) (kk : GL b0 X nL kc ks n Ly (pc + 1) lv (.inl (x &&& y) :: st) I P) : GL b0 X nL kc ks n Ly pc lv (.inl y :: .inl x :: st) I P := by
  obtain ⟨p, l, e, R, s, m, args, below, meth, c, s0, D, DA, Q⟩ := X
  obtain ⟨hx, hb, hml, hown, hts, hK, hN, hs0, hlk, hR1, hR2, hR3, hR4⟩ := F
  intro H locs ls hz hP hS hL h0
  exact lv_iand hx hb hd (kk H locs ls hz hP hS hL h0)
theorem tL_ineg (F : Fx X own cc nL d mc ms) {x : Int32} (hd : decode cc pc = .ok (.ineg, 1)) (kk : GL b0 X nL kc ks n Ly (pc + 1) lv (.inl (-x) :: st) I P) : GL b0 X nL kc ks n Ly pc lv (.inl x :: st) I P := by
  obtain ⟨p, l, e, R, s, m, args, below, meth, c, s0, D, DA, Q⟩ := X
  obtain ⟨hx, hb, hml, hown, hts, hK, hN, hs0, hlk, hR1, hR2, hR3, hR4⟩ := F
  intro H locs ls hz hP hS hL h0
  exact lv_ineg hx hb hd (kk H locs ls hz hP hS hL h0)
theorem tL_idiv (F : Fx X own cc nL d mc ms) {x y : Int32} (hd : decode cc pc = .ok (.idiv, 1)) (hy : ¬ y = 0) (kk : GL b0 X nL kc ks n Ly (pc + 1) lv (.inl (x / y) :: st) I P) : GL b0 X nL kc ks n Ly pc lv (.inl y :: .inl x :: st) I P := by
  obtain ⟨p, l, e, R, s, m, args, below, meth, c, s0, D, DA, Q⟩ := X
  obtain ⟨hx, hb, hml, hown, hts, hK, hN, hs0, hlk, hR1, hR2, hR3, hR4⟩ := F
  intro H locs ls hz hP hS hL h0
  exact lv_idiv hx hb hd hy (kk H locs ls hz hP hS hL h0)
theorem tL_irem (F : Fx X own cc nL d mc ms) {x y : Int32} (hd : decode cc pc = .ok (.irem, 1)) (hy : ¬ y = 0) (kk : GL b0 X nL kc ks n Ly (pc + 1) lv (.inl (x - x / y * y) :: st) I P) : GL b0 X nL kc ks n Ly pc lv (.inl y :: .inl x :: st) I P := by
  obtain ⟨p, l, e, R, s, m, args, below, meth, c, s0, D, DA, Q⟩ := X
  obtain ⟨hx, hb, hml, hown, hts, hK, hN, hs0, hlk, hR1, hR2, hR3, hR4⟩ := F
  intro H locs ls hz hP hS hL h0
  exact lv_irem hx hb hd hy (kk H locs ls hz hP hS hL h0)
theorem tL_i2c (F : Fx X own cc nL d mc ms) {x : Int32} (hd : decode cc pc = .ok (.i2c, 1)) (kk : GL b0 X nL kc ks n Ly (pc + 1) lv (.inl (x.toUInt32 % 65536).toInt32 :: st) I P) : GL b0 X nL kc ks n Ly pc lv (.inl x :: st) I P := by
  obtain ⟨p, l, e, R, s, m, args, below, meth, c, s0, D, DA, Q⟩ := X
  obtain ⟨hx, hb, hml, hown, hts, hK, hN, hs0, hlk, hR1, hR2, hR3, hR4⟩ := F
  intro H locs ls hz hP hS hL h0
  exact lv_i2c hx hb hd rfl (kk H locs ls hz hP hS hL h0)
theorem tL_dup (F : Fx X own cc nL d mc ms) {a : AV} (hd : decode cc pc = .ok (.dup, 1)) (kk : GL b0 X nL kc ks n Ly (pc + 1) lv (a :: a :: st) I P) : GL b0 X nL kc ks n Ly pc lv (a :: st) I P := by
  obtain ⟨p, l, e, R, s, m, args, below, meth, c, s0, D, DA, Q⟩ := X
  obtain ⟨hx, hb, hml, hown, hts, hK, hN, hs0, hlk, hR1, hR2, hR3, hR4⟩ := F
  intro H locs ls hz hP hS hL h0
  exact lv_dup hx hb hd (cv_cat s0 a) (kk H locs ls hz hP hS hL h0)
theorem tL_pop (F : Fx X own cc nL d mc ms) {a : AV} (hd : decode cc pc = .ok (.pop, 1)) (kk : GL b0 X nL kc ks n Ly (pc + 1) lv st I P) : GL b0 X nL kc ks n Ly pc lv (a :: st) I P := by
  obtain ⟨p, l, e, R, s, m, args, below, meth, c, s0, D, DA, Q⟩ := X
  obtain ⟨hx, hb, hml, hown, hts, hK, hN, hs0, hlk, hR1, hR2, hR3, hR4⟩ := F
  intro H locs ls hz hP hS hL h0
  exact lv_pop hx hb hd (cv_cat s0 a) (kk H locs ls hz hP hS hL h0)
theorem tL_dup2 (F : Fx X own cc nL d mc ms) {a b : AV} (hd : decode cc pc = .ok (.dup2, 1)) (kk : GL b0 X nL kc ks n Ly (pc + 1) lv (a :: b :: a :: b :: st) I P) : GL b0 X nL kc ks n Ly pc lv (a :: b :: st) I P := by
  obtain ⟨p, l, e, R, s, m, args, below, meth, c, s0, D, DA, Q⟩ := X
  obtain ⟨hx, hb, hml, hown, hts, hK, hN, hs0, hlk, hR1, hR2, hR3, hR4⟩ := F
  intro H locs ls hz hP hS hL h0
  exact lv_dup2_11 hx hb hd (cv_cat s0 a) (cv_cat s0 b) (kk H locs ls hz hP hS hL h0)
theorem tL_if_eq (F : Fx X own cc nL d mc ms) {x : Int32} {off : Int} {tgt : Nat} (hd : decode cc pc = .ok (.ifCond .eq off, 3)) (ht : (pc : Int) + off = (tgt : Int)) (kt : x = 0 → GL b0 X nL kc ks n Ly tgt lv st I P) (kf : ¬ x = 0 → GL b0 X nL kc ks n Ly (pc + 3) lv st I P) : GL b0 X nL kc ks n Ly pc lv (.inl x :: st) I P := by
  obtain ⟨p, l, e, R, s, m, args, below, meth, c, s0, D, DA, Q⟩ := X
  obtain ⟨hx, hb, hml, hown, hts, hK, hN, hs0, hlk, hR1, hR2, hR3, hR4⟩ := F
  intro H locs ls hz hP hS hL h0
  exact lv_if_eq hx hb hd ht (fun q => kt q H locs ls hz hP hS hL h0) (fun q => kf q H locs ls hz hP hS hL h0)
theorem tL_if_ne (F : Fx X own cc nL d mc ms) {x : Int32} {off : Int} {tgt : Nat} (hd : decode cc pc = .ok (.ifCond .ne off, 3)) (ht : (pc : Int) + off = (tgt : Int)) (kt : ¬ x = 0 → GL b0 X nL kc ks n Ly tgt lv st I P) (kf : x = 0 → GL b0 X nL kc ks n Ly (pc + 3) lv st I P) : GL b0 X nL kc ks n Ly pc lv (.inl x :: st) I P := by
  obtain ⟨p, l, e, R, s, m, args, below, meth, c, s0, D, DA, Q⟩ := X
  obtain ⟨hx, hb, hml, hown, hts, hK, hN, hs0, hlk, hR1, hR2, hR3, hR4⟩ := F
  intro H locs ls hz hP hS hL h0
  exact lv_if_ne hx hb hd ht (fun q => kt q H locs ls hz hP hS hL h0) (fun q => kf q H locs ls hz hP hS hL h0)
theorem tL_if_lt (F : Fx X own cc nL d mc ms) {x : Int32} {off : Int} {tgt : Nat} (hd : decode cc pc = .ok (.ifCond .lt off, 3)) (ht : (pc : Int) + off = (tgt : Int)) (kt : x < 0 → GL b0 X nL kc ks n Ly tgt lv st I P) (kf : ¬ x < 0 → GL b0 X nL kc ks n Ly (pc + 3) lv st I P) : GL b0 X nL kc ks n Ly pc lv (.inl x :: st) I P := by
  obtain ⟨p, l, e, R, s, m, args, below, meth, c, s0, D, DA, Q⟩ := X
  obtain ⟨hx, hb, hml, hown, hts, hK, hN, hs0, hlk, hR1, hR2, hR3, hR4⟩ := F
  intro H locs ls hz hP hS hL h0
  exact lv_if_lt hx hb hd ht (fun q => kt q H locs ls hz hP hS hL h0) (fun q => kf q H locs ls hz hP hS hL h0)
theorem tL_if_ge (F : Fx X own cc nL d mc ms) {x : Int32} {off : Int} {tgt : Nat} (hd : decode cc pc = .ok (.ifCond .ge off, 3)) (ht : (pc : Int) + off = (tgt : Int)) (kt : 0 ≤ x → GL b0 X nL kc ks n Ly tgt lv st I P) (kf : ¬ 0 ≤ x → GL b0 X nL kc ks n Ly (pc + 3) lv st I P) : GL b0 X nL kc ks n Ly pc lv (.inl x :: st) I P := by
  obtain ⟨p, l, e, R, s, m, args, below, meth, c, s0, D, DA, Q⟩ := X
  obtain ⟨hx, hb, hml, hown, hts, hK, hN, hs0, hlk, hR1, hR2, hR3, hR4⟩ := F
  intro H locs ls hz hP hS hL h0
  exact lv_if_ge hx hb hd ht (fun q => kt q H locs ls hz hP hS hL h0) (fun q => kf q H locs ls hz hP hS hL h0)
theorem tL_if_gt (F : Fx X own cc nL d mc ms) {x : Int32} {off : Int} {tgt : Nat} (hd : decode cc pc = .ok (.ifCond .gt off, 3)) (ht : (pc : Int) + off = (tgt : Int)) (kt : 0 < x → GL b0 X nL kc ks n Ly tgt lv st I P) (kf : ¬ 0 < x → GL b0 X nL kc ks n Ly (pc + 3) lv st I P) : GL b0 X nL kc ks n Ly pc lv (.inl x :: st) I P := by
  obtain ⟨p, l, e, R, s, m, args, below, meth, c, s0, D, DA, Q⟩ := X
  obtain ⟨hx, hb, hml, hown, hts, hK, hN, hs0, hlk, hR1, hR2, hR3, hR4⟩ := F
  intro H locs ls hz hP hS hL h0
  exact lv_if_gt hx hb hd ht (fun q => kt q H locs ls hz hP hS hL h0) (fun q => kf q H locs ls hz hP hS hL h0)
theorem tL_if_le (F : Fx X own cc nL d mc ms) {x : Int32} {off : Int} {tgt : Nat} (hd : decode cc pc = .ok (.ifCond .le off, 3)) (ht : (pc : Int) + off = (tgt : Int)) (kt : x ≤ 0 → GL b0 X nL kc ks n Ly tgt lv st I P) (kf : ¬ x ≤ 0 → GL b0 X nL kc ks n Ly (pc + 3) lv st I P) : GL b0 X nL kc ks n Ly pc lv (.inl x :: st) I P := by
  obtain ⟨p, l, e, R, s, m, args, below, meth, c, s0, D, DA, Q⟩ := X
  obtain ⟨hx, hb, hml, hown, hts, hK, hN, hs0, hlk, hR1, hR2, hR3, hR4⟩ := F
  intro H locs ls hz hP hS hL h0
  exact lv_if_le hx hb hd ht (fun q => kt q H locs ls hz hP hS hL h0) (fun q => kf q H locs ls hz hP hS hL h0)
theorem tL_icmp_eq (F : Fx X own cc nL d mc ms) {x y : Int32} {off : Int} {tgt : Nat} (hd : decode cc pc = .ok (.if_icmp .eq off, 3)) (ht : (pc : Int) + off = (tgt : Int)) (kt : x = y → GL b0 X nL kc ks n Ly tgt lv st I P) (kf : ¬ x = y → GL b0 X nL kc ks n Ly (pc + 3) lv st I P) : GL b0 X nL kc ks n Ly pc lv (.inl y :: .inl x :: st) I P := by
  obtain ⟨p, l, e, R, s, m, args, below, meth, c, s0, D, DA, Q⟩ := X
  obtain ⟨hx, hb, hml, hown, hts, hK, hN, hs0, hlk, hR1, hR2, hR3, hR4⟩ := F
  intro H locs ls hz hP hS hL h0
  exact lv_icmp_eq hx hb hd ht (fun q => kt q H locs ls hz hP hS hL h0) (fun q => kf q H locs ls hz hP hS hL h0)
theorem tL_icmp_ne (F : Fx X own cc nL d mc ms) {x y : Int32} {off : Int} {tgt : Nat} (hd : decode cc pc = .ok (.if_icmp .ne off, 3)) (ht : (pc : Int) + off = (tgt : Int)) (kt : ¬ x = y → GL b0 X nL kc ks n Ly tgt lv st I P) (kf : x = y → GL b0 X nL kc ks n Ly (pc + 3) lv st I P) : GL b0 X nL kc ks n Ly pc lv (.inl y :: .inl x :: st) I P := by
  obtain ⟨p, l, e, R, s, m, args, below, meth, c, s0, D, DA, Q⟩ := X
  obtain ⟨hx, hb, hml, hown, hts, hK, hN, hs0, hlk, hR1, hR2, hR3, hR4⟩ := F
  intro H locs ls hz hP hS hL h0
  exact lv_icmp_ne hx hb hd ht (fun q => kt q H locs ls hz hP hS hL h0) (fun q => kf q H locs ls hz hP hS hL h0)
theorem tL_icmp_lt (F : Fx X own cc nL d mc ms) {x y : Int32} {off : Int} {tgt : Nat} (hd : decode cc pc = .ok (.if_icmp .lt off, 3)) (ht : (pc : Int) + off = (tgt : Int)) (kt : x < y → GL b0 X nL kc ks n Ly tgt lv st I P) (kf : ¬ x < y → GL b0 X nL kc ks n Ly (pc + 3) lv st I P) : GL b0 X nL kc ks n Ly pc lv (.inl y :: .inl x :: st) I P := by
  obtain ⟨p, l, e, R, s, m, args, below, meth, c, s0, D, DA, Q⟩ := X
  obtain ⟨hx, hb, hml, hown, hts, hK, hN, hs0, hlk, hR1, hR2, hR3, hR4⟩ := F
  intro H locs ls hz hP hS hL h0
  exact lv_icmp_lt hx hb hd ht (fun q => kt q H locs ls hz hP hS hL h0) (fun q => kf q H locs ls hz hP hS hL h0)
theorem tL_icmp_ge (F : Fx X own cc nL d mc ms) {x y : Int32} {off : Int} {tgt : Nat} (hd : decode cc pc = .ok (.if_icmp .ge off, 3)) (ht : (pc : Int) + off = (tgt : Int)) (kt : y ≤ x → GL b0 X nL kc ks n Ly tgt lv st I P) (kf : ¬ y ≤ x → GL b0 X nL kc ks n Ly (pc + 3) lv st I P) : GL b0 X nL kc ks n Ly pc lv (.inl y :: .inl x :: st) I P := by
  obtain ⟨p, l, e, R, s, m, args, below, meth, c, s0, D, DA, Q⟩ := X
  obtain ⟨hx, hb, hml, hown, hts, hK, hN, hs0, hlk, hR1, hR2, hR3, hR4⟩ := F
  intro H locs ls hz hP hS hL h0
  exact lv_icmp_ge hx hb hd ht (fun q => kt q H locs ls hz hP hS hL h0) (fun q => kf q H locs ls hz hP hS hL h0)
theorem tL_icmp_gt (F : Fx X own cc nL d mc ms) {x y : Int32} {off : Int} {tgt : Nat} (hd : decode cc pc = .ok (.if_icmp .gt off, 3)) (ht : (pc : Int) + off = (tgt : Int)) (kt : y < x → GL b0 X nL kc ks n Ly tgt lv st I P) (kf : ¬ y < x → GL b0 X nL kc ks n Ly (pc + 3) lv st I P) : GL b0 X nL kc ks n Ly pc lv (.inl y :: .inl x :: st) I P := by
  obtain ⟨p, l, e, R, s, m, args, below, meth, c, s0, D, DA, Q⟩ := X
  obtain ⟨hx, hb, hml, hown, hts, hK, hN, hs0, hlk, hR1, hR2, hR3, hR4⟩ := F
  intro H locs ls hz hP hS hL h0
  exact lv_icmp_gt hx hb hd ht (fun q => kt q H locs ls hz hP hS hL h0) (fun q => kf q H locs ls hz hP hS hL h0)
theorem tL_icmp_le (F : Fx X own cc nL d mc ms) {x y : Int32} {off : Int} {tgt : Nat} (hd : decode cc pc = .ok (.if_icmp .le off, 3)) (ht : (pc : Int) + off = (tgt : Int)) (kt : x ≤ y → GL b0 X nL kc ks n Ly tgt lv st I P) (kf : ¬ x ≤ y → GL b0 X nL kc ks n Ly (pc + 3) lv st I P) : GL b0 X nL kc ks n Ly pc lv (.inl y :: .inl x :: st) I P := by
  obtain ⟨p, l, e, R, s, m, args, below, meth, c, s0, D, DA, Q⟩ := X
  obtain ⟨hx, hb, hml, hown, hts, hK, hN, hs0, hlk, hR1, hR2, hR3, hR4⟩ := F
  intro H locs ls hz hP hS hL h0
  exact lv_icmp_le hx hb hd ht (fun q => kt q H locs ls hz hP hS hL h0) (fun q => kf q H locs ls hz hP hS hL h0)
theorem tL_goto (F : Fx X own cc nL d mc ms) {off : Int} {tgt : Nat} (hd : decode cc pc = .ok (.goto off, 3)) (ht : (pc : Int) + off = (tgt : Int)) (kk : GL b0 X nL kc ks n Ly tgt lv st I P) : GL b0 X nL kc ks n Ly pc lv st I P := by
  obtain ⟨p, l, e, R, s, m, args, below, meth, c, s0, D, DA, Q⟩ := X
  obtain ⟨hx, hb, hml, hown, hts, hK, hN, hs0, hlk, hR1, hR2, hR3, hR4⟩ := F
  intro H locs ls hz hP hS hL h0
  exact lv_goto hx hb hd ht (kk H locs ls hz hP hS hL h0)
theorem s_ishr (F : Fx X own cc nL d mc ms) {x y : Int32} (hd : decode cc pc = .ok (.ishr, 1)) (kk : G X nL kc ks n Ly (pc + 1) lv (.inl (x >>> (y &&& 31)) :: st) I P) : G X nL kc ks n Ly pc lv (.inl y :: .inl x :: st) I P := by
  obtain ⟨p, l, e, R, s, m, args, below, meth, c, s0, D, DA, Q⟩ := X
  obtain ⟨hx, hb, hml, hown, hts, hK, hN, hs0, hlk, hR1, hR2, hR3, hR4⟩ := F
  intro H locs ls hz hP hS hL
  exact lv_ishr hx hb hd (kk H locs ls hz hP hS hL)
theorem tL_ishr (F : Fx X own cc nL d mc ms) {x y : Int32} (hd : decode cc pc = .ok (.ishr, 1)) (kk : GL b0 X nL kc ks n Ly (pc + 1) lv (.inl (x >>> (y &&& 31)) :: st) I P) : GL b0 X nL kc ks n Ly pc lv (.inl y :: .inl x :: st) I P := by
  obtain ⟨p, l, e, R, s, m, args, below, meth, c, s0, D, DA, Q⟩ := X
  obtain ⟨hx, hb, hml, hown, hts, hK, hN, hs0, hlk, hR1, hR2, hR3, hR4⟩ := F
  intro H locs ls hz hP hS hL h0
  exact lv_ishr hx hb hd (kk H locs ls hz hP hS hL h0)
theorem s_ldc (F : Fx X own cc nL d mc ms) {idx : Nat} {v : Int32} (hd : decode cc pc = .ok (.ldc idx, 2)) (hk : Cond.constant own idx v ∈ tg) (kk : G X nL kc ks n Ly (pc + 2) lv (.inl v :: st) I P) : G X nL kc ks n Ly pc lv st I P := by
  obtain ⟨p, l, e, R, s, m, args, below, meth, c, s0, D, DA, Q⟩ := X
  obtain ⟨hx, hb, hml, hown, hts, hK, hN, hs0, hlk, hR1, hR2, hR3, hR4⟩ := F
  intro H locs ls hz hP hS hL
  exact lv_ldc hx hb hown (hts _ hk) hd (kk H locs ls hz hP hS hL)
theorem tL_ldc (F : Fx X own cc nL d mc ms) {idx : Nat} {v : Int32} (hd : decode cc pc = .ok (.ldc idx, 2)) (hk : Cond.constant own idx v ∈ tg) (kk : GL b0 X nL kc ks n Ly (pc + 2) lv (.inl v :: st) I P) : GL b0 X nL kc ks n Ly pc lv st I P := by
  obtain ⟨p, l, e, R, s, m, args, below, meth, c, s0, D, DA, Q⟩ := X
  obtain ⟨hx, hb, hml, hown, hts, hK, hN, hs0, hlk, hR1, hR2, hR3, hR4⟩ := F
  intro H locs ls hz hP hS hL h0
  exact lv_ldc hx hb hown (hts _ hk) hd (kk H locs ls hz hP hS hL h0)
theorem tL_iald (F : Fx X own cc nL d mc ms) {a len : Nat} {x : Int32} (hd : decode cc pc = .ok (.iaload, 1)) (hl : Ly a = .inr (0, len)) (ha : a < n) (hin : vp_in x len) (kk : GL b0 X nL kc ks n Ly (pc + 1) lv (.inl (I a x.toNatClampNeg) :: st) I P) : GL b0 X nL kc ks n Ly pc lv (.inl x :: .inr (some a) :: st) I P := by
  obtain ⟨p, l, e, R, s, m, args, below, meth, c, s0, D, DA, Q⟩ := X
  obtain ⟨hx, hb, hml, hown, hts, hK, hN, hs0, hlk, hR1, hR2, hR3, hR4⟩ := F
  intro H locs ls hz hP hS hL h0
  exact va_iald hx hb hK hP a 0 ((wd_get ha).trans (by rw [cE_i hl (by decide)])) rfl hin hd (kk H locs ls hz hP hS hL h0)
theorem tL_iast (F : Fx X own cc nL d mc ms) {a len : Nat} {x v : Int32} (hd : decode cc pc = .ok (.iastore, 1)) (hl : Ly a = .inr (0, len)) (ha : a < n) (hin : vp_in x len) (kk : GL b0 X nL kc ks n Ly (pc + 1) lv st (up2 I a x.toNatClampNeg v) P) : GL b0 X nL kc ks n Ly pc lv (.inl v :: .inl x :: .inr (some a) :: st) I P := by
  obtain ⟨p, l, e, R, s, m, args, below, meth, c, s0, D, DA, Q⟩ := X
  obtain ⟨hx, hb, hml, hown, hts, hK, hN, hs0, hlk, hR1, hR2, hR3, hR4⟩ := F
  intro H locs ls hz hP hS hL h0
  refine va_iast hx hb hK hP wd_D hS a 0 ((wd_get ha).trans (by rw [cE_i hl (by decide)])) rfl hin hd (fun H1 locs1 hP1 _ hS1 => kk H1 locs1 ls hz ?_ hS1 hL h0)
  rw [wd_set (I' := up2 I a x.toNatClampNeg v) (P' := P) ha (by rw [cE_i hl (by decide), up2_s]) (fun j hj => up2_n hj) (fun _ _ => rfl)] at hP1
  exact hP1
theorem tL_callV {b ci : Nat} (F : Fx X own cc nL d mc ms) (hd : decode cc pc = .ok (.invokevirtual idx, 3)) (hC : ∀ (l : Launch) (s0 : Nat) (D : va_G) (DA : Nat → ClassId), Ct l s0 D DA md (.inr (some b) :: av) mc' ms' n Ly I P Po) (hk : LV own idx md) (hm : MDok md av.length) (hci : ci < 9) (hl : Ly b = .inl ci) (hb : b < n) (hcls : md.1.cls = RF ci) (hst : st' = av.reverse ++ .inr (some b) :: st) (hlen : st.length ≤ 8) (hdp : md.2.2.2.2 + 1 ≤ d) (hmc : kc + mc' ≤ mc) (hms : ks + ms' ≤ ms) (hn : ∀ r n' Ly' I' P', Po r n' Ly' I' P' → n' = n + mc')
    (kk : ∀ (r : Option AV) (n' : Nat) (Ly' : LL) (I' : II) (P' : PP), Po r n' Ly' I' P' → GL b0 X nL (kc + mc') (ks + ms') n' Ly' (pc + 3) lv (r.toList ++ st) I' P') : GL b0 X nL kc ks n Ly pc lv st' I P := by
  obtain ⟨p, l, e, R, s, m, args, below, meth, c, s0, D, DA, Q⟩ := X
  obtain ⟨hx, hb', hml, hown, hts, hK, hN, hs0, hlk, hR1, hR2, hR3, hR4⟩ := F
  obtain ⟨k1, k2, k3⟩ := hk
  obtain ⟨m1, m2, m3, m4⟩ := hm
  subst hst
  intro H locs ls hz hP hS hL h0
  have hG : GoodIn tg (wsV own idx md.1.cls md.1 (wsM md)) := by
    intro w hw
    rcases List.mem_append.mp hw with h | h
    · have : w ∈ tg := by
        simp only [List.mem_cons, List.not_mem_nil, or_false] at h
        rcases h with rfl | rfl | rfl | rfl
        · exact k1
        · exact k2
        · exact k3
        · exact m1
      exact ⟨this, tg_good this⟩
    · exact ws_good m2 w h
  have hrm : rmD md.2.2.2.2 mc' ms' = ({ frames := md.2.2.2.2, cells := mc', slots := ms', locals := 41 * md.2.2.2.2 } : Room) := rfl
  have cw := cwV (R := R) (s := s) (args := args) (own := own) (C := md.1.cls) (index := idx) (y := md.1) (bytes := md.2.1) (maxL := md.2.2.1) (ret := md.2.2.2.1) (ws := wsM md) (ws' := tg) (rm := rmD md.2.2.2.2 mc' ms') (mc := mc') (ms := ms') av.length hts hG rfl rfl rfl ⟨rfl, m3⟩ ⟨by show md.2.2.2.2 + 1 ≤ _; omega, by show 8 + (md.2.2.1 + 11) + 41 * md.2.2.2.2 ≤ _; omega⟩
  have hrc := va_recv hK hP (cl_at hci) ((wd_get hb).trans (by rw [cE_o hl]))
  refine go_call (Po := Po) (a := (Value.ref (s0 + b) :: av.map (cv s0)).toArray) (rest := st.map (cv s0)) hs0 hz hP hS (fun hsz => va_runV (b := s0 + b) (As := av.map (cv s0)) ⟨hx, hb', hml, hown, hts⟩ (hC l s0 D DA) cw ⟨Rl.blind, by rw [hcls]; exact hrc, fun U hU hW => ⟨rfl, by rw [hU]; exact hsz, by rw [hU]; exact hP, va_K.moved hW.alike hK, hN.warm hW⟩⟩ rfl (by simp) hL.1 (by simp only [List.map_append, List.map_reverse, List.map_cons]; rfl) (by show 2 * 0 + _ ≤ 8; rw [cv_sum]; omega) hd ⟨Nat.le_trans hmc hR3, Nat.le_trans hms hR4⟩) hn (fun r n' Ly' I' P' H1 locs1 hp hz1 hP1 hS1 => ?_)
  have := kk r n' Ly' I' P' hp H1 locs1 ls hz1 hP1 hS1 hL h0
  cases r with
  | none => exact this
  | some v => exact this
theorem tL_callI {b : Nat} (F : Fx X own cc nL d mc ms) (hd : decode cc pc = .ok (.invokespecial idx, 3)) (hC : ∀ (l : Launch) (s0 : Nat) (D : va_G) (DA : Nat → ClassId), Ct l s0 D DA md (.inr (some b) :: av) mc' ms' n Ly I P Po) (hret : md.2.2.2.1 = none) (hk : LI own idx md) (hm : MDok md av.length) (hst : st' = av.reverse ++ .inr (some b) :: st) (hlen : st.length ≤ 8) (hdp : md.2.2.2.2 + 1 ≤ d) (hmc : kc + mc' ≤ mc) (hms : ks + ms' ≤ ms) (hn : ∀ r n' Ly' I' P', Po r n' Ly' I' P' → n' = n + mc')
    (kk : ∀ (r : Option AV) (n' : Nat) (Ly' : LL) (I' : II) (P' : PP), Po r n' Ly' I' P' → GL b0 X nL (kc + mc') (ks + ms') n' Ly' (pc + 3) lv (r.toList ++ st) I' P') : GL b0 X nL kc ks n Ly pc lv st' I P := by
  obtain ⟨p, l, e, R, s, m, args, below, meth, c, s0, D, DA, Q⟩ := X
  obtain ⟨hx, hb', hml, hown, hts, hK, hN, hs0, hlk, hR1, hR2, hR3, hR4⟩ := F
  obtain ⟨k1, k2, k3⟩ := hk
  obtain ⟨m1, m2, m3, m4⟩ := hm
  obtain ⟨y, by1, mL, rt, dp⟩ := md
  have hret : rt = none := hret
  subst hret
  subst hst
  intro H locs ls hz hP hS hL h0
  have cw := cwI (R := R) (s := s) (args := args) (own := own) (index := idx) (y := y) (bytes := by1) (maxL := mL) (ws := wsM (y, by1, mL, none, dp)) (ws' := tg) (rm := rmD dp mc' ms') (mc := mc') (ms := ms') av.length hts (ws_good m2) rfl rfl rfl (hts _ m1) (hts _ k1) (hts _ k2) k3 m3 ⟨by have : dp + 1 ≤ d := hdp; show dp + 1 ≤ _; omega, by have : dp + 1 ≤ d := hdp; have : mL ≤ 22 := m4; show 8 + (mL + 11) + 41 * dp ≤ _; omega⟩
  refine go_call (Po := Po) (a := (Value.ref (s0 + b) :: av.map (cv s0)).toArray) (rest := st.map (cv s0)) hs0 hz hP hS (fun hsz => va_runI (b := s0 + b) (As := av.map (cv s0)) ⟨hx, hb', hml, hown, hts⟩ (hC l s0 D DA) cw ⟨Rl.blind, fun U hU hW => ⟨rfl, by rw [hU]; exact hsz, by rw [hU]; exact hP, va_K.moved hW.alike hK, hN.warm hW⟩⟩ rfl (by simp) hL.1 (by simp only [List.map_append, List.map_reverse, List.map_cons]; rfl) (by show 2 * 0 + _ ≤ 8; rw [cv_sum]; omega) hd ⟨Nat.le_trans hmc hR3, Nat.le_trans hms hR4⟩) hn (fun r n' Ly' I' P' H1 locs1 hp hz1 hP1 hS1 => ?_)
  have := kk r n' Ly' I' P' hp H1 locs1 ls hz1 hP1 hS1 hL h0
  cases r with
  | none => exact this
  | some v => exact this
theorem tL_callS (F : Fx X own cc nL d mc ms) (hd : decode cc pc = .ok (.invokestatic idx, 3)) (hC : ∀ (l : Launch) (s0 : Nat) (D : va_G) (DA : Nat → ClassId), Ct l s0 D DA md av mc' ms' n Ly I P Po) (hk : LT own idx md) (hm : MDok md av.length) (hst : st' = av.reverse ++ st) (hlen : st.length ≤ 8) (hdp : md.2.2.2.2 + 1 ≤ d) (hmc : kc + mc' ≤ mc) (hms : ks + ms' ≤ ms) (hn : ∀ r n' Ly' I' P', Po r n' Ly' I' P' → n' = n + mc')
    (kk : ∀ (r : Option AV) (n' : Nat) (Ly' : LL) (I' : II) (P' : PP), Po r n' Ly' I' P' → GL b0 X nL (kc + mc') (ks + ms') n' Ly' (pc + 3) lv (r.toList ++ st) I' P') : GL b0 X nL kc ks n Ly pc lv st' I P := by
  obtain ⟨p, l, e, R, s, m, args, below, meth, c, s0, D, DA, Q⟩ := X
  obtain ⟨hx, hb', hml, hown, hts, hK, hN, hs0, hlk, hR1, hR2, hR3, hR4⟩ := F
  obtain ⟨k1, k2⟩ := hk
  obtain ⟨m1, m2, m3, m4⟩ := hm
  subst hst
  intro H locs ls hz hP hS hL h0
  have cw : CallB R s args own idx md.1 md.2.1 md.2.2.1 md.2.2.2.1 (wsM md) (rmD md.2.2.2.2 mc' ms') mc' ms' av.length ∧ (Cond.static md.1).before args s = true := ⟨callB_of (ws' := tg) av.length hts (ws_good m2) rfl rfl rfl (hts _ m1) (hts _ k1) m3 ⟨by show md.2.2.2.2 + 1 ≤ _; omega, by show 8 + (md.2.2.1 + 11) + 41 * md.2.2.2.2 ≤ _; omega⟩, hts _ k2⟩
  refine go_call (Po := Po) (a := (av.map (cv s0)).toArray) (rest := st.map (cv s0)) hs0 hz hP hS (fun hsz => va_runS (As := av.map (cv s0)) ⟨hx, hb', hml, hown, hts⟩ (hC l s0 D DA) cw ⟨Rl.blind, fun U hU hW => ⟨rfl, by rw [hU]; exact hsz, by rw [hU]; exact hP, va_K.moved hW.alike hK, hN.warm hW⟩⟩ rfl (by simp) hL.1 (by simp only [List.map_append, List.map_reverse]) (by show 2 * 0 + _ ≤ 8; rw [cv_sum]; omega) hd ⟨Nat.le_trans hmc hR3, Nat.le_trans hms hR4⟩) hn (fun r n' Ly' I' P' H1 locs1 hp hz1 hP1 hS1 => ?_)
  have := kk r n' Ly' I' P' hp H1 locs1 ls hz1 hP1 hS1 hL h0
  cases r with
  | none => exact this
  | some v => exact this
theorem tL_new (F : Fx X own cc nL d mc ms) {idx ci : Nat} (hd : decode cc pc = .ok (.new idx, 3)) (hk : LN own idx ci) (hmc : kc + 1 ≤ mc) (hms : ks + nF ci ≤ ms) (kk : GL b0 X nL (kc + 1) (ks + nF ci) (n + 1) (upL Ly n (.inl ci)) (pc + 3) lv (.inr (some n) :: st) (nwI I n) (nwP P n)) : GL b0 X nL kc ks n Ly pc lv st I P := by
  obtain ⟨p, l, e, R, s, m, args, below, meth, c, s0, D, DA, Q⟩ := X
  obtain ⟨hx, hb, hml, hown, hts, hK, hN, hs0, hlk, hR1, hR2, hR3, hR4⟩ := F
  obtain ⟨hci, k1, k2, k3⟩ := hk
  intro H locs ls hz hP hS hL h0 T hT Y
  have hsz := sz_of Y hT hz hP hS hs0
  refine (?_ : W p l e R s m args below meth c H locs kc ks Q (F0 m pc ls (st.map (cv s0)))) T hT Y
  have hKn := hK.1 ci _ (cl_at hci)
  refine W.newcK hx hb hown (hts _ k1) (hts _ k2) (hts _ k3) rfl hd (Nat.le_trans hmc hR3) (Nat.le_trans hms hR4) hKn.2.1 hsz fun H1 kC hkC e1 z1 o1 => ?_
  have hq : ∀ (k : Nat) (x : Nat × va_E), (wd s0 DA Ly I P n)[k]? = some x → H1[x.1]? = H[x.1]? := fun k x hx => o1 x.1 (by rw [← hsz]; exact (hP k x hx).lt)
  refine kk H1 locs ls (by omega) ?_ ⟨Nat.le_trans hS.1 (by omega), fun x h1 h2 => (o1 x (by have := hS.1; omega)).trans (hS.2.1 x h1 h2), hS.2.2⟩ hL h0
  rw [wd_push]
  refine (hP.kept hq).app (fun k x hx => ?_)
  have hz0 : k < 1 := (List.getElem?_eq_some_iff.mp hx).1
  rw [show k = 0 by omega] at hx
  cases hx
  rw [cE_o (show upL Ly n (.inl ci) n = .inl ci by simp [upL])]
  refine ⟨_, cl_at hci, (u_born (tyF ci) hts (ws_in hci) hKn hkC e1 (ty_ok hci)).to (fun j hj => ?_)⟩
  rw [ty_dv (s0 := s0) (n := n) (I := I) (P := P) hci hj]
  simp [vp_V, hj]
theorem tL_istore_n (F : Fx X own cc nL d mc ms) {k : Fin 4} {x : Int32} (hd : decode cc pc = .ok (.istore_n k, 1)) (hk : (k : Nat) < nL) (hk0 : (k : Nat) ≠ 0) (kk : GL b0 X nL kc ks n Ly (pc + 1) (lv.set (k : Nat) (some (.inl x))) st I P) : GL b0 X nL kc ks n Ly pc lv (.inl x :: st) I P := by
  obtain ⟨p, l, e, R, s, m, args, below, meth, c, s0, D, DA, Q⟩ := X
  obtain ⟨hx, hb, hml, hown, hts, hK, hN, hs0, hlk, hR1, hR2, hR3, hR4⟩ := F
  intro H locs ls hz hP hS hL h0
  exact lv_istore_n hx hb hd rfl (LR0 hL h0) hk rfl (fun ls' h' => kk H locs ls' hz hP hS (LR1 (v := .inl x) hL hk0 h').1 (LR1 (v := .inl x) hL hk0 h').2)
theorem tL_istore (F : Fx X own cc nL d mc ms) {k : Nat} {x : Int32} (hd : decode cc pc = .ok (.istore k, 2)) (hk : k < nL) (hk0 : k ≠ 0) (kk : GL b0 X nL kc ks n Ly (pc + 2) (lv.set k (some (.inl x))) st I P) : GL b0 X nL kc ks n Ly pc lv (.inl x :: st) I P := by
  obtain ⟨p, l, e, R, s, m, args, below, meth, c, s0, D, DA, Q⟩ := X
  obtain ⟨hx, hb, hml, hown, hts, hK, hN, hs0, hlk, hR1, hR2, hR3, hR4⟩ := F
  intro H locs ls hz hP hS hL h0
  exact lv_istore hx hb hd (LR0 hL h0) hk rfl (fun ls' h' => kk H locs ls' hz hP hS (LR1 (v := .inl x) hL hk0 h').1 (LR1 (v := .inl x) hL hk0 h').2)
theorem tL_astore_n (F : Fx X own cc nL d mc ms) {k : Fin 4} {o : Nat} (hd : decode cc pc = .ok (.astore_n k, 1)) (hk : (k : Nat) < nL) (hk0 : (k : Nat) ≠ 0) (kk : GL b0 X nL kc ks n Ly (pc + 1) (lv.set (k : Nat) (some (.inr (some o)))) st I P) : GL b0 X nL kc ks n Ly pc lv (.inr (some o) :: st) I P := by
  obtain ⟨p, l, e, R, s, m, args, below, meth, c, s0, D, DA, Q⟩ := X
  obtain ⟨hx, hb, hml, hown, hts, hK, hN, hs0, hlk, hR1, hR2, hR3, hR4⟩ := F
  intro H locs ls hz hP hS hL h0
  exact lv_astore_n hx hb hd rfl (LR0 hL h0) hk rfl (fun ls' h' => kk H locs ls' hz hP hS (LR1 (v := .inr (some o)) hL hk0 h').1 (LR1 (v := .inr (some o)) hL hk0 h').2)
theorem tL_astore (F : Fx X own cc nL d mc ms) {k : Nat} {o : Nat} (hd : decode cc pc = .ok (.astore k, 2)) (hk : k < nL) (hk0 : k ≠ 0) (kk : GL b0 X nL kc ks n Ly (pc + 2) (lv.set k (some (.inr (some o)))) st I P) : GL b0 X nL kc ks n Ly pc lv (.inr (some o) :: st) I P := by
  obtain ⟨p, l, e, R, s, m, args, below, meth, c, s0, D, DA, Q⟩ := X
  obtain ⟨hx, hb, hml, hown, hts, hK, hN, hs0, hlk, hR1, hR2, hR3, hR4⟩ := F
  intro H locs ls hz hP hS hL h0
  exact lv_astore hx hb hd (LR0 hL h0) hk rfl (fun ls' h' => kk H locs ls' hz hP hS (LR1 (v := .inr (some o)) hL hk0 h').1 (LR1 (v := .inr (some o)) hL hk0 h').2)
theorem tL_iinc (F : Fx X own cc nL d mc ms) {k : Nat} {j : Int} {x v : Int32} (hd : decode cc pc = .ok (.iinc k j, 3)) (hl : lv[k]? = some (some (.inl x))) (hk : k < nL) (hk0 : k ≠ 0) (hv : x + Int32.ofInt j = v) (kk : GL b0 X nL kc ks n Ly (pc + 3) (lv.set k (some (.inl v))) st I P) : GL b0 X nL kc ks n Ly pc lv st I P := by
  obtain ⟨p, l, e, R, s, m, args, below, meth, c, s0, D, DA, Q⟩ := X
  obtain ⟨hx, hb, hml, hown, hts, hK, hN, hs0, hlk, hR1, hR2, hR3, hR4⟩ := F
  intro H locs ls hz hP hS hL h0
  obtain ⟨i, hi⟩ := List.getElem?_of_mem (List.mem_cons_of_mem (0, Value.ref b0) (prs_mem.mpr ⟨_, hl, rfl⟩ : (k, cv s0 (.inl x)) ∈ prs s0 lv))
  exact lv_iinc hx hb hd (LR0 hL h0) hi hv hk rfl (fun ls' h' => kk H locs ls' hz hP hS (LR1 (v := .inl v) hL hk0 h').1 (LR1 (v := .inl v) hL hk0 h').2)
end LAWROWS
/-- the judgement, with or without the script in local 0 -/
def GX (B : Option Nat) (X : Cx) (nL kc ks n : Nat) (Ly : LL) (pc : Nat) (lv : List (Option AV)) (st : List AV) (I : II) (P : PP) : Prop := match B with
  | none => G X nL kc ks n Ly pc lv st I P
  | some b => GL b X nL kc ks n Ly pc lv st I P
theorem GX.weak {B : Option Nat} {X : Cx} {nL kc ks n pc : Nat} {Ly : LL} {a b : List (Option AV)} {st : List AV} {I : II} {P : PP} (hl : leL a b) (h : GX B X nL kc ks n Ly pc a st I P) : GX B X nL kc ks n Ly pc b st I P := by
  cases B with
  | none => exact G.weak hl h
  | some b0 =>
    obtain ⟨p, l, e, R, s, m, args, below, meth, c, s0, D, DA, Q⟩ := X
    intro H locs ls hz hP hS hL h0
    exact h H locs ls hz hP hS (hL.weak hl) h0
/-- every memory with this account, and these m rows of 64 behind the place n0 -/
def GA (B : Option Nat) (X : Cx) (nL kc ks n0 m : Nat) (pc : Nat) (lv : List (Option AV)) (st : List AV) (A : AbS) (q : II) : Prop := ∀ (Ly : LL) (I : II) (P : PP), 134 ≤ n0 → Ac (n0 + m) Ly I P A → (∀ i, i < m → Ly (n0 + i) = .inr (0, 64) ∧ I (n0 + i) = q i) → GX B X nL kc ks (n0 + m) Ly pc lv st I P
theorem GA.weak {B : Option Nat} {X : Cx} {nL kc ks n0 m pc : Nat} {a b : List (Option AV)} {st : List AV} {A : AbS} {q : II} (hl : leL a b) (h : GA B X nL kc ks n0 m pc a st A q) : GA B X nL kc ks n0 m pc b st A q := fun Ly I P h1 hA hq => (h Ly I P h1 hA hq).weak hl
theorem hq_nw {P : PP} {n i : Nat} (h : 22 ≠ n) : hq (nwP P n) i = hq P i := by
  unfold hq
  rw [nwP_n h]
section GAROWS
variable {B : Option Nat} {X : Cx} {own : String} {cc : ByteArray} {nL d mc ms kc ks n0 m pc : Nat} {lv : List (Option AV)} {st st' av : List AV} {A A' : AbS} {q : II} {idx mc' ms' : Nat} {md : MD}
theorem ga_iconst (F : Fx X own cc nL d mc ms) {k : Int} {v : Int32} (hd : decode cc pc = .ok (.iconst k, 1)) (hv : Int32.ofInt k = v) (kk : GA B X nL kc ks n0 m (pc + 1) lv (.inl v :: st) A q) : GA B X nL kc ks n0 m pc lv st A q := fun Ly I P h1 hA hq => by
  cases B with
  | none => exact s_iconst F hd hv (kk Ly I P h1 hA hq)
  | some b0 => exact tL_iconst F hd hv (kk Ly I P h1 hA hq)
theorem ga_bipush (F : Fx X own cc nL d mc ms) {k : Int} {v : Int32} (hd : decode cc pc = .ok (.bipush k, 2)) (hv : (Int8.ofInt k).toInt32 = v) (kk : GA B X nL kc ks n0 m (pc + 2) lv (.inl v :: st) A q) : GA B X nL kc ks n0 m pc lv st A q := fun Ly I P h1 hA hq => by
  cases B with
  | none => exact s_bipush F hd hv (kk Ly I P h1 hA hq)
  | some b0 => exact tL_bipush F hd hv (kk Ly I P h1 hA hq)
theorem ga_sipush (F : Fx X own cc nL d mc ms) {k : Int} {v : Int32} (hd : decode cc pc = .ok (.sipush k, 3)) (hv : (Int16.ofInt k).toInt32 = v) (kk : GA B X nL kc ks n0 m (pc + 3) lv (.inl v :: st) A q) : GA B X nL kc ks n0 m pc lv st A q := fun Ly I P h1 hA hq => by
  cases B with
  | none => exact s_sipush F hd hv (kk Ly I P h1 hA hq)
  | some b0 => exact tL_sipush F hd hv (kk Ly I P h1 hA hq)
theorem ga_iload_n (F : Fx X own cc nL d mc ms) {k : Fin 4} {x : Int32} (hd : decode cc pc = .ok (.iload_n k, 1)) (hl : lv[(k : Nat)]? = some (some (.inl x))) (kk : GA B X nL kc ks n0 m (pc + 1) lv (.inl x :: st) A q) : GA B X nL kc ks n0 m pc lv st A q := fun Ly I P h1 hA hq => by
  cases B with
  | none => exact s_iload_n F hd hl (kk Ly I P h1 hA hq)
  | some b0 => exact tL_iload_n F hd hl (kk Ly I P h1 hA hq)
theorem ga_iload (F : Fx X own cc nL d mc ms) {k : Nat} {x : Int32} (hd : decode cc pc = .ok (.iload k, 2)) (hl : lv[k]? = some (some (.inl x))) (kk : GA B X nL kc ks n0 m (pc + 2) lv (.inl x :: st) A q) : GA B X nL kc ks n0 m pc lv st A q := fun Ly I P h1 hA hq => by
  cases B with
  | none => exact s_iload F hd hl (kk Ly I P h1 hA hq)
  | some b0 => exact tL_iload F hd hl (kk Ly I P h1 hA hq)
theorem ga_aload_n (F : Fx X own cc nL d mc ms) {k : Fin 4} {o : Option Nat} (hd : decode cc pc = .ok (.aload_n k, 1)) (hl : lv[(k : Nat)]? = some (some (.inr o))) (kk : GA B X nL kc ks n0 m (pc + 1) lv (.inr o :: st) A q) : GA B X nL kc ks n0 m pc lv st A q := fun Ly I P h1 hA hq => by
  cases B with
  | none => exact s_aload_n F hd hl (kk Ly I P h1 hA hq)
  | some b0 => exact tL_aload_n F hd hl (kk Ly I P h1 hA hq)
theorem ga_aload (F : Fx X own cc nL d mc ms) {k : Nat} {o : Option Nat} (hd : decode cc pc = .ok (.aload k, 2)) (hl : lv[k]? = some (some (.inr o))) (kk : GA B X nL kc ks n0 m (pc + 2) lv (.inr o :: st) A q) : GA B X nL kc ks n0 m pc lv st A q := fun Ly I P h1 hA hq => by
  cases B with
  | none => exact s_aload F hd hl (kk Ly I P h1 hA hq)
  | some b0 => exact tL_aload F hd hl (kk Ly I P h1 hA hq)
theorem ga_iadd (F : Fx X own cc nL d mc ms) {x y : Int32} (hd : decode cc pc = .ok (.iadd, 1)) (kk : GA B X nL kc ks n0 m (pc + 1) lv (.inl (x + y) :: st) A q) : GA B X nL kc ks n0 m pc lv (.inl y :: .inl x :: st) A q := fun Ly I P h1 hA hq => by
  cases B with
  | none => exact s_iadd F hd (kk Ly I P h1 hA hq)
  | some b0 => exact tL_iadd F hd (kk Ly I P h1 hA hq)
theorem ga_isub (F : Fx X own cc nL d mc ms) {x y : Int32} (hd : decode cc pc = .ok (.isub, 1)) (kk : GA B X nL kc ks n0 m (pc + 1) lv (.inl (x - y) :: st) A q) : GA B X nL kc ks n0 m pc lv (.inl y :: .inl x :: st) A q := fun Ly I P h1 hA hq => by
  cases B with
  | none => exact s_isub F hd (kk Ly I P h1 hA hq)
  | some b0 => exact tL_isub F hd (kk Ly I P h1 hA hq)
theorem ga_imul (F : Fx X own cc nL d mc ms) {x y : Int32} (hd : decode cc pc = .ok (.imul, 1)) (kk : GA B X nL kc ks n0 m (pc + 1) lv (.inl (x * y) :: st) A q) : GA B X nL kc ks n0 m pc lv (.inl y :: .inl x :: st) A q := fun Ly I P h1 hA hq => by
  cases B with
  | none => exact s_imul F hd (kk Ly I P h1 hA hq)
  | some b0 => exact tL_imul F hd (kk Ly I P h1 hA hq)
theorem ga_iand (F : Fx X own cc nL d mc ms) {x y : Int32} (hd : decode cc pc = .ok (.iand, 1)) (kk : GA B X nL kc ks n0 m (pc + 1) lv (.inl (x &&& y) :: st) A q) : GA B X nL kc ks n0 m pc lv (.inl y :: .inl x :: st) A q := fun Ly I P h1 hA hq => by
  cases B with
  | none => exact s_iand F hd (kk Ly I P h1 hA hq)
  | some b0 => exact tL_iand F hd (kk Ly I P h1 hA hq)
theorem ga_ineg (F : Fx X own cc nL d mc ms) {x : Int32} (hd : decode cc pc = .ok (.ineg, 1)) (kk : GA B X nL kc ks n0 m (pc + 1) lv (.inl (-x) :: st) A q) : GA B X nL kc ks n0 m pc lv (.inl x :: st) A q := fun Ly I P h1 hA hq => by
  cases B with
  | none => exact s_ineg F hd (kk Ly I P h1 hA hq)
  | some b0 => exact tL_ineg F hd (kk Ly I P h1 hA hq)
theorem ga_idiv (F : Fx X own cc nL d mc ms) {x y : Int32} (hd : decode cc pc = .ok (.idiv, 1)) (hy : ¬ y = 0) (kk : GA B X nL kc ks n0 m (pc + 1) lv (.inl (x / y) :: st) A q) : GA B X nL kc ks n0 m pc lv (.inl y :: .inl x :: st) A q := fun Ly I P h1 hA hq => by
  cases B with
  | none => exact s_idiv F hd hy (kk Ly I P h1 hA hq)
  | some b0 => exact tL_idiv F hd hy (kk Ly I P h1 hA hq)
theorem ga_irem (F : Fx X own cc nL d mc ms) {x y : Int32} (hd : decode cc pc = .ok (.irem, 1)) (hy : ¬ y = 0) (kk : GA B X nL kc ks n0 m (pc + 1) lv (.inl (x - x / y * y) :: st) A q) : GA B X nL kc ks n0 m pc lv (.inl y :: .inl x :: st) A q := fun Ly I P h1 hA hq => by
  cases B with
  | none => exact s_irem F hd hy (kk Ly I P h1 hA hq)
  | some b0 => exact tL_irem F hd hy (kk Ly I P h1 hA hq)
theorem ga_i2c (F : Fx X own cc nL d mc ms) {x : Int32} (hd : decode cc pc = .ok (.i2c, 1)) (kk : GA B X nL kc ks n0 m (pc + 1) lv (.inl (x.toUInt32 % 65536).toInt32 :: st) A q) : GA B X nL kc ks n0 m pc lv (.inl x :: st) A q := fun Ly I P h1 hA hq => by
  cases B with
  | none => exact s_i2c F hd (kk Ly I P h1 hA hq)
  | some b0 => exact tL_i2c F hd (kk Ly I P h1 hA hq)
theorem ga_dup (F : Fx X own cc nL d mc ms) {a : AV} (hd : decode cc pc = .ok (.dup, 1)) (kk : GA B X nL kc ks n0 m (pc + 1) lv (a :: a :: st) A q) : GA B X nL kc ks n0 m pc lv (a :: st) A q := fun Ly I P h1 hA hq => by
  cases B with
  | none => exact s_dup F hd (kk Ly I P h1 hA hq)
  | some b0 => exact tL_dup F hd (kk Ly I P h1 hA hq)
theorem ga_pop (F : Fx X own cc nL d mc ms) {a : AV} (hd : decode cc pc = .ok (.pop, 1)) (kk : GA B X nL kc ks n0 m (pc + 1) lv st A q) : GA B X nL kc ks n0 m pc lv (a :: st) A q := fun Ly I P h1 hA hq => by
  cases B with
  | none => exact s_pop F hd (kk Ly I P h1 hA hq)
  | some b0 => exact tL_pop F hd (kk Ly I P h1 hA hq)
theorem ga_dup2 (F : Fx X own cc nL d mc ms) {a b : AV} (hd : decode cc pc = .ok (.dup2, 1)) (kk : GA B X nL kc ks n0 m (pc + 1) lv (a :: b :: a :: b :: st) A q) : GA B X nL kc ks n0 m pc lv (a :: b :: st) A q := fun Ly I P h1 hA hq => by
  cases B with
  | none => exact s_dup2 F hd (kk Ly I P h1 hA hq)
  | some b0 => exact tL_dup2 F hd (kk Ly I P h1 hA hq)
theorem ga_if_eq (F : Fx X own cc nL d mc ms) {x : Int32} {off : Int} {tgt : Nat} (hd : decode cc pc = .ok (.ifCond .eq off, 3)) (ht : (pc : Int) + off = (tgt : Int)) (kt : x = 0 → GA B X nL kc ks n0 m tgt lv st A q) (kf : ¬ x = 0 → GA B X nL kc ks n0 m (pc + 3) lv st A q) : GA B X nL kc ks n0 m pc lv (.inl x :: st) A q := fun Ly I P h1 hA hq => by
  cases B with
  | none => exact s_if_eq F hd ht (fun z => kt z Ly I P h1 hA hq) (fun z => kf z Ly I P h1 hA hq)
  | some b0 => exact tL_if_eq F hd ht (fun z => kt z Ly I P h1 hA hq) (fun z => kf z Ly I P h1 hA hq)
theorem ga_if_ne (F : Fx X own cc nL d mc ms) {x : Int32} {off : Int} {tgt : Nat} (hd : decode cc pc = .ok (.ifCond .ne off, 3)) (ht : (pc : Int) + off = (tgt : Int)) (kt : ¬ x = 0 → GA B X nL kc ks n0 m tgt lv st A q) (kf : x = 0 → GA B X nL kc ks n0 m (pc + 3) lv st A q) : GA B X nL kc ks n0 m pc lv (.inl x :: st) A q := fun Ly I P h1 hA hq => by
  cases B with
  | none => exact s_if_ne F hd ht (fun z => kt z Ly I P h1 hA hq) (fun z => kf z Ly I P h1 hA hq)
  | some b0 => exact tL_if_ne F hd ht (fun z => kt z Ly I P h1 hA hq) (fun z => kf z Ly I P h1 hA hq)
theorem ga_if_lt (F : Fx X own cc nL d mc ms) {x : Int32} {off : Int} {tgt : Nat} (hd : decode cc pc = .ok (.ifCond .lt off, 3)) (ht : (pc : Int) + off = (tgt : Int)) (kt : x < 0 → GA B X nL kc ks n0 m tgt lv st A q) (kf : ¬ x < 0 → GA B X nL kc ks n0 m (pc + 3) lv st A q) : GA B X nL kc ks n0 m pc lv (.inl x :: st) A q := fun Ly I P h1 hA hq => by
  cases B with
  | none => exact s_if_lt F hd ht (fun z => kt z Ly I P h1 hA hq) (fun z => kf z Ly I P h1 hA hq)
  | some b0 => exact tL_if_lt F hd ht (fun z => kt z Ly I P h1 hA hq) (fun z => kf z Ly I P h1 hA hq)
theorem ga_if_ge (F : Fx X own cc nL d mc ms) {x : Int32} {off : Int} {tgt : Nat} (hd : decode cc pc = .ok (.ifCond .ge off, 3)) (ht : (pc : Int) + off = (tgt : Int)) (kt : 0 ≤ x → GA B X nL kc ks n0 m tgt lv st A q) (kf : ¬ 0 ≤ x → GA B X nL kc ks n0 m (pc + 3) lv st A q) : GA B X nL kc ks n0 m pc lv (.inl x :: st) A q := fun Ly I P h1 hA hq => by
  cases B with
  | none => exact s_if_ge F hd ht (fun z => kt z Ly I P h1 hA hq) (fun z => kf z Ly I P h1 hA hq)
  | some b0 => exact tL_if_ge F hd ht (fun z => kt z Ly I P h1 hA hq) (fun z => kf z Ly I P h1 hA hq)
theorem ga_if_gt (F : Fx X own cc nL d mc ms) {x : Int32} {off : Int} {tgt : Nat} (hd : decode cc pc = .ok (.ifCond .gt off, 3)) (ht : (pc : Int) + off = (tgt : Int)) (kt : 0 < x → GA B X nL kc ks n0 m tgt lv st A q) (kf : ¬ 0 < x → GA B X nL kc ks n0 m (pc + 3) lv st A q) : GA B X nL kc ks n0 m pc lv (.inl x :: st) A q := fun Ly I P h1 hA hq => by
  cases B with
  | none => exact s_if_gt F hd ht (fun z => kt z Ly I P h1 hA hq) (fun z => kf z Ly I P h1 hA hq)
  | some b0 => exact tL_if_gt F hd ht (fun z => kt z Ly I P h1 hA hq) (fun z => kf z Ly I P h1 hA hq)
theorem ga_if_le (F : Fx X own cc nL d mc ms) {x : Int32} {off : Int} {tgt : Nat} (hd : decode cc pc = .ok (.ifCond .le off, 3)) (ht : (pc : Int) + off = (tgt : Int)) (kt : x ≤ 0 → GA B X nL kc ks n0 m tgt lv st A q) (kf : ¬ x ≤ 0 → GA B X nL kc ks n0 m (pc + 3) lv st A q) : GA B X nL kc ks n0 m pc lv (.inl x :: st) A q := fun Ly I P h1 hA hq => by
  cases B with
  | none => exact s_if_le F hd ht (fun z => kt z Ly I P h1 hA hq) (fun z => kf z Ly I P h1 hA hq)
  | some b0 => exact tL_if_le F hd ht (fun z => kt z Ly I P h1 hA hq) (fun z => kf z Ly I P h1 hA hq)
theorem ga_icmp_eq (F : Fx X own cc nL d mc ms) {x y : Int32} {off : Int} {tgt : Nat} (hd : decode cc pc = .ok (.if_icmp .eq off, 3)) (ht : (pc : Int) + off = (tgt : Int)) (kt : x = y → GA B X nL kc ks n0 m tgt lv st A q) (kf : ¬ x = y → GA B X nL kc ks n0 m (pc + 3) lv st A q) : GA B X nL kc ks n0 m pc lv (.inl y :: .inl x :: st) A q := fun Ly I P h1 hA hq => by
  cases B with
  | none => exact s_icmp_eq F hd ht (fun z => kt z Ly I P h1 hA hq) (fun z => kf z Ly I P h1 hA hq)
  | some b0 => exact tL_icmp_eq F hd ht (fun z => kt z Ly I P h1 hA hq) (fun z => kf z Ly I P h1 hA hq)
theorem ga_icmp_ne (F : Fx X own cc nL d mc ms) {x y : Int32} {off : Int} {tgt : Nat} (hd : decode cc pc = .ok (.if_icmp .ne off, 3)) (ht : (pc : Int) + off = (tgt : Int)) (kt : ¬ x = y → GA B X nL kc ks n0 m tgt lv st A q) (kf : x = y → GA B X nL kc ks n0 m (pc + 3) lv st A q) : GA B X nL kc ks n0 m pc lv (.inl y :: .inl x :: st) A q := fun Ly I P h1 hA hq => by
  cases B with
  | none => exact s_icmp_ne F hd ht (fun z => kt z Ly I P h1 hA hq) (fun z => kf z Ly I P h1 hA hq)
  | some b0 => exact tL_icmp_ne F hd ht (fun z => kt z Ly I P h1 hA hq) (fun z => kf z Ly I P h1 hA hq)
theorem ga_icmp_lt (F : Fx X own cc nL d mc ms) {x y : Int32} {off : Int} {tgt : Nat} (hd : decode cc pc = .ok (.if_icmp .lt off, 3)) (ht : (pc : Int) + off = (tgt : Int)) (kt : x < y → GA B X nL kc ks n0 m tgt lv st A q) (kf : ¬ x < y → GA B X nL kc ks n0 m (pc + 3) lv st A q) : GA B X nL kc ks n0 m pc lv (.inl y :: .inl x :: st) A q := fun Ly I P h1 hA hq => by
  cases B with
  | none => exact s_icmp_lt F hd ht (fun z => kt z Ly I P h1 hA hq) (fun z => kf z Ly I P h1 hA hq)
  | some b0 => exact tL_icmp_lt F hd ht (fun z => kt z Ly I P h1 hA hq) (fun z => kf z Ly I P h1 hA hq)
theorem ga_icmp_ge (F : Fx X own cc nL d mc ms) {x y : Int32} {off : Int} {tgt : Nat} (hd : decode cc pc = .ok (.if_icmp .ge off, 3)) (ht : (pc : Int) + off = (tgt : Int)) (kt : y ≤ x → GA B X nL kc ks n0 m tgt lv st A q) (kf : ¬ y ≤ x → GA B X nL kc ks n0 m (pc + 3) lv st A q) : GA B X nL kc ks n0 m pc lv (.inl y :: .inl x :: st) A q := fun Ly I P h1 hA hq => by
  cases B with
  | none => exact s_icmp_ge F hd ht (fun z => kt z Ly I P h1 hA hq) (fun z => kf z Ly I P h1 hA hq)
  | some b0 => exact tL_icmp_ge F hd ht (fun z => kt z Ly I P h1 hA hq) (fun z => kf z Ly I P h1 hA hq)
theorem ga_icmp_gt (F : Fx X own cc nL d mc ms) {x y : Int32} {off : Int} {tgt : Nat} (hd : decode cc pc = .ok (.if_icmp .gt off, 3)) (ht : (pc : Int) + off = (tgt : Int)) (kt : y < x → GA B X nL kc ks n0 m tgt lv st A q) (kf : ¬ y < x → GA B X nL kc ks n0 m (pc + 3) lv st A q) : GA B X nL kc ks n0 m pc lv (.inl y :: .inl x :: st) A q := fun Ly I P h1 hA hq => by
  cases B with
  | none => exact s_icmp_gt F hd ht (fun z => kt z Ly I P h1 hA hq) (fun z => kf z Ly I P h1 hA hq)
  | some b0 => exact tL_icmp_gt F hd ht (fun z => kt z Ly I P h1 hA hq) (fun z => kf z Ly I P h1 hA hq)
theorem ga_icmp_le (F : Fx X own cc nL d mc ms) {x y : Int32} {off : Int} {tgt : Nat} (hd : decode cc pc = .ok (.if_icmp .le off, 3)) (ht : (pc : Int) + off = (tgt : Int)) (kt : x ≤ y → GA B X nL kc ks n0 m tgt lv st A q) (kf : ¬ x ≤ y → GA B X nL kc ks n0 m (pc + 3) lv st A q) : GA B X nL kc ks n0 m pc lv (.inl y :: .inl x :: st) A q := fun Ly I P h1 hA hq => by
  cases B with
  | none => exact s_icmp_le F hd ht (fun z => kt z Ly I P h1 hA hq) (fun z => kf z Ly I P h1 hA hq)
  | some b0 => exact tL_icmp_le F hd ht (fun z => kt z Ly I P h1 hA hq) (fun z => kf z Ly I P h1 hA hq)
theorem ga_goto (F : Fx X own cc nL d mc ms) {off : Int} {tgt : Nat} (hd : decode cc pc = .ok (.goto off, 3)) (ht : (pc : Int) + off = (tgt : Int)) (kk : GA B X nL kc ks n0 m tgt lv st A q) : GA B X nL kc ks n0 m pc lv st A q := fun Ly I P h1 hA hq => by
  cases B with
  | none => exact s_goto F hd ht (kk Ly I P h1 hA hq)
  | some b0 => exact tL_goto F hd ht (kk Ly I P h1 hA hq)
theorem ga_ishr (F : Fx X own cc nL d mc ms) {x y : Int32} (hd : decode cc pc = .ok (.ishr, 1)) (kk : GA B X nL kc ks n0 m (pc + 1) lv (.inl (x >>> (y &&& 31)) :: st) A q) : GA B X nL kc ks n0 m pc lv (.inl y :: .inl x :: st) A q := fun Ly I P h1 hA hq => by
  cases B with
  | none => exact s_ishr F hd (kk Ly I P h1 hA hq)
  | some b0 => exact tL_ishr F hd (kk Ly I P h1 hA hq)
theorem ga_ldc (F : Fx X own cc nL d mc ms) {idx : Nat} {v : Int32} (hd : decode cc pc = .ok (.ldc idx, 2)) (hk : Cond.constant own idx v ∈ tg) (kk : GA B X nL kc ks n0 m (pc + 2) lv (.inl v :: st) A q) : GA B X nL kc ks n0 m pc lv st A q := fun Ly I P h1 hA hq => by
  cases B with
  | none => exact s_ldc F hd hk (kk Ly I P h1 hA hq)
  | some b0 => exact tL_ldc F hd hk (kk Ly I P h1 hA hq)
theorem ga_istore_n (F : Fx X own cc nL d mc ms) {k : Fin 4} {x : Int32} (hd : decode cc pc = .ok (.istore_n k, 1)) (hk : (k : Nat) < nL) (hk0 : (k : Nat) ≠ 0) (kk : GA B X nL kc ks n0 m (pc + 1) (lv.set (k : Nat) (some (.inl x))) st A q) : GA B X nL kc ks n0 m pc lv (.inl x :: st) A q := fun Ly I P h1 hA hq => by
  cases B with
  | none => exact s_istore_n F hd hk (kk Ly I P h1 hA hq)
  | some b0 => exact tL_istore_n F hd hk hk0 (kk Ly I P h1 hA hq)
theorem ga_istore (F : Fx X own cc nL d mc ms) {k : Nat} {x : Int32} (hd : decode cc pc = .ok (.istore k, 2)) (hk : k < nL) (hk0 : k ≠ 0) (kk : GA B X nL kc ks n0 m (pc + 2) (lv.set k (some (.inl x))) st A q) : GA B X nL kc ks n0 m pc lv (.inl x :: st) A q := fun Ly I P h1 hA hq => by
  cases B with
  | none => exact s_istore F hd hk (kk Ly I P h1 hA hq)
  | some b0 => exact tL_istore F hd hk hk0 (kk Ly I P h1 hA hq)
theorem ga_astore_n (F : Fx X own cc nL d mc ms) {k : Fin 4} {o : Nat} (hd : decode cc pc = .ok (.astore_n k, 1)) (hk : (k : Nat) < nL) (hk0 : (k : Nat) ≠ 0) (kk : GA B X nL kc ks n0 m (pc + 1) (lv.set (k : Nat) (some (.inr (some o)))) st A q) : GA B X nL kc ks n0 m pc lv (.inr (some o) :: st) A q := fun Ly I P h1 hA hq => by
  cases B with
  | none => exact s_astore_n F hd hk (kk Ly I P h1 hA hq)
  | some b0 => exact tL_astore_n F hd hk hk0 (kk Ly I P h1 hA hq)
theorem ga_astore (F : Fx X own cc nL d mc ms) {k : Nat} {o : Nat} (hd : decode cc pc = .ok (.astore k, 2)) (hk : k < nL) (hk0 : k ≠ 0) (kk : GA B X nL kc ks n0 m (pc + 2) (lv.set k (some (.inr (some o)))) st A q) : GA B X nL kc ks n0 m pc lv (.inr (some o) :: st) A q := fun Ly I P h1 hA hq => by
  cases B with
  | none => exact s_astore F hd hk (kk Ly I P h1 hA hq)
  | some b0 => exact tL_astore F hd hk hk0 (kk Ly I P h1 hA hq)
theorem ga_inc (F : Fx X own cc nL d mc ms) {k : Nat} {j : Int} {x c : Int32} (hd : decode cc pc = .ok (.iinc k j, 3)) (hl : lv[k]? = some (some (.inl x))) (hk : k < nL) (hk0 : k ≠ 0) (hc : Int32.ofInt j = c) (kk : GA B X nL kc ks n0 m (pc + 3) (lv.set k (some (.inl (x + c)))) st A q) : GA B X nL kc ks n0 m pc lv st A q := fun Ly I P h1 hA hq => by
  cases B with
  | none => exact s_iinc F hd hl hk (by rw [hc]) (kk Ly I P h1 hA hq)
  | some b0 => exact tL_iinc F hd hl hk hk0 (by rw [hc]) (kk Ly I P h1 hA hq)
theorem ga_rem (F : Fx X own cc nL d mc ms) {x y : Int32} (hd : decode cc pc = .ok (.irem, 1)) (hy : ¬ y = 0) (kk : GA B X nL kc ks n0 m (pc + 1) lv (.inl (rm x y) :: st) A q) : GA B X nL kc ks n0 m pc lv (.inl y :: .inl x :: st) A q := ga_irem F hd hy kk
theorem ga_c16 (F : Fx X own cc nL d mc ms) {x : Int32} (hd : decode cc pc = .ok (.i2c, 1)) (kk : GA B X nL kc ks n0 m (pc + 1) lv (.inl (c16 x) :: st) A q) : GA B X nL kc ks n0 m pc lv (.inl x :: st) A q := ga_i2c F hd kk
theorem Ac.out {n a k : Nat} {v : Int32} {Ly : LL} {I : II} {P : PP} (h : Ac n Ly I P A) (ha : 134 ≤ a) : Ac n Ly (up2 I a k v) P A := ⟨h.1, h.2.1, h.2.2.1, h.2.2.2.fr h.2.2.1 (fun b hb => up2_n (by omega))⟩
theorem ga_iald (F : Fx X own cc nL d mc ms) {i : Nat} {x : Int32} (hd : decode cc pc = .ok (.iaload, 1)) (hi : i < m) (hin : vp_in x 64) (kk : GA B X nL kc ks n0 m (pc + 1) lv (.inl (q i x.toNatClampNeg) :: st) A q) : GA B X nL kc ks n0 m pc lv (.inl x :: .inr (some (n0 + i)) :: st) A q := fun Ly I P h1 hA hq => by
  have e := kk Ly I P h1 hA hq
  rw [← (hq i hi).2] at e
  cases B with
  | none => exact s_iald F hd (hq i hi).1 (by omega) hin e
  | some b0 => exact tL_iald F hd (hq i hi).1 (by omega) hin e
theorem ga_iast (F : Fx X own cc nL d mc ms) {i : Nat} {x v : Int32} (hd : decode cc pc = .ok (.iastore, 1)) (hi : i < m) (hin : vp_in x 64) (kk : GA B X nL kc ks n0 m (pc + 1) lv st A (up2 q i x.toNatClampNeg v)) : GA B X nL kc ks n0 m pc lv (.inl v :: .inl x :: .inr (some (n0 + i)) :: st) A q := fun Ly I P h1 hA hq => by
  have e := kk Ly (up2 I (n0 + i) x.toNatClampNeg v) P h1 (hA.out (by omega)) (fun j hj => ⟨(hq j hj).1, by
    funext y
    by_cases z : j = i
    · rw [z, up2_at, up2_at, (hq i hi).2]
    · rw [up2_n (by omega), up2_n z, (hq j hj).2]⟩)
  cases B with
  | none => exact s_iast F hd (hq i hi).1 (by omega) hin e
  | some b0 => exact tL_iast F hd (hq i hi).1 (by omega) hin e
theorem ga_newa (F : Fx X own cc nL d mc ms) {x : Int32} (hB : B = none) (hd : decode cc pc = .ok (.newarray .int, 2)) (hx : x = 64) (hmc : kc + 1 ≤ mc) (hms : ks + 64 ≤ ms) (kk : GA B X nL (kc + 1) (ks + 64) n0 (m + 1) (pc + 2) lv (.inr (some (n0 + m)) :: st) A (nwI q m)) : GA B X nL kc ks n0 m pc lv (.inl x :: st) A q := fun Ly I P h1 hA hq => by
  subst hB
  subst hx
  refine s_newa (t := 0) (len := 64) (ty := .int) F hd rfl rfl (by decide) (fun _ => rfl) ac_int (fun C h => by cases h) (by decide) (by decide) (by decide) hmc hms ?_
  refine kk (upL Ly (n0 + m) (.inr (0, 64))) (nwI I (n0 + m)) (nwP P (n0 + m)) h1 ?_ (fun i hi => ?_)
  · obtain ⟨a1, a2, a3, a4⟩ := hA
    refine ⟨by omega, fun k hk => ?_, a3, ?_⟩
    · rw [upL_n (by omega)]; exact a2 k hk
    · have b := a4.fr a3 (I' := nwI I (n0 + m)) (fun a ha => nwI_n (by omega))
      obtain ⟨b1, ⟨⟨c1, c2, c3⟩, b2, b3⟩, b4⟩ := b
      have e' := fun i => hq_nw (P := P) (n := n0 + m) (i := i) (by omega)
      refine ⟨b1, ⟨⟨fun i hi => by rw [e']; exact c1 i hi, fun i j hi hj z => c2 i j hi hj (by rw [← e' i, ← e' j]; exact z), PC_of2 c3 (fun i hi => by rw [e']; exact c1 i hi) (fun a ha _ => nwP_n (by omega))⟩, b2, fun i hi => by rw [e']; exact b3 i hi⟩, b4⟩
  · by_cases z : i = m
    · subst z
      exact ⟨upL_a, by funext y; rw [nwI_a, nwI_a]⟩
    · rw [upL_n (by omega), nwI_n (by omega), nwI_n z]
      exact hq i (by omega)
/-- a call of the class's, in the account's words -/
def AC (md : MD) (av : List AV) (A : AbS) (v : Int32) (A' : AbS) : Prop := ∀ (n : Nat) (Ly : LL) (I : II) (P : PP), Ac n Ly I P A → ∃ (I1 : II) (P1 : PP), (∀ (l : Launch) (s0 : Nat) (D : va_G) (DA : Nat → ClassId), Ct l s0 D DA md (.inr (some 0) :: av) 0 0 n Ly I P (PoD (some (.inl v)) n Ly I1 P1)) ∧ Ac n Ly I1 P1 A' ∧ ∀ a, 134 ≤ a → I1 a = I a
theorem ga_call (F : Fx X own cc nL d mc ms) {v : Int32} (hd : decode cc pc = .ok (.invokevirtual idx, 3)) (hC : AC md av A v A') (hk : LV own idx md) (hm : MDok md av.length) (hcls : md.1.cls = RF 8) (hst : st' = av.reverse ++ .inr (some 0) :: st) (hlen : st.length ≤ 8) (hdp : md.2.2.2.2 + 1 ≤ d) (hkc : kc ≤ mc) (hks : ks ≤ ms) (kk : GA B X nL kc ks n0 m (pc + 3) lv (.inl v :: st) A' q) : GA B X nL kc ks n0 m pc lv st' A q := fun Ly I P h1 hA hq => by
  obtain ⟨I1, P1, hc, hA1, hf⟩ := hC _ Ly I P hA
  have e := kk Ly I1 P1 h1 hA1 (fun i hi => ⟨(hq i hi).1, by rw [hf _ (by omega)]; exact (hq i hi).2⟩)
  cases B with
  | none => exact s_callV (mc' := 0) (ms' := 0) F hd hc hk hm (by decide) (ly0 hA.sh) (lt0 hA.sh) hcls hst hlen hdp hkc hks (fun _ _ _ _ _ h => h.2.1) (fun r n' Ly' I' P' h => by obtain ⟨rfl, rfl, rfl, rfl, rfl⟩ := h; exact e)
  | some b0 => exact tL_callV (mc' := 0) (ms' := 0) F hd hc hk hm (by decide) (ly0 hA.sh) (lt0 hA.sh) hcls hst hlen hdp hkc hks (fun _ _ _ _ _ h => h.2.1) (fun r n' Ly' I' P' h => by obtain ⟨rfl, rfl, rfl, rfl, rfl⟩ := h; exact e)
/-- a call of the law's own, which may leave k objects of s slots behind -/
def AL (md : MD) (av : List AV) (k s : Nat) (A : AbS) (v : Int32) (A' : AbS) : Prop := ∀ (n : Nat) (Ly : LL) (I : II) (P : PP), Ac n Ly I P A → ∀ (l : Launch) (s0 : Nat) (D : va_G) (DA : Nat → ClassId), Ct l s0 D DA md av k s n Ly I P (fun r n' Ly' I' P' => r = some (.inl v) ∧ n' = n + k ∧ Ac n' Ly' I' P' A')
theorem ga_callL (F : Fx X own cc nL d mc ms) {v : Int32} {k s : Nat} (hd : decode cc pc = .ok (.invokestatic idx, 3)) (hC : AL md av k s A v A') (hk : LT own idx md) (hm : MDok md av.length) (hst : st' = av.reverse ++ st) (hlen : st.length ≤ 8) (hdp : md.2.2.2.2 + 1 ≤ d) (hkc : kc + k ≤ mc) (hks : ks + s ≤ ms) (kk : GA B X nL (kc + k) (ks + s) (n0 + k) 0 (pc + 3) lv (.inl v :: st) A' q) : GA B X nL kc ks n0 0 pc lv st' A q := fun Ly I P h1 hA hq => by
  have e : ∀ (r : Option AV) (n' : Nat) (Ly' : LL) (I' : II) (P' : PP), (r = some (.inl v) ∧ n' = n0 + 0 + k ∧ Ac n' Ly' I' P' A') → GX B X nL (kc + k) (ks + s) n' Ly' (pc + 3) lv (r.toList ++ st) I' P' := fun r n' Ly' I' P' h => by
    obtain ⟨rfl, rfl, hA1⟩ := h
    exact kk Ly' I' P' (by omega) hA1 (fun i hi => absurd hi (by omega))
  cases B with
  | none => exact s_callS (mc' := k) (ms' := s) F hd (hC _ Ly I P hA) hk hm hst hlen hdp hkc hks (fun _ _ _ _ _ h => h.2.1) e
  | some b0 => exact tL_callS (mc' := k) (ms' := s) F hd (hC _ Ly I P hA) hk hm hst hlen hdp hkc hks (fun _ _ _ _ _ h => h.2.1) e
theorem ga_callL0 (F : Fx X own cc nL d mc ms) {v : Int32} (hd : decode cc pc = .ok (.invokestatic idx, 3)) (hC : AL md av 0 0 A v A') (hk : LT own idx md) (hm : MDok md av.length) (hst : st' = av.reverse ++ st) (hlen : st.length ≤ 8) (hdp : md.2.2.2.2 + 1 ≤ d) (hkc : kc ≤ mc) (hks : ks ≤ ms) (kk : GA B X nL kc ks n0 0 (pc + 3) lv (.inl v :: st) A' q) : GA B X nL kc ks n0 0 pc lv st' A q := ga_callL (k := 0) (s := 0) F hd hC hk hm hst hlen hdp hkc hks kk
theorem ga_iret (F : Fx X own cc nL d mc ms) {ty : FieldType} {Po : PQ} (hB : B = none) (hr : Fr X (some ty) Po mc ms) {v : Int32} (hd : decode cc pc = .ok (.ireturn, 1)) (hn : narrow ty (.int v) = .int v) (hkc : kc ≤ mc) (hks : ks ≤ ms) (hpo : ∀ (Ly : LL) (I : II) (P : PP), Ac (n0 + m) Ly I P A → Po (some (.inl v)) (n0 + m) Ly I P) : GA B X nL kc ks n0 m pc lv [.inl v] A q := fun Ly I P h1 hA hq => by
  subst hB
  exact s_iret F hr hd hn hkc hks (hpo Ly I P hA)
end GAROWS
/-- a contract of a method of the law's from its walk -/
theorem al_of {md : MD} {av : List AV} {k s : Nat} {A A' : AbS} {v : Int32} (hp : plainName md.1.cls = true) (hav : av.length ≤ md.2.2.1) (hni : md.1.name ≠ "<init>") (body : ∀ (X : Cx) (n : Nat) (q : II) (Po : PQ), Fx X md.1.cls md.2.1 md.2.2.1 md.2.2.2.2 k s → Fr X md.2.2.2.1 Po k s → (∀ (n' : Nat) (Ly : LL) (I : II) (P : PP), n' = n + k → Ac n' Ly I P A' → Po (some (.inl v)) n' Ly I P) → GA none X md.2.2.1 0 0 n 0 0 (av.map some ++ List.replicate (md.2.2.1 - av.length) none) [] A q) : AL md av k s A v A' := by
  obtain ⟨y, cc, mL, rt, dp⟩ := md
  intro n Ly I P hA l s0 D DA
  refine ct_of hp hav (fun X F hr _ => ?_)
  exact body X n (fun _ _ => 0) _ F hr (fun n' Ly' I' P' h1 h2 => ⟨rfl, h1, h2⟩) Ly I P hA.1 hA (fun i hi => absurd hi (by omega))
