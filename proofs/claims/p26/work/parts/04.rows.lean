theorem upP_n {P : PP} {a k b : Nat} {v : Option Nat} (h : b ≠ a) : upP P a k v b = P b := by simp [upP, h]
theorem rv_ok {s0 ci k : Nat} {o : Option Nat} (h : isR ci k = true) : narrow (tyF ci k) (rv s0 o) = rv s0 o ∧ fits (tyF ci k) (rv s0 o) = true := by
  unfold isR at h
  cases ht : tyF ci k <;> rw [ht] at h <;> first | (exact absurd h (by decide)) | (cases o <;> exact ⟨rfl, rfl⟩)
def LC (own : String) (idx : Nat) : Prop := Cond.methodLink own idx arraycopyName ∈ tg ∧ Cond.native arraycopyName ∈ tg ∧ Cond.static arraycopyName ∈ tg ∧ Cond.initialized "java/lang/System" ∈ tg
def LM (own : String) (idx : Nat) (y : MethodName) (code : ByteArray) : Prop := Cond.methodLink own idx y ∈ tg ∧ Cond.static y ∈ tg ∧ Cond.initialized "java/lang/Math" ∈ tg ∧ Cond.code y code 2 (some .int) ∈ tg
section ROWS
variable {X : Cx} {own : String} {cc : ByteArray} {nL d mc ms kc ks n pc : Nat} {Ly : LL} {lv : List (Option AV)} {st : List AV} {I : II} {P : PP}
theorem s_iconst (F : Fx X own cc nL d mc ms) {k : Int} {v : Int32} (hd : decode cc pc = .ok (.iconst k, 1)) (hv : Int32.ofInt k = v) (kk : G X nL kc ks n Ly (pc + 1) lv (.inl v :: st) I P) : G X nL kc ks n Ly pc lv st I P := by
  obtain ⟨p, l, e, R, s, m, args, below, meth, c, s0, D, DA, Q⟩ := X
  obtain ⟨hx, hb, hml, hown, hts, hK, hN, hs0, hlk, hR1, hR2, hR3, hR4⟩ := F
  intro H locs ls hz hP hS hL
  exact lv_iconst hx hb hd hv (kk H locs ls hz hP hS hL)
theorem s_bipush (F : Fx X own cc nL d mc ms) {k : Int} {v : Int32} (hd : decode cc pc = .ok (.bipush k, 2)) (hv : (Int8.ofInt k).toInt32 = v) (kk : G X nL kc ks n Ly (pc + 2) lv (.inl v :: st) I P) : G X nL kc ks n Ly pc lv st I P := by
  obtain ⟨p, l, e, R, s, m, args, below, meth, c, s0, D, DA, Q⟩ := X
  obtain ⟨hx, hb, hml, hown, hts, hK, hN, hs0, hlk, hR1, hR2, hR3, hR4⟩ := F
  intro H locs ls hz hP hS hL
  exact lv_bipush hx hb hd hv (kk H locs ls hz hP hS hL)
theorem s_sipush (F : Fx X own cc nL d mc ms) {k : Int} {v : Int32} (hd : decode cc pc = .ok (.sipush k, 3)) (hv : (Int16.ofInt k).toInt32 = v) (kk : G X nL kc ks n Ly (pc + 3) lv (.inl v :: st) I P) : G X nL kc ks n Ly pc lv st I P := by
  obtain ⟨p, l, e, R, s, m, args, below, meth, c, s0, D, DA, Q⟩ := X
  obtain ⟨hx, hb, hml, hown, hts, hK, hN, hs0, hlk, hR1, hR2, hR3, hR4⟩ := F
  intro H locs ls hz hP hS hL
  exact lv_sipush hx hb hd hv (kk H locs ls hz hP hS hL)
theorem s_null (F : Fx X own cc nL d mc ms) (hd : decode cc pc = .ok (.aconst_null, 1)) (kk : G X nL kc ks n Ly (pc + 1) lv (.inr none :: st) I P) : G X nL kc ks n Ly pc lv st I P := by
  obtain ⟨p, l, e, R, s, m, args, below, meth, c, s0, D, DA, Q⟩ := X
  obtain ⟨hx, hb, hml, hown, hts, hK, hN, hs0, hlk, hR1, hR2, hR3, hR4⟩ := F
  intro H locs ls hz hP hS hL
  exact lv_null hx hb hd (kk H locs ls hz hP hS hL)
theorem s_iload_n (F : Fx X own cc nL d mc ms) {k : Fin 4} {x : Int32} (hd : decode cc pc = .ok (.iload_n k, 1)) (hl : lv[(k : Nat)]? = some (some (.inl x))) (kk : G X nL kc ks n Ly (pc + 1) lv (.inl x :: st) I P) : G X nL kc ks n Ly pc lv st I P := by
  obtain ⟨p, l, e, R, s, m, args, below, meth, c, s0, D, DA, Q⟩ := X
  obtain ⟨hx, hb, hml, hown, hts, hK, hN, hs0, hlk, hR1, hR2, hR3, hR4⟩ := F
  intro H locs ls hz hP hS hL
  exact lv_iload_n hx hb hd rfl (hL.2.2 _ _ hl) (kk H locs ls hz hP hS hL)
theorem s_iload (F : Fx X own cc nL d mc ms) {k : Nat} {x : Int32} (hd : decode cc pc = .ok (.iload k, 2)) (hl : lv[k]? = some (some (.inl x))) (kk : G X nL kc ks n Ly (pc + 2) lv (.inl x :: st) I P) : G X nL kc ks n Ly pc lv st I P := by
  obtain ⟨p, l, e, R, s, m, args, below, meth, c, s0, D, DA, Q⟩ := X
  obtain ⟨hx, hb, hml, hown, hts, hK, hN, hs0, hlk, hR1, hR2, hR3, hR4⟩ := F
  intro H locs ls hz hP hS hL
  exact lv_iload hx hb hd (hL.2.2 _ _ hl) (kk H locs ls hz hP hS hL)
theorem s_aload_n (F : Fx X own cc nL d mc ms) {k : Fin 4} {o : Option Nat} (hd : decode cc pc = .ok (.aload_n k, 1)) (hl : lv[(k : Nat)]? = some (some (.inr o))) (kk : G X nL kc ks n Ly (pc + 1) lv (.inr o :: st) I P) : G X nL kc ks n Ly pc lv st I P := by
  obtain ⟨p, l, e, R, s, m, args, below, meth, c, s0, D, DA, Q⟩ := X
  obtain ⟨hx, hb, hml, hown, hts, hK, hN, hs0, hlk, hR1, hR2, hR3, hR4⟩ := F
  intro H locs ls hz hP hS hL
  cases o with
  | none => exact lv_aload_nN hx hb hd rfl (hL.2.2 _ _ hl) (kk H locs ls hz hP hS hL)
  | some b => exact lv_aload_n hx hb hd rfl (hL.2.2 _ _ hl) (kk H locs ls hz hP hS hL)
theorem s_aload (F : Fx X own cc nL d mc ms) {k : Nat} {o : Option Nat} (hd : decode cc pc = .ok (.aload k, 2)) (hl : lv[k]? = some (some (.inr o))) (kk : G X nL kc ks n Ly (pc + 2) lv (.inr o :: st) I P) : G X nL kc ks n Ly pc lv st I P := by
  obtain ⟨p, l, e, R, s, m, args, below, meth, c, s0, D, DA, Q⟩ := X
  obtain ⟨hx, hb, hml, hown, hts, hK, hN, hs0, hlk, hR1, hR2, hR3, hR4⟩ := F
  intro H locs ls hz hP hS hL
  cases o with
  | none => exact lv_aloadN hx hb hd (hL.2.2 _ _ hl) (kk H locs ls hz hP hS hL)
  | some b => exact lv_aload hx hb hd (hL.2.2 _ _ hl) (kk H locs ls hz hP hS hL)
theorem s_istore_n (F : Fx X own cc nL d mc ms) {k : Fin 4} {x : Int32} (hd : decode cc pc = .ok (.istore_n k, 1)) (hk : (k : Nat) < nL) (kk : G X nL kc ks n Ly (pc + 1) (lv.set (k : Nat) (some (.inl x))) st I P) : G X nL kc ks n Ly pc lv (.inl x :: st) I P := by
  obtain ⟨p, l, e, R, s, m, args, below, meth, c, s0, D, DA, Q⟩ := X
  obtain ⟨hx, hb, hml, hown, hts, hK, hN, hs0, hlk, hR1, hR2, hR3, hR4⟩ := F
  intro H locs ls hz hP hS hL
  exact lv_istore_n hx hb hd rfl hL.has hk rfl (fun ls' h' => kk H locs ls' hz hP hS (LR.of (v := .inl x) hL h'))
theorem s_istore (F : Fx X own cc nL d mc ms) {k : Nat} {x : Int32} (hd : decode cc pc = .ok (.istore k, 2)) (hk : k < nL) (kk : G X nL kc ks n Ly (pc + 2) (lv.set k (some (.inl x))) st I P) : G X nL kc ks n Ly pc lv (.inl x :: st) I P := by
  obtain ⟨p, l, e, R, s, m, args, below, meth, c, s0, D, DA, Q⟩ := X
  obtain ⟨hx, hb, hml, hown, hts, hK, hN, hs0, hlk, hR1, hR2, hR3, hR4⟩ := F
  intro H locs ls hz hP hS hL
  exact lv_istore hx hb hd hL.has hk rfl (fun ls' h' => kk H locs ls' hz hP hS (LR.of (v := .inl x) hL h'))
theorem s_astore_n (F : Fx X own cc nL d mc ms) {k : Fin 4} {o : Option Nat} (hd : decode cc pc = .ok (.astore_n k, 1)) (hk : (k : Nat) < nL) (kk : G X nL kc ks n Ly (pc + 1) (lv.set (k : Nat) (some (.inr o))) st I P) : G X nL kc ks n Ly pc lv (.inr o :: st) I P := by
  obtain ⟨p, l, e, R, s, m, args, below, meth, c, s0, D, DA, Q⟩ := X
  obtain ⟨hx, hb, hml, hown, hts, hK, hN, hs0, hlk, hR1, hR2, hR3, hR4⟩ := F
  intro H locs ls hz hP hS hL
  cases o with
  | none => exact lv_astore_nN hx hb hd rfl hL.has hk rfl (fun ls' h' => kk H locs ls' hz hP hS (LR.of (v := .inr none) hL h'))
  | some b => exact lv_astore_n hx hb hd rfl hL.has hk rfl (fun ls' h' => kk H locs ls' hz hP hS (LR.of (v := .inr (some b)) hL h'))
theorem s_astore (F : Fx X own cc nL d mc ms) {k : Nat} {o : Option Nat} (hd : decode cc pc = .ok (.astore k, 2)) (hk : k < nL) (kk : G X nL kc ks n Ly (pc + 2) (lv.set k (some (.inr o))) st I P) : G X nL kc ks n Ly pc lv (.inr o :: st) I P := by
  obtain ⟨p, l, e, R, s, m, args, below, meth, c, s0, D, DA, Q⟩ := X
  obtain ⟨hx, hb, hml, hown, hts, hK, hN, hs0, hlk, hR1, hR2, hR3, hR4⟩ := F
  intro H locs ls hz hP hS hL
  cases o with
  | none => exact lv_astoreN hx hb hd hL.has hk rfl (fun ls' h' => kk H locs ls' hz hP hS (LR.of (v := .inr none) hL h'))
  | some b => exact lv_astore hx hb hd hL.has hk rfl (fun ls' h' => kk H locs ls' hz hP hS (LR.of (v := .inr (some b)) hL h'))
theorem s_iinc (F : Fx X own cc nL d mc ms) {k : Nat} {j : Int} {x v : Int32} (hd : decode cc pc = .ok (.iinc k j, 3)) (hl : lv[k]? = some (some (.inl x))) (hk : k < nL) (hv : x + Int32.ofInt j = v) (kk : G X nL kc ks n Ly (pc + 3) (lv.set k (some (.inl v))) st I P) : G X nL kc ks n Ly pc lv st I P := by
  obtain ⟨p, l, e, R, s, m, args, below, meth, c, s0, D, DA, Q⟩ := X
  obtain ⟨hx, hb, hml, hown, hts, hK, hN, hs0, hlk, hR1, hR2, hR3, hR4⟩ := F
  intro H locs ls hz hP hS hL
  obtain ⟨i, hi⟩ := List.getElem?_of_mem (prs_mem.mpr ⟨_, hl, rfl⟩ : (k, cv s0 (.inl x)) ∈ prs s0 lv)
  exact lv_iinc hx hb hd hL.has hi hv hk rfl (fun ls' h' => kk H locs ls' hz hP hS (LR.of (v := .inl v) hL h'))
theorem s_iadd (F : Fx X own cc nL d mc ms) {x y : Int32} (hd : decode cc pc = .ok (.iadd, 1)) (kk : G X nL kc ks n Ly (pc + 1) lv (.inl (x + y) :: st) I P) : G X nL kc ks n Ly pc lv (.inl y :: .inl x :: st) I P := by
  obtain ⟨p, l, e, R, s, m, args, below, meth, c, s0, D, DA, Q⟩ := X
  obtain ⟨hx, hb, hml, hown, hts, hK, hN, hs0, hlk, hR1, hR2, hR3, hR4⟩ := F
  intro H locs ls hz hP hS hL
  exact lv_iadd hx hb hd (kk H locs ls hz hP hS hL)
theorem s_isub (F : Fx X own cc nL d mc ms) {x y : Int32} (hd : decode cc pc = .ok (.isub, 1)) (kk : G X nL kc ks n Ly (pc + 1) lv (.inl (x - y) :: st) I P) : G X nL kc ks n Ly pc lv (.inl y :: .inl x :: st) I P := by
  obtain ⟨p, l, e, R, s, m, args, below, meth, c, s0, D, DA, Q⟩ := X
  obtain ⟨hx, hb, hml, hown, hts, hK, hN, hs0, hlk, hR1, hR2, hR3, hR4⟩ := F
  intro H locs ls hz hP hS hL
  exact lv_isub hx hb hd (kk H locs ls hz hP hS hL)
theorem s_imul (F : Fx X own cc nL d mc ms) {x y : Int32} (hd : decode cc pc = .ok (.imul, 1)) (kk : G X nL kc ks n Ly (pc + 1) lv (.inl (x * y) :: st) I P) : G X nL kc ks n Ly pc lv (.inl y :: .inl x :: st) I P := by
  obtain ⟨p, l, e, R, s, m, args, below, meth, c, s0, D, DA, Q⟩ := X
  obtain ⟨hx, hb, hml, hown, hts, hK, hN, hs0, hlk, hR1, hR2, hR3, hR4⟩ := F
  intro H locs ls hz hP hS hL
  exact lv_imul hx hb hd (kk H locs ls hz hP hS hL)
theorem s_iand (F : Fx X own cc nL d mc ms) {x y : Int32} (hd : decode cc pc = .ok (.iand, 1)) (kk : G X nL kc ks n Ly (pc + 1) lv (.inl (x &&& y) :: st) I P) : G X nL kc ks n Ly pc lv (.inl y :: .inl x :: st) I P := by
  obtain ⟨p, l, e, R, s, m, args, below, meth, c, s0, D, DA, Q⟩ := X
  obtain ⟨hx, hb, hml, hown, hts, hK, hN, hs0, hlk, hR1, hR2, hR3, hR4⟩ := F
  intro H locs ls hz hP hS hL
  exact lv_iand hx hb hd (kk H locs ls hz hP hS hL)
theorem s_ineg (F : Fx X own cc nL d mc ms) {x : Int32} (hd : decode cc pc = .ok (.ineg, 1)) (kk : G X nL kc ks n Ly (pc + 1) lv (.inl (-x) :: st) I P) : G X nL kc ks n Ly pc lv (.inl x :: st) I P := by
  obtain ⟨p, l, e, R, s, m, args, below, meth, c, s0, D, DA, Q⟩ := X
  obtain ⟨hx, hb, hml, hown, hts, hK, hN, hs0, hlk, hR1, hR2, hR3, hR4⟩ := F
  intro H locs ls hz hP hS hL
  exact lv_ineg hx hb hd (kk H locs ls hz hP hS hL)
theorem s_idiv (F : Fx X own cc nL d mc ms) {x y : Int32} (hd : decode cc pc = .ok (.idiv, 1)) (hy : ¬ y = 0) (kk : G X nL kc ks n Ly (pc + 1) lv (.inl (x / y) :: st) I P) : G X nL kc ks n Ly pc lv (.inl y :: .inl x :: st) I P := by
  obtain ⟨p, l, e, R, s, m, args, below, meth, c, s0, D, DA, Q⟩ := X
  obtain ⟨hx, hb, hml, hown, hts, hK, hN, hs0, hlk, hR1, hR2, hR3, hR4⟩ := F
  intro H locs ls hz hP hS hL
  exact lv_idiv hx hb hd hy (kk H locs ls hz hP hS hL)
theorem s_irem (F : Fx X own cc nL d mc ms) {x y : Int32} (hd : decode cc pc = .ok (.irem, 1)) (hy : ¬ y = 0) (kk : G X nL kc ks n Ly (pc + 1) lv (.inl (x - x / y * y) :: st) I P) : G X nL kc ks n Ly pc lv (.inl y :: .inl x :: st) I P := by
  obtain ⟨p, l, e, R, s, m, args, below, meth, c, s0, D, DA, Q⟩ := X
  obtain ⟨hx, hb, hml, hown, hts, hK, hN, hs0, hlk, hR1, hR2, hR3, hR4⟩ := F
  intro H locs ls hz hP hS hL
  exact lv_irem hx hb hd hy (kk H locs ls hz hP hS hL)
theorem s_i2c (F : Fx X own cc nL d mc ms) {x : Int32} (hd : decode cc pc = .ok (.i2c, 1)) (kk : G X nL kc ks n Ly (pc + 1) lv (.inl (x.toUInt32 % 65536).toInt32 :: st) I P) : G X nL kc ks n Ly pc lv (.inl x :: st) I P := by
  obtain ⟨p, l, e, R, s, m, args, below, meth, c, s0, D, DA, Q⟩ := X
  obtain ⟨hx, hb, hml, hown, hts, hK, hN, hs0, hlk, hR1, hR2, hR3, hR4⟩ := F
  intro H locs ls hz hP hS hL
  exact lv_i2c hx hb hd rfl (kk H locs ls hz hP hS hL)
theorem s_dup (F : Fx X own cc nL d mc ms) {a : AV} (hd : decode cc pc = .ok (.dup, 1)) (kk : G X nL kc ks n Ly (pc + 1) lv (a :: a :: st) I P) : G X nL kc ks n Ly pc lv (a :: st) I P := by
  obtain ⟨p, l, e, R, s, m, args, below, meth, c, s0, D, DA, Q⟩ := X
  obtain ⟨hx, hb, hml, hown, hts, hK, hN, hs0, hlk, hR1, hR2, hR3, hR4⟩ := F
  intro H locs ls hz hP hS hL
  exact lv_dup hx hb hd (cv_cat s0 a) (kk H locs ls hz hP hS hL)
theorem s_pop (F : Fx X own cc nL d mc ms) {a : AV} (hd : decode cc pc = .ok (.pop, 1)) (kk : G X nL kc ks n Ly (pc + 1) lv st I P) : G X nL kc ks n Ly pc lv (a :: st) I P := by
  obtain ⟨p, l, e, R, s, m, args, below, meth, c, s0, D, DA, Q⟩ := X
  obtain ⟨hx, hb, hml, hown, hts, hK, hN, hs0, hlk, hR1, hR2, hR3, hR4⟩ := F
  intro H locs ls hz hP hS hL
  exact lv_pop hx hb hd (cv_cat s0 a) (kk H locs ls hz hP hS hL)
theorem s_dup_x1 (F : Fx X own cc nL d mc ms) {a b : AV} (hd : decode cc pc = .ok (.dup_x1, 1)) (kk : G X nL kc ks n Ly (pc + 1) lv (a :: b :: a :: st) I P) : G X nL kc ks n Ly pc lv (a :: b :: st) I P := by
  obtain ⟨p, l, e, R, s, m, args, below, meth, c, s0, D, DA, Q⟩ := X
  obtain ⟨hx, hb, hml, hown, hts, hK, hN, hs0, hlk, hR1, hR2, hR3, hR4⟩ := F
  intro H locs ls hz hP hS hL
  exact lv_dup_x1 hx hb hd (cv_cat s0 a) (cv_cat s0 b) (kk H locs ls hz hP hS hL)
theorem s_dup_x2 (F : Fx X own cc nL d mc ms) {a b f : AV} (hd : decode cc pc = .ok (.dup_x2, 1)) (kk : G X nL kc ks n Ly (pc + 1) lv (a :: b :: f :: a :: st) I P) : G X nL kc ks n Ly pc lv (a :: b :: f :: st) I P := by
  obtain ⟨p, l, e, R, s, m, args, below, meth, c, s0, D, DA, Q⟩ := X
  obtain ⟨hx, hb, hml, hown, hts, hK, hN, hs0, hlk, hR1, hR2, hR3, hR4⟩ := F
  intro H locs ls hz hP hS hL
  exact lv_dup_x2 hx hb hd (cv_cat s0 a) (cv_cat s0 b) (cv_cat s0 f) (kk H locs ls hz hP hS hL)
theorem s_dup2 (F : Fx X own cc nL d mc ms) {a b : AV} (hd : decode cc pc = .ok (.dup2, 1)) (kk : G X nL kc ks n Ly (pc + 1) lv (a :: b :: a :: b :: st) I P) : G X nL kc ks n Ly pc lv (a :: b :: st) I P := by
  obtain ⟨p, l, e, R, s, m, args, below, meth, c, s0, D, DA, Q⟩ := X
  obtain ⟨hx, hb, hml, hown, hts, hK, hN, hs0, hlk, hR1, hR2, hR3, hR4⟩ := F
  intro H locs ls hz hP hS hL
  exact lv_dup2_11 hx hb hd (cv_cat s0 a) (cv_cat s0 b) (kk H locs ls hz hP hS hL)
theorem s_if_eq (F : Fx X own cc nL d mc ms) {x : Int32} {off : Int} {tgt : Nat} (hd : decode cc pc = .ok (.ifCond .eq off, 3)) (ht : (pc : Int) + off = (tgt : Int)) (kt : x = 0 → G X nL kc ks n Ly tgt lv st I P) (kf : ¬ x = 0 → G X nL kc ks n Ly (pc + 3) lv st I P) : G X nL kc ks n Ly pc lv (.inl x :: st) I P := by
  obtain ⟨p, l, e, R, s, m, args, below, meth, c, s0, D, DA, Q⟩ := X
  obtain ⟨hx, hb, hml, hown, hts, hK, hN, hs0, hlk, hR1, hR2, hR3, hR4⟩ := F
  intro H locs ls hz hP hS hL
  exact lv_if_eq hx hb hd ht (fun q => kt q H locs ls hz hP hS hL) (fun q => kf q H locs ls hz hP hS hL)
theorem s_if_ne (F : Fx X own cc nL d mc ms) {x : Int32} {off : Int} {tgt : Nat} (hd : decode cc pc = .ok (.ifCond .ne off, 3)) (ht : (pc : Int) + off = (tgt : Int)) (kt : ¬ x = 0 → G X nL kc ks n Ly tgt lv st I P) (kf : x = 0 → G X nL kc ks n Ly (pc + 3) lv st I P) : G X nL kc ks n Ly pc lv (.inl x :: st) I P := by
  obtain ⟨p, l, e, R, s, m, args, below, meth, c, s0, D, DA, Q⟩ := X
  obtain ⟨hx, hb, hml, hown, hts, hK, hN, hs0, hlk, hR1, hR2, hR3, hR4⟩ := F
  intro H locs ls hz hP hS hL
  exact lv_if_ne hx hb hd ht (fun q => kt q H locs ls hz hP hS hL) (fun q => kf q H locs ls hz hP hS hL)
theorem s_if_lt (F : Fx X own cc nL d mc ms) {x : Int32} {off : Int} {tgt : Nat} (hd : decode cc pc = .ok (.ifCond .lt off, 3)) (ht : (pc : Int) + off = (tgt : Int)) (kt : x < 0 → G X nL kc ks n Ly tgt lv st I P) (kf : ¬ x < 0 → G X nL kc ks n Ly (pc + 3) lv st I P) : G X nL kc ks n Ly pc lv (.inl x :: st) I P := by
  obtain ⟨p, l, e, R, s, m, args, below, meth, c, s0, D, DA, Q⟩ := X
  obtain ⟨hx, hb, hml, hown, hts, hK, hN, hs0, hlk, hR1, hR2, hR3, hR4⟩ := F
  intro H locs ls hz hP hS hL
  exact lv_if_lt hx hb hd ht (fun q => kt q H locs ls hz hP hS hL) (fun q => kf q H locs ls hz hP hS hL)
theorem s_if_ge (F : Fx X own cc nL d mc ms) {x : Int32} {off : Int} {tgt : Nat} (hd : decode cc pc = .ok (.ifCond .ge off, 3)) (ht : (pc : Int) + off = (tgt : Int)) (kt : 0 ≤ x → G X nL kc ks n Ly tgt lv st I P) (kf : ¬ 0 ≤ x → G X nL kc ks n Ly (pc + 3) lv st I P) : G X nL kc ks n Ly pc lv (.inl x :: st) I P := by
  obtain ⟨p, l, e, R, s, m, args, below, meth, c, s0, D, DA, Q⟩ := X
  obtain ⟨hx, hb, hml, hown, hts, hK, hN, hs0, hlk, hR1, hR2, hR3, hR4⟩ := F
  intro H locs ls hz hP hS hL
  exact lv_if_ge hx hb hd ht (fun q => kt q H locs ls hz hP hS hL) (fun q => kf q H locs ls hz hP hS hL)
theorem s_if_gt (F : Fx X own cc nL d mc ms) {x : Int32} {off : Int} {tgt : Nat} (hd : decode cc pc = .ok (.ifCond .gt off, 3)) (ht : (pc : Int) + off = (tgt : Int)) (kt : 0 < x → G X nL kc ks n Ly tgt lv st I P) (kf : ¬ 0 < x → G X nL kc ks n Ly (pc + 3) lv st I P) : G X nL kc ks n Ly pc lv (.inl x :: st) I P := by
  obtain ⟨p, l, e, R, s, m, args, below, meth, c, s0, D, DA, Q⟩ := X
  obtain ⟨hx, hb, hml, hown, hts, hK, hN, hs0, hlk, hR1, hR2, hR3, hR4⟩ := F
  intro H locs ls hz hP hS hL
  exact lv_if_gt hx hb hd ht (fun q => kt q H locs ls hz hP hS hL) (fun q => kf q H locs ls hz hP hS hL)
theorem s_if_le (F : Fx X own cc nL d mc ms) {x : Int32} {off : Int} {tgt : Nat} (hd : decode cc pc = .ok (.ifCond .le off, 3)) (ht : (pc : Int) + off = (tgt : Int)) (kt : x ≤ 0 → G X nL kc ks n Ly tgt lv st I P) (kf : ¬ x ≤ 0 → G X nL kc ks n Ly (pc + 3) lv st I P) : G X nL kc ks n Ly pc lv (.inl x :: st) I P := by
  obtain ⟨p, l, e, R, s, m, args, below, meth, c, s0, D, DA, Q⟩ := X
  obtain ⟨hx, hb, hml, hown, hts, hK, hN, hs0, hlk, hR1, hR2, hR3, hR4⟩ := F
  intro H locs ls hz hP hS hL
  exact lv_if_le hx hb hd ht (fun q => kt q H locs ls hz hP hS hL) (fun q => kf q H locs ls hz hP hS hL)
theorem s_icmp_eq (F : Fx X own cc nL d mc ms) {x y : Int32} {off : Int} {tgt : Nat} (hd : decode cc pc = .ok (.if_icmp .eq off, 3)) (ht : (pc : Int) + off = (tgt : Int)) (kt : x = y → G X nL kc ks n Ly tgt lv st I P) (kf : ¬ x = y → G X nL kc ks n Ly (pc + 3) lv st I P) : G X nL kc ks n Ly pc lv (.inl y :: .inl x :: st) I P := by
  obtain ⟨p, l, e, R, s, m, args, below, meth, c, s0, D, DA, Q⟩ := X
  obtain ⟨hx, hb, hml, hown, hts, hK, hN, hs0, hlk, hR1, hR2, hR3, hR4⟩ := F
  intro H locs ls hz hP hS hL
  exact lv_icmp_eq hx hb hd ht (fun q => kt q H locs ls hz hP hS hL) (fun q => kf q H locs ls hz hP hS hL)
theorem s_icmp_ne (F : Fx X own cc nL d mc ms) {x y : Int32} {off : Int} {tgt : Nat} (hd : decode cc pc = .ok (.if_icmp .ne off, 3)) (ht : (pc : Int) + off = (tgt : Int)) (kt : ¬ x = y → G X nL kc ks n Ly tgt lv st I P) (kf : x = y → G X nL kc ks n Ly (pc + 3) lv st I P) : G X nL kc ks n Ly pc lv (.inl y :: .inl x :: st) I P := by
  obtain ⟨p, l, e, R, s, m, args, below, meth, c, s0, D, DA, Q⟩ := X
  obtain ⟨hx, hb, hml, hown, hts, hK, hN, hs0, hlk, hR1, hR2, hR3, hR4⟩ := F
  intro H locs ls hz hP hS hL
  exact lv_icmp_ne hx hb hd ht (fun q => kt q H locs ls hz hP hS hL) (fun q => kf q H locs ls hz hP hS hL)
theorem s_icmp_lt (F : Fx X own cc nL d mc ms) {x y : Int32} {off : Int} {tgt : Nat} (hd : decode cc pc = .ok (.if_icmp .lt off, 3)) (ht : (pc : Int) + off = (tgt : Int)) (kt : x < y → G X nL kc ks n Ly tgt lv st I P) (kf : ¬ x < y → G X nL kc ks n Ly (pc + 3) lv st I P) : G X nL kc ks n Ly pc lv (.inl y :: .inl x :: st) I P := by
  obtain ⟨p, l, e, R, s, m, args, below, meth, c, s0, D, DA, Q⟩ := X
  obtain ⟨hx, hb, hml, hown, hts, hK, hN, hs0, hlk, hR1, hR2, hR3, hR4⟩ := F
  intro H locs ls hz hP hS hL
  exact lv_icmp_lt hx hb hd ht (fun q => kt q H locs ls hz hP hS hL) (fun q => kf q H locs ls hz hP hS hL)
theorem s_icmp_ge (F : Fx X own cc nL d mc ms) {x y : Int32} {off : Int} {tgt : Nat} (hd : decode cc pc = .ok (.if_icmp .ge off, 3)) (ht : (pc : Int) + off = (tgt : Int)) (kt : y ≤ x → G X nL kc ks n Ly tgt lv st I P) (kf : ¬ y ≤ x → G X nL kc ks n Ly (pc + 3) lv st I P) : G X nL kc ks n Ly pc lv (.inl y :: .inl x :: st) I P := by
  obtain ⟨p, l, e, R, s, m, args, below, meth, c, s0, D, DA, Q⟩ := X
  obtain ⟨hx, hb, hml, hown, hts, hK, hN, hs0, hlk, hR1, hR2, hR3, hR4⟩ := F
  intro H locs ls hz hP hS hL
  exact lv_icmp_ge hx hb hd ht (fun q => kt q H locs ls hz hP hS hL) (fun q => kf q H locs ls hz hP hS hL)
theorem s_icmp_gt (F : Fx X own cc nL d mc ms) {x y : Int32} {off : Int} {tgt : Nat} (hd : decode cc pc = .ok (.if_icmp .gt off, 3)) (ht : (pc : Int) + off = (tgt : Int)) (kt : y < x → G X nL kc ks n Ly tgt lv st I P) (kf : ¬ y < x → G X nL kc ks n Ly (pc + 3) lv st I P) : G X nL kc ks n Ly pc lv (.inl y :: .inl x :: st) I P := by
  obtain ⟨p, l, e, R, s, m, args, below, meth, c, s0, D, DA, Q⟩ := X
  obtain ⟨hx, hb, hml, hown, hts, hK, hN, hs0, hlk, hR1, hR2, hR3, hR4⟩ := F
  intro H locs ls hz hP hS hL
  exact lv_icmp_gt hx hb hd ht (fun q => kt q H locs ls hz hP hS hL) (fun q => kf q H locs ls hz hP hS hL)
theorem s_icmp_le (F : Fx X own cc nL d mc ms) {x y : Int32} {off : Int} {tgt : Nat} (hd : decode cc pc = .ok (.if_icmp .le off, 3)) (ht : (pc : Int) + off = (tgt : Int)) (kt : x ≤ y → G X nL kc ks n Ly tgt lv st I P) (kf : ¬ x ≤ y → G X nL kc ks n Ly (pc + 3) lv st I P) : G X nL kc ks n Ly pc lv (.inl y :: .inl x :: st) I P := by
  obtain ⟨p, l, e, R, s, m, args, below, meth, c, s0, D, DA, Q⟩ := X
  obtain ⟨hx, hb, hml, hown, hts, hK, hN, hs0, hlk, hR1, hR2, hR3, hR4⟩ := F
  intro H locs ls hz hP hS hL
  exact lv_icmp_le hx hb hd ht (fun q => kt q H locs ls hz hP hS hL) (fun q => kf q H locs ls hz hP hS hL)
theorem s_goto (F : Fx X own cc nL d mc ms) {off : Int} {tgt : Nat} (hd : decode cc pc = .ok (.goto off, 3)) (ht : (pc : Int) + off = (tgt : Int)) (kk : G X nL kc ks n Ly tgt lv st I P) : G X nL kc ks n Ly pc lv st I P := by
  obtain ⟨p, l, e, R, s, m, args, below, meth, c, s0, D, DA, Q⟩ := X
  obtain ⟨hx, hb, hml, hown, hts, hK, hN, hs0, hlk, hR1, hR2, hR3, hR4⟩ := F
  intro H locs ls hz hP hS hL
  exact lv_goto hx hb hd ht (kk H locs ls hz hP hS hL)
theorem s_ifnull (F : Fx X own cc nL d mc ms) {off : Int} {b : Nat} (hd : decode cc pc = .ok (.ifnull off, 3)) (kk : G X nL kc ks n Ly (pc + 3) lv st I P) : G X nL kc ks n Ly pc lv (.inr (some b) :: st) I P := by
  obtain ⟨p, l, e, R, s, m, args, below, meth, c, s0, D, DA, Q⟩ := X
  obtain ⟨hx, hb, hml, hown, hts, hK, hN, hs0, hlk, hR1, hR2, hR3, hR4⟩ := F
  intro H locs ls hz hP hS hL
  exact lv_ifnull hx hb hd (kk H locs ls hz hP hS hL)
theorem s_ifnullN (F : Fx X own cc nL d mc ms) {off : Int} {tgt : Nat} (hd : decode cc pc = .ok (.ifnull off, 3)) (ht : (pc : Int) + off = (tgt : Int)) (kk : G X nL kc ks n Ly tgt lv st I P) : G X nL kc ks n Ly pc lv (.inr none :: st) I P := by
  obtain ⟨p, l, e, R, s, m, args, below, meth, c, s0, D, DA, Q⟩ := X
  obtain ⟨hx, hb, hml, hown, hts, hK, hN, hs0, hlk, hR1, hR2, hR3, hR4⟩ := F
  intro H locs ls hz hP hS hL
  exact lv_ifnullN hx hb hd ht (kk H locs ls hz hP hS hL)
theorem s_ifnonnull (F : Fx X own cc nL d mc ms) {off : Int} {tgt b : Nat} (hd : decode cc pc = .ok (.ifnonnull off, 3)) (ht : (pc : Int) + off = (tgt : Int)) (kk : G X nL kc ks n Ly tgt lv st I P) : G X nL kc ks n Ly pc lv (.inr (some b) :: st) I P := by
  obtain ⟨p, l, e, R, s, m, args, below, meth, c, s0, D, DA, Q⟩ := X
  obtain ⟨hx, hb, hml, hown, hts, hK, hN, hs0, hlk, hR1, hR2, hR3, hR4⟩ := F
  intro H locs ls hz hP hS hL
  exact lv_ifnonnull hx hb hd ht (kk H locs ls hz hP hS hL)
theorem s_ifnonnullN (F : Fx X own cc nL d mc ms) {off : Int} (hd : decode cc pc = .ok (.ifnonnull off, 3)) (kk : G X nL kc ks n Ly (pc + 3) lv st I P) : G X nL kc ks n Ly pc lv (.inr none :: st) I P := by
  obtain ⟨p, l, e, R, s, m, args, below, meth, c, s0, D, DA, Q⟩ := X
  obtain ⟨hx, hb, hml, hown, hts, hK, hN, hs0, hlk, hR1, hR2, hR3, hR4⟩ := F
  intro H locs ls hz hP hS hL
  exact lv_ifnonnullN hx hb hd (kk H locs ls hz hP hS hL)
theorem s_swOut (F : Fx X own cc nL d mc ms) {dflt lo hi : Int} {offs : Array Int} {len : Nat} {x : Int32} {tgt : Nat} (hd : decode cc pc = .ok (.tableswitch dflt lo hi offs, len)) (h : x.toInt < lo ∨ hi < x.toInt) (ht : (pc : Int) + dflt = (tgt : Int)) (kk : G X nL kc ks n Ly tgt lv st I P) : G X nL kc ks n Ly pc lv (.inl x :: st) I P := by
  obtain ⟨p, l, e, R, s, m, args, below, meth, c, s0, D, DA, Q⟩ := X
  obtain ⟨hx, hb, hml, hown, hts, hK, hN, hs0, hlk, hR1, hR2, hR3, hR4⟩ := F
  intro H locs ls hz hP hS hL
  exact lv_tableOut hx hb hd h ht (kk H locs ls hz hP hS hL)
theorem s_swIn (F : Fx X own cc nL d mc ms) {dflt lo hi : Int} {offs : Array Int} {len : Nat} {x : Int32} {off : Int} {tgt : Nat} (hd : decode cc pc = .ok (.tableswitch dflt lo hi offs, len)) (h1 : ¬ x.toInt < lo) (h2 : ¬ hi < x.toInt) (ho : offs[(x.toInt - lo).toNat]? = some off) (ht : (pc : Int) + off = (tgt : Int)) (kk : G X nL kc ks n Ly tgt lv st I P) : G X nL kc ks n Ly pc lv (.inl x :: st) I P := by
  obtain ⟨p, l, e, R, s, m, args, below, meth, c, s0, D, DA, Q⟩ := X
  obtain ⟨hx, hb, hml, hown, hts, hK, hN, hs0, hlk, hR1, hR2, hR3, hR4⟩ := F
  intro H locs ls hz hP hS hL
  exact lv_tableIn hx hb hd h1 h2 ho ht (kk H locs ls hz hP hS hL)
theorem s_getI (F : Fx X own cc nL d mc ms) {idx ci k a : Nat} (hd : decode cc pc = .ok (.getfield idx, 3)) (hf : FL own idx ci k) (hl : Ly a = .inl ci) (ha : a < n) (hr : isR ci k = false) (kk : G X nL kc ks n Ly (pc + 3) lv (.inl (I a k) :: st) I P) : G X nL kc ks n Ly pc lv (.inr (some a) :: st) I P := by
  obtain ⟨p, l, e, R, s, m, args, below, meth, c, s0, D, DA, Q⟩ := X
  obtain ⟨hx, hb, hml, hown, hts, hK, hN, hs0, hlk, hR1, hR2, hR3, hR4⟩ := F
  intro H locs ls hz hP hS hL
  obtain ⟨hci, hk, hlink⟩ := hf
  refine va_get (v := .int (I a k)) hx hb hts (ws_in hci) hown hK hP a ((wd_get ha).trans (by rw [cE_o hl])) (cl_at hci) k hk (hts _ hlink) (fun _ h => h) ?_ hd (kk H locs ls hz hP hS hL)
  simp [hk, fV, hr]
theorem s_getR (F : Fx X own cc nL d mc ms) {idx ci k a : Nat} {o : Option Nat} (hd : decode cc pc = .ok (.getfield idx, 3)) (hf : FL own idx ci k) (hl : Ly a = .inl ci) (ha : a < n) (hr : isR ci k = true) (ho : P a k = o) (kk : G X nL kc ks n Ly (pc + 3) lv (.inr o :: st) I P) : G X nL kc ks n Ly pc lv (.inr (some a) :: st) I P := by
  obtain ⟨p, l, e, R, s, m, args, below, meth, c, s0, D, DA, Q⟩ := X
  obtain ⟨hx, hb, hml, hown, hts, hK, hN, hs0, hlk, hR1, hR2, hR3, hR4⟩ := F
  intro H locs ls hz hP hS hL
  obtain ⟨hci, hk, hlink⟩ := hf
  subst ho
  refine va_get (v := rv s0 (P a k)) hx hb hts (ws_in hci) hown hK hP a ((wd_get ha).trans (by rw [cE_o hl])) (cl_at hci) k hk (hts _ hlink) (fun _ h => h) ?_ hd (kk H locs ls hz hP hS hL)
  simp [hk, fV, hr]
theorem s_putI (F : Fx X own cc nL d mc ms) {idx ci k a : Nat} {x : Int32} (hd : decode cc pc = .ok (.putfield idx, 3)) (hf : FL own idx ci k) (hl : Ly a = .inl ci) (ha : a < n) (hr : isR ci k = false) (hfin : (TF ci k).2.2.2 = false) (hn : narrow (tyF ci k) (.int x) = .int x ∧ fits (tyF ci k) (.int x) = true) (kk : G X nL kc ks n Ly (pc + 3) lv st (up2 I a k x) P) : G X nL kc ks n Ly pc lv (.inl x :: .inr (some a) :: st) I P := by
  obtain ⟨p, l, e, R, s, m, args, below, meth, c, s0, D, DA, Q⟩ := X
  obtain ⟨hx, hb, hml, hown, hts, hK, hN, hs0, hlk, hR1, hR2, hR3, hR4⟩ := F
  intro H locs ls hz hP hS hL
  obtain ⟨hci, hk, hlink⟩ := hf
  refine va_put (v := .int x) hx hb hts (ws_in hci) (tyF ci) (ty_ok hci) (nm_ok hci) hown hK hP wd_D hS a ((wd_get ha).trans (by rw [cE_o hl])) (cl_at hci) k hk (hts _ hlink) (fun _ h => h) hfin (ty_ok hci k hk) hn.1 hn.2 (by simpa using hk) hd (fun H1 locs1 hP1 _ hS1 => kk H1 locs1 ls hz ?_ hS1 hL)
  rw [fs_setI hk hr, wd_set (I' := up2 I a k x) (P' := P) ha (by rw [cE_o hl]) (fun j hj => up2_n hj) (fun _ _ => rfl)] at hP1
  exact hP1
theorem s_putF (F : Fx X own cc nL d mc ms) (hi : Fi X) {idx ci k a : Nat} {o : Option Nat} (hd : decode cc pc = .ok (.putfield idx, 3)) (hf : FL own idx ci k) (hl : Ly a = .inl ci) (ha : a < n) (hr : isR ci k = true) (hfin : (TF ci k).2.2.2 = true) (hdec : (TF ci k).1 = own) (kk : G X nL kc ks n Ly (pc + 3) lv st I (upP P a k o)) : G X nL kc ks n Ly pc lv (.inr o :: .inr (some a) :: st) I P := by
  obtain ⟨p, l, e, R, s, m, args, below, meth, c, s0, D, DA, Q⟩ := X
  obtain ⟨hx, hb, hml, hown, hts, hK, hN, hs0, hlk, hR1, hR2, hR3, hR4⟩ := F
  intro H locs ls hz hP hS hL
  obtain ⟨hci, hk, hlink⟩ := hf
  refine va_putF (v := rv s0 o) hx hb hts (ws_in hci) (tyF ci) (ty_ok hci) (nm_ok hci) hown hK hP wd_D hS a ((wd_get ha).trans (by rw [cE_o hl])) (cl_at hci) k hk (hts _ hlink) (fun _ h => h) hfin hi hdec (ty_ok hci k hk) (rv_ok hr).1 (rv_ok hr).2 (by simpa using hk) hd (fun H1 locs1 hP1 _ hS1 => kk H1 locs1 ls hz ?_ hS1 hL)
  rw [fs_setR hk hr, wd_set (I' := I) (P' := upP P a k o) ha (by rw [cE_o hl]) (fun _ _ => rfl) (fun j hj => upP_n hj)] at hP1
  exact hP1
theorem s_iald (F : Fx X own cc nL d mc ms) {a len : Nat} {x : Int32} (hd : decode cc pc = .ok (.iaload, 1)) (hl : Ly a = .inr (0, len)) (ha : a < n) (hin : vp_in x len) (kk : G X nL kc ks n Ly (pc + 1) lv (.inl (I a x.toNatClampNeg) :: st) I P) : G X nL kc ks n Ly pc lv (.inl x :: .inr (some a) :: st) I P := by
  obtain ⟨p, l, e, R, s, m, args, below, meth, c, s0, D, DA, Q⟩ := X
  obtain ⟨hx, hb, hml, hown, hts, hK, hN, hs0, hlk, hR1, hR2, hR3, hR4⟩ := F
  intro H locs ls hz hP hS hL
  exact va_iald hx hb hK hP a 0 ((wd_get ha).trans (by rw [cE_i hl (by decide)])) rfl hin hd (kk H locs ls hz hP hS hL)
theorem s_iast (F : Fx X own cc nL d mc ms) {a len : Nat} {x v : Int32} (hd : decode cc pc = .ok (.iastore, 1)) (hl : Ly a = .inr (0, len)) (ha : a < n) (hin : vp_in x len) (kk : G X nL kc ks n Ly (pc + 1) lv st (up2 I a x.toNatClampNeg v) P) : G X nL kc ks n Ly pc lv (.inl v :: .inl x :: .inr (some a) :: st) I P := by
  obtain ⟨p, l, e, R, s, m, args, below, meth, c, s0, D, DA, Q⟩ := X
  obtain ⟨hx, hb, hml, hown, hts, hK, hN, hs0, hlk, hR1, hR2, hR3, hR4⟩ := F
  intro H locs ls hz hP hS hL
  refine va_iast hx hb hK hP wd_D hS a 0 ((wd_get ha).trans (by rw [cE_i hl (by decide)])) rfl hin hd (fun H1 locs1 hP1 _ hS1 => kk H1 locs1 ls hz ?_ hS1 hL)
  rw [wd_set (I' := up2 I a x.toNatClampNeg v) (P' := P) ha (by rw [cE_i hl (by decide), up2_s]) (fun j hj => up2_n hj) (fun _ _ => rfl)] at hP1
  exact hP1
theorem s_cald (F : Fx X own cc nL d mc ms) {a len : Nat} {x : Int32} (hd : decode cc pc = .ok (.caload, 1)) (hl : Ly a = .inr (1, len)) (ha : a < n) (hin : vp_in x len) (kk : G X nL kc ks n Ly (pc + 1) lv (.inl (I a x.toNatClampNeg) :: st) I P) : G X nL kc ks n Ly pc lv (.inl x :: .inr (some a) :: st) I P := by
  obtain ⟨p, l, e, R, s, m, args, below, meth, c, s0, D, DA, Q⟩ := X
  obtain ⟨hx, hb, hml, hown, hts, hK, hN, hs0, hlk, hR1, hR2, hR3, hR4⟩ := F
  intro H locs ls hz hP hS hL
  exact va_cald hx hb hK hP a 1 ((wd_get ha).trans (by rw [cE_i hl (by decide)])) rfl hin hd (kk H locs ls hz hP hS hL)
theorem s_cast (F : Fx X own cc nL d mc ms) {a len : Nat} {x v : Int32} (hd : decode cc pc = .ok (.castore, 1)) (hl : Ly a = .inr (1, len)) (ha : a < n) (hin : vp_in x len) (hn : vp_nar .char v = v) (kk : G X nL kc ks n Ly (pc + 1) lv st (up2 I a x.toNatClampNeg v) P) : G X nL kc ks n Ly pc lv (.inl v :: .inl x :: .inr (some a) :: st) I P := by
  obtain ⟨p, l, e, R, s, m, args, below, meth, c, s0, D, DA, Q⟩ := X
  obtain ⟨hx, hb, hml, hown, hts, hK, hN, hs0, hlk, hR1, hR2, hR3, hR4⟩ := F
  intro H locs ls hz hP hS hL
  refine va_cast hx hb hK hP wd_D hS a 1 ((wd_get ha).trans (by rw [cE_i hl (by decide)])) rfl hin hd (fun H1 locs1 hP1 _ hS1 => kk H1 locs1 ls hz ?_ hS1 hL)
  rw [hn] at hP1
  rw [wd_set (I' := up2 I a x.toNatClampNeg v) (P' := P) ha (by rw [cE_i hl (by decide), up2_s]) (fun j hj => up2_n hj) (fun _ _ => rfl)] at hP1
  exact hP1
theorem s_aald (F : Fx X own cc nL d mc ms) {a t len : Nat} {x : Int32} {o : Option Nat} (hd : decode cc pc = .ok (.aaload, 1)) (hl : Ly a = .inr (t, len)) (ht : t = 3 ∨ t = 4 ∨ t = 5) (ha : a < n) (hin : vp_in x len) (ho : P a x.toNatClampNeg = o) (kk : G X nL kc ks n Ly (pc + 1) lv (.inr o :: st) I P) : G X nL kc ks n Ly pc lv (.inl x :: .inr (some a) :: st) I P := by
  obtain ⟨p, l, e, R, s, m, args, below, meth, c, s0, D, DA, Q⟩ := X
  obtain ⟨hx, hb, hml, hown, hts, hK, hN, hs0, hlk, hR1, hR2, hR3, hR4⟩ := F
  intro H locs ls hz hP hS hL
  subst ho
  rcases ht with rfl | rfl | rfl
  · exact va_aldq (f := fun j => (P a j).map fun x => s0 + x) hx hb hK hP a 3 ((wd_get ha).trans (by rw [cE_q hl (by decide)])) rfl hin hd (kk H locs ls hz hP hS hL)
  · exact va_aldq (f := fun j => (P a j).map fun x => s0 + x) hx hb hK hP a 4 ((wd_get ha).trans (by rw [cE_q hl (by decide)])) rfl hin hd (kk H locs ls hz hP hS hL)
  · exact va_aldq (f := fun j => (P a j).map fun x => s0 + x) hx hb hK hP a 5 ((wd_get ha).trans (by rw [cE_q hl (by decide)])) rfl hin hd (kk H locs ls hz hP hS hL)
theorem s_aast (F : Fx X own cc nL d mc ms) {a b t ci len : Nat} {x : Int32} (hd : decode cc pc = .ok (.aastore, 1)) (hl : Ly a = .inr (t, len)) (ht : (t = 3 ∧ ci = 6) ∨ (t = 4 ∧ ci = 4) ∨ (t = 5 ∧ ci = 3)) (ha : a < n) (hlb : Ly b = .inl ci) (hbn : b < n) (hin : vp_in x len) (kk : G X nL kc ks n Ly (pc + 1) lv st I (upP P a x.toNatClampNeg (some b))) : G X nL kc ks n Ly pc lv (.inr (some b) :: .inl x :: .inr (some a) :: st) I P := by
  obtain ⟨p, l, e, R, s, m, args, below, meth, c, s0, D, DA, Q⟩ := X
  obtain ⟨hx, hb, hml, hown, hts, hK, hN, hs0, hlk, hR1, hR2, hR3, hR4⟩ := F
  intro H locs ls hz hP hS hL
  have go : ∀ (H1 : Heap) (locs1 : List Loc), ¬ t < 3 → va_P D vwCl ((wd s0 DA Ly I P n).set a (s0 + a, .inl (DA t, len, .inr (.inr (.inr (.inr (va_up (fun j => (P a j).map fun x => s0 + x) x.toNatClampNeg (some (s0 + b)))))))) ) H1 → va_S (fun q => s0 ≤ q) s.heap H1 locs1 → W p l e R s m args below meth c H1 locs1 kc ks Q (F0 m (pc + 1) ls (st.map (cv s0))) := by
    intro H1 locs1 ht3 hP1 hS1
    refine kk H1 locs1 ls hz ?_ hS1 hL
    rw [wd_set (I' := I) (P' := upP P a x.toNatClampNeg (some b)) ha ?_ (fun _ _ => rfl) (fun j hj => upP_n hj)] at hP1
    · exact hP1
    · rw [cE_q hl ht3]
      refine congrArg (fun f => Sum.inl (DA t, len, Sum.inr (Sum.inr (Sum.inr (Sum.inr f))))) ?_
      funext j
      by_cases hj : j = x.toNatClampNeg
      · subst hj
        simp [va_up, upP]
      · simp [va_up, upP, hj]
  rcases ht with ⟨rfl, rfl⟩ | ⟨rfl, rfl⟩ | ⟨rfl, rfl⟩
  · exact va_astq hx hb hK hP wd_D hS a 3 b 6 ((wd_get ha).trans (by rw [cE_q hl (by decide)])) rfl ((wd_get hbn).trans (by rw [cE_o hlb])) rfl hin hd (fun H1 locs1 hP1 _ hS1 => go H1 locs1 (by decide) hP1 hS1)
  · exact va_astq hx hb hK hP wd_D hS a 4 b 4 ((wd_get ha).trans (by rw [cE_q hl (by decide)])) rfl ((wd_get hbn).trans (by rw [cE_o hlb])) rfl hin hd (fun H1 locs1 hP1 _ hS1 => go H1 locs1 (by decide) hP1 hS1)
  · exact va_astq hx hb hK hP wd_D hS a 5 b 3 ((wd_get ha).trans (by rw [cE_q hl (by decide)])) rfl ((wd_get hbn).trans (by rw [cE_o hlb])) rfl hin hd (fun H1 locs1 hP1 _ hS1 => go H1 locs1 (by decide) hP1 hS1)
theorem s_alen (F : Fx X own cc nL d mc ms) {a t len : Nat} {v : Int32} (hd : decode cc pc = .ok (.arraylength, 1)) (hl : Ly a = .inr (t, len)) (ht : t < 6) (ha : a < n) (hv : Int32.ofNat len = v) (kk : G X nL kc ks n Ly (pc + 1) lv (.inl v :: st) I P) : G X nL kc ks n Ly pc lv (.inr (some a) :: st) I P := by
  obtain ⟨p, l, e, R, s, m, args, below, meth, c, s0, D, DA, Q⟩ := X
  obtain ⟨hx, hb, hml, hown, hts, hK, hN, hs0, hlk, hR1, hR2, hR3, hR4⟩ := F
  intro H locs ls hz hP hS hL
  obtain ⟨ty, hty⟩ : ∃ ty, (tysA DA)[t]? = some (DA t, ty) := by
    match t, ht with
    | 0, _ => exact ⟨_, rfl⟩
    | 1, _ => exact ⟨_, rfl⟩
    | 2, _ => exact ⟨_, rfl⟩
    | 3, _ => exact ⟨_, rfl⟩
    | 4, _ => exact ⟨_, rfl⟩
    | 5, _ => exact ⟨_, rfl⟩
    | j + 6, h => exact absurd h (by omega)
  have hg : ∃ f, (wd s0 DA Ly I P n)[a]? = some (s0 + a, .inl (DA t, (len, f))) := by
    rw [wd_get ha]
    unfold cE
    rw [hl]
    exact ⟨_, rfl⟩
  obtain ⟨f, hf⟩ := hg
  exact va_alen hx hb hK hP a t hf hty hv hd (kk H locs ls hz hP hS hL)
theorem s_copy (F : Fx X own cc nL d mc ms) {idx a0 a n0 : Nat} {z : Int32} (hd : decode cc pc = .ok (.invokestatic idx, 3)) (hk : LC own idx) (hd1 : 1 ≤ d) (hl0 : Ly a0 = .inr (0, n0)) (hl1 : Ly a = .inr (0, n0)) (ha0 : a0 < n) (ha : a < n) (hlen : st.length ≤ 8) (hz0 : z.toNatClampNeg = n0) (hz1 : ¬ z < 0) (kk : G X nL kc ks n Ly (pc + 3) lv st (cp2 I a0 a n0) P) : G X nL kc ks n Ly pc lv (.inl z :: .inl 0 :: .inr (some a) :: .inl 0 :: .inr (some a0) :: st) I P := by
  obtain ⟨p, l, e, R, s, m, args, below, meth, c, s0, D, DA, Q⟩ := X
  obtain ⟨hx, hb, hml, hown, hts, hK, hN, hs0, hlk, hR1, hR2, hR3, hR4⟩ := F
  intro H locs ls hZ hP hS hL
  obtain ⟨k1, k2, k3, k4⟩ := hk
  have h7 : nativeFrameWords "java/lang/System" "arraycopy" 5 = 7 := by decide +kernel
  refine va_copyi (sp := 0) (dp := 0) (n := z) (ty := .int) hx hb (hml.trans hL.1.symm) hown (hts _ k1) (hts _ k2) (hts _ k3) (hts _ k4) hK hP wd_D hS a0 a 0 0 ((wd_get ha0).trans (by rw [cE_i hl0 (by decide)])) ((wd_get ha).trans (by rw [cE_i hl1 (by decide)])) rfl rfl rfl (by decide) (by decide) hz1 (by rw [hz0]; exact Nat.le_of_eq (Nat.zero_add _)) (by rw [hz0]; exact Nat.le_of_eq (Nat.zero_add _)) (fun _ _ => rfl) (Nat.le_trans hd1 hR1) (by rw [cv_sum, h7]; omega) hd (fun H1 locs1 hP1 _ hS1 => kk H1 locs1 ls hZ ?_ hS1 hL)
  rw [wd_set (I' := cp2 I a0 a n0) (P' := P) ha ?_ (fun j hj => by simp [cp2, hj]) (fun _ _ => rfl)] at hP1
  · exact hP1
  · rw [cE_i hl1 (by decide), hz0]
    refine congrArg (fun f => Sum.inl (DA 0, n0, Sum.inl f)) ?_
    funext j
    simp [cp2, va_cpy]
theorem s_max (F : Fx X own cc nL d mc ms) {idx : Nat} {x y : Int32} (hd : decode cc pc = .ok (.invokestatic idx, 3)) (hk : LM own idx Lib.Math.max.name Lib.Math.max.code) (hd1 : 1 ≤ d) (hkc : kc ≤ mc) (hks : ks ≤ ms) (hlen : st.length ≤ 8) (kk : G X nL kc ks n Ly (pc + 3) lv (.inl (if x < y then y else x) :: st) I P) : G X nL kc ks n Ly pc lv (.inl y :: .inl x :: st) I P := by
  obtain ⟨p, l, e, R, s, m, args, below, meth, c, s0, D, DA, Q⟩ := X
  obtain ⟨hx, hb, hml, hown, hts, hK, hN, hs0, hlk, hR1, hR2, hR3, hR4⟩ := F
  intro H locs ls hz hP hS hL
  obtain ⟨k1, k2, k3, k4⟩ := hk
  exact va_mmax hx hb (hml.trans hL.1.symm) hown (hts _ k1) (hts _ k2) (hts _ k3) (hts _ k4) (Nat.le_trans hd1 hR1) (by rw [cv_sum]; omega) (Nat.le_trans hkc hR3) (Nat.le_trans hks hR4) hd (kk H locs ls hz hP hS hL)
theorem s_min (F : Fx X own cc nL d mc ms) {idx : Nat} {x y : Int32} (hd : decode cc pc = .ok (.invokestatic idx, 3)) (hk : LM own idx Lib.Math.min.name Lib.Math.min.code) (hd1 : 1 ≤ d) (hkc : kc ≤ mc) (hks : ks ≤ ms) (hlen : st.length ≤ 8) (kk : G X nL kc ks n Ly (pc + 3) lv (.inl (if y < x then y else x) :: st) I P) : G X nL kc ks n Ly pc lv (.inl y :: .inl x :: st) I P := by
  obtain ⟨p, l, e, R, s, m, args, below, meth, c, s0, D, DA, Q⟩ := X
  obtain ⟨hx, hb, hml, hown, hts, hK, hN, hs0, hlk, hR1, hR2, hR3, hR4⟩ := F
  intro H locs ls hz hP hS hL
  obtain ⟨k1, k2, k3, k4⟩ := hk
  exact va_mmin hx hb (hml.trans hL.1.symm) hown (hts _ k1) (hts _ k2) (hts _ k3) (hts _ k4) (Nat.le_trans hd1 hR1) (by rw [cv_sum]; omega) (Nat.le_trans hkc hR3) (Nat.le_trans hks hR4) hd (kk H locs ls hz hP hS hL)
theorem s_objInit (F : Fx X own cc nL d mc ms) {idx a : Nat} (hd : decode cc pc = .ok (.invokespecial idx, 3)) (hk : Cond.methodLink own idx Lib.objectInit ∈ tg ∧ Cond.instanceMethod Lib.objectInit ∈ tg ∧ Cond.code Lib.objectInit ⟨#[0xb1]⟩ 1 none ∈ tg) (hd1 : 1 ≤ d) (hlen : st.length ≤ 8) (kk : G X nL kc ks n Ly (pc + 3) lv st I P) : G X nL kc ks n Ly pc lv (.inr (some a) :: st) I P := by
  obtain ⟨p, l, e, R, s, m, args, below, meth, c, s0, D, DA, Q⟩ := X
  obtain ⟨hx, hb, hml, hown, hts, hK, hN, hs0, hlk, hR1, hR2, hR3, hR4⟩ := F
  intro H locs ls hz hP hS hL
  obtain ⟨k1, k2, k3⟩ := hk
  exact W.objInit hx hb hown (hts _ k1) (hts _ k2) (hts _ k3) rfl (hL.1.trans hml.symm) rfl hd (Nat.le_trans hd1 hR1) (by show 2 * 0 + _ + 12 ≤ _; rw [cv_sum]; omega) (kk H locs ls hz hP hS hL)
theorem s_iret (F : Fx X own cc nL d mc ms) {ty : FieldType} {Po : PQ} (hr : Fr X (some ty) Po mc ms) {v : Int32} (hd : decode cc pc = .ok (.ireturn, 1)) (hn : narrow ty (.int v) = .int v) (hkc : kc ≤ mc) (hks : ks ≤ ms) (hpo : Po (some (.inl v)) n Ly I P) : G X nL kc ks n Ly pc lv [.inl v] I P := by
  obtain ⟨p, l, e, R, s, m, args, below, meth, c, s0, D, DA, Q⟩ := X
  obtain ⟨hx, hb, hml, hown, hts, hK, hN, hs0, hlk, hR1, hR2, hR3, hR4⟩ := F
  obtain ⟨hr, rfl⟩ := hr
  intro H locs ls hz hP hS hL T hT Y
  have hsz := sz_of Y hT hz hP hS hs0
  exact W.widen hkc hks (W.zret hx hb hr hn (fun t ht hW => ⟨⟨some (.inl v), n, Ly, I, P, rfl, hpo, by rw [ht]; exact hsz, by rw [ht]; exact hP, va_K.moved hW.alike hK, hN.warm hW⟩, hS.F ht⟩) hS.2.2 hd hlk) T hT Y
theorem s_vret (F : Fx X own cc nL d mc ms) {Po : PQ} (hr : Fr X none Po mc ms) (hd : decode cc pc = .ok (.return_, 1)) (hkc : kc ≤ mc) (hks : ks ≤ ms) (hpo : Po none n Ly I P) : G X nL kc ks n Ly pc lv [] I P := by
  obtain ⟨p, l, e, R, s, m, args, below, meth, c, s0, D, DA, Q⟩ := X
  obtain ⟨hx, hb, hml, hown, hts, hK, hN, hs0, hlk, hR1, hR2, hR3, hR4⟩ := F
  obtain ⟨hr, rfl⟩ := hr
  intro H locs ls hz hP hS hL T hT Y
  have hsz := sz_of Y hT hz hP hS hs0
  exact W.widen hkc hks (W.vret hx hb hr (fun t ht hW => ⟨⟨none, n, Ly, I, P, rfl, hpo, by rw [ht]; exact hsz, by rw [ht]; exact hP, va_K.moved hW.alike hK, hN.warm hW⟩, hS.F ht⟩) hS.2.2 hd hlk) T hT Y
theorem s_aret (F : Fx X own cc nL d mc ms) {C : String} {Po : PQ} (hr : Fr X (some (.object C)) Po mc ms) {o : Option Nat} (hd : decode cc pc = .ok (.areturn, 1)) (hkc : kc ≤ mc) (hks : ks ≤ ms) (hpo : Po (some (.inr o)) n Ly I P) : G X nL kc ks n Ly pc lv [.inr o] I P := by
  obtain ⟨p, l, e, R, s, m, args, below, meth, c, s0, D, DA, Q⟩ := X
  obtain ⟨hx, hb, hml, hown, hts, hK, hN, hs0, hlk, hR1, hR2, hR3, hR4⟩ := F
  obtain ⟨hr, rfl⟩ := hr
  intro H locs ls hz hP hS hL T hT Y
  have hsz := sz_of Y hT hz hP hS hs0
  exact W.widen hkc hks (W.aret hx hb hr (Or.inl ⟨_, rfl⟩) (by cases o with
    | none => exact Or.inl rfl
    | some b => exact Or.inr ⟨_, rfl⟩) (fun t ht hW => ⟨⟨some (.inr o), n, Ly, I, P, rfl, hpo, by rw [ht]; exact hsz, by rw [ht]; exact hP, va_K.moved hW.alike hK, hN.warm hW⟩, hS.F ht⟩) hS.2.2 hd hlk) T hT Y
end ROWS
