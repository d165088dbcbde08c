section ROWS
variable {X : Cx} {own : String} {cc : ByteArray} {nL d mc ms kc ks n pc : Nat} {Ly : LL} {lv : List (Option AV)} {st : List AV} {I : II} {P : PP}
theorem s_iconst (F : Fx X own cc nL d mc ms) {k : Int} {v : Int32} (hd : decode cc pc = .ok (.iconst k, 1)) (hv : Int32.ofInt k = v) (kk : G X nL kc ks n Ly (pc + 1) lv (.inl v :: st) I P) : G X nL kc ks n Ly pc lv st I P := by
  obtain ⟨p, l, e, R, s, m, args, below, meth, c, s0, D, DA, Q⟩ := X
  obtain ⟨hx, hb, hml, hown, hts, hK, hN, hs0, hlk, hR1, hR2, hR3, hR4⟩ := F
  intro H locs ls hz hP hS hL
  exact lv_iconst hx hb hd hv (kk H locs ls hz hP hS hL)
theorem s_bipush (F : Fx X own cc nL d mc ms) {k : Int} {v : Int32} (hd : decode cc pc = .ok (.bipush k, 2)) (hv : (Int8.ofInt k).toInt32 = v) (kk : G X nL kc ks n Ly (pc + 2) lv (.inl v :: st) I P) : G X nL kc ks n Ly pc lv st I P := by
  obtain ⟨p, l, e, R, s, m, args, below, meth, c, s0, D, DA, Q⟩ := X
  obtain ⟨hx, hb, hml, hown, hts, hK, hN, hs0, hlk, hR1, hR2, hR3, hR4⟩ := F
  intro H locs ls hz hP hS hL
  exact lv_bipush hx hb hd hv (kk H locs ls hz hP hS hL)
theorem s_sipush (F : Fx X own cc nL d mc ms) {k : Int} {v : Int32} (hd : decode cc pc = .ok (.sipush k, 3)) (hv : (Int16.ofInt k).toInt32 = v) (kk : G X nL kc ks n Ly (pc + 3) lv (.inl v :: st) I P) : G X nL kc ks n Ly pc lv st I P := by
  obtain ⟨p, l, e, R, s, m, args, below, meth, c, s0, D, DA, Q⟩ := X
  obtain ⟨hx, hb, hml, hown, hts, hK, hN, hs0, hlk, hR1, hR2, hR3, hR4⟩ := F
  intro H locs ls hz hP hS hL
  exact lv_sipush hx hb hd hv (kk H locs ls hz hP hS hL)
theorem s_null (F : Fx X own cc nL d mc ms) (hd : decode cc pc = .ok (.aconst_null, 1)) (kk : G X nL kc ks n Ly (pc + 1) lv (.inr none :: st) I P) : G X nL kc ks n Ly pc lv st I P := by
  obtain ⟨p, l, e, R, s, m, args, below, meth, c, s0, D, DA, Q⟩ := X
  obtain ⟨hx, hb, hml, hown, hts, hK, hN, hs0, hlk, hR1, hR2, hR3, hR4⟩ := F
  intro H locs ls hz hP hS hL
  exact lv_null hx hb hd (kk H locs ls hz hP hS hL)
theorem s_iload_n (F : Fx X own cc nL d mc ms) {k : Fin 4} {x : Int32} (hd : decode cc pc = .ok (.iload_n k, 1)) (hl : lv[(k : Nat)]? = some (some (.inl x))) (kk : G X nL kc ks n Ly (pc + 1) lv (.inl x :: st) I P) : G X nL kc ks n Ly pc lv st I P := by
  obtain ⟨p, l, e, R, s, m, args, below, meth, c, s0, D, DA, Q⟩ := X
  obtain ⟨hx, hb, hml, hown, hts, hK, hN, hs0, hlk, hR1, hR2, hR3, hR4⟩ := F
  intro H locs ls hz hP hS hL
  exact lv_iload_n hx hb hd rfl (hL.2.2 _ _ hl) (kk H locs ls hz hP hS hL)
theorem s_iload (F : Fx X own cc nL d mc ms) {k : Nat} {x : Int32} (hd : decode cc pc = .ok (.iload k, 2)) (hl : lv[k]? = some (some (.inl x))) (kk : G X nL kc ks n Ly (pc + 2) lv (.inl x :: st) I P) : G X nL kc ks n Ly pc lv st I P := by
  obtain ⟨p, l, e, R, s, m, args, below, meth, c, s0, D, DA, Q⟩ := X
  obtain ⟨hx, hb, hml, hown, hts, hK, hN, hs0, hlk, hR1, hR2, hR3, hR4⟩ := F
  intro H locs ls hz hP hS hL
  exact lv_iload hx hb hd (hL.2.2 _ _ hl) (kk H locs ls hz hP hS hL)
theorem s_aload_n (F : Fx X own cc nL d mc ms) {k : Fin 4} {o : Option Nat} (hd : decode cc pc = .ok (.aload_n k, 1)) (hl : lv[(k : Nat)]? = some (some (.inr o))) (kk : G X nL kc ks n Ly (pc + 1) lv (.inr o :: st) I P) : G X nL kc ks n Ly pc lv st I P := by
  obtain ⟨p, l, e, R, s, m, args, below, meth, c, s0, D, DA, Q⟩ := X
  obtain ⟨hx, hb, hml, hown, hts, hK, hN, hs0, hlk, hR1, hR2, hR3, hR4⟩ := F
  intro H locs ls hz hP hS hL
  cases o with
  | none => exact lv_aload_nN hx hb hd rfl (hL.2.2 _ _ hl) (kk H locs ls hz hP hS hL)
  | some b => exact lv_aload_n hx hb hd rfl (hL.2.2 _ _ hl) (kk H locs ls hz hP hS hL)
theorem s_aload (F : Fx X own cc nL d mc ms) {k : Nat} {o : Option Nat} (hd : decode cc pc = .ok (.aload k, 2)) (hl : lv[k]? = some (some (.inr o))) (kk : G X nL kc ks n Ly (pc + 2) lv (.inr o :: st) I P) : G X nL kc ks n Ly pc lv st I P := by
  obtain ⟨p, l, e, R, s, m, args, below, meth, c, s0, D, DA, Q⟩ := X
  obtain ⟨hx, hb, hml, hown, hts, hK, hN, hs0, hlk, hR1, hR2, hR3, hR4⟩ := F
  intro H locs ls hz hP hS hL
  cases o with
  | none => exact lv_aloadN hx hb hd (hL.2.2 _ _ hl) (kk H locs ls hz hP hS hL)
  | some b => exact lv_aload hx hb hd (hL.2.2 _ _ hl) (kk H locs ls hz hP hS hL)
theorem s_istore_n (F : Fx X own cc nL d mc ms) {k : Fin 4} {x : Int32} (hd : decode cc pc = .ok (.istore_n k, 1)) (hk : (k : Nat) < nL) (kk : G X nL kc ks n Ly (pc + 1) (lv.set (k : Nat) (some (.inl x))) st I P) : G X nL kc ks n Ly pc lv (.inl x :: st) I P := by
  obtain ⟨p, l, e, R, s, m, args, below, meth, c, s0, D, DA, Q⟩ := X
  obtain ⟨hx, hb, hml, hown, hts, hK, hN, hs0, hlk, hR1, hR2, hR3, hR4⟩ := F
  intro H locs ls hz hP hS hL
  exact lv_istore_n hx hb hd rfl hL.has hk rfl (fun ls' h' => kk H locs ls' hz hP hS (LR.of (v := .inl x) hL h'))
theorem s_istore (F : Fx X own cc nL d mc ms) {k : Nat} {x : Int32} (hd : decode cc pc = .ok (.istore k, 2)) (hk : k < nL) (kk : G X nL kc ks n Ly (pc + 2) (lv.set k (some (.inl x))) st I P) : G X nL kc ks n Ly pc lv (.inl x :: st) I P := by
  obtain ⟨p, l, e, R, s, m, args, below, meth, c, s0, D, DA, Q⟩ := X
  obtain ⟨hx, hb, hml, hown, hts, hK, hN, hs0, hlk, hR1, hR2, hR3, hR4⟩ := F
  intro H locs ls hz hP hS hL
  exact lv_istore hx hb hd hL.has hk rfl (fun ls' h' => kk H locs ls' hz hP hS (LR.of (v := .inl x) hL h'))
theorem s_astore_n (F : Fx X own cc nL d mc ms) {k : Fin 4} {o : Option Nat} (hd : decode cc pc = .ok (.astore_n k, 1)) (hk : (k : Nat) < nL) (kk : G X nL kc ks n Ly (pc + 1) (lv.set (k : Nat) (some (.inr o))) st I P) : G X nL kc ks n Ly pc lv (.inr o :: st) I P := by
  obtain ⟨p, l, e, R, s, m, args, below, meth, c, s0, D, DA, Q⟩ := X
  obtain ⟨hx, hb, hml, hown, hts, hK, hN, hs0, hlk, hR1, hR2, hR3, hR4⟩ := F
  intro H locs ls hz hP hS hL
  cases o with
  | none => exact lv_astore_nN hx hb hd rfl hL.has hk rfl (fun ls' h' => kk H locs ls' hz hP hS (LR.of (v := .inr none) hL h'))
  | some b => exact lv_astore_n hx hb hd rfl hL.has hk rfl (fun ls' h' => kk H locs ls' hz hP hS (LR.of (v := .inr (some b)) hL h'))
theorem s_astore (F : Fx X own cc nL d mc ms) {k : Nat} {o : Option Nat} (hd : decode cc pc = .ok (.astore k, 2)) (hk : k < nL) (kk : G X nL kc ks n Ly (pc + 2) (lv.set k (some (.inr o))) st I P) : G X nL kc ks n Ly pc lv (.inr o :: st) I P := by
  obtain ⟨p, l, e, R, s, m, args, below, meth, c, s0, D, DA, Q⟩ := X
  obtain ⟨hx, hb, hml, hown, hts, hK, hN, hs0, hlk, hR1, hR2, hR3, hR4⟩ := F
  intro H locs ls hz hP hS hL
  cases o with
  | none => exact lv_astoreN hx hb hd hL.has hk rfl (fun ls' h' => kk H locs ls' hz hP hS (LR.of (v := .inr none) hL h'))
  | some b => exact lv_astore hx hb hd hL.has hk rfl (fun ls' h' => kk H locs ls' hz hP hS (LR.of (v := .inr (some b)) hL h'))
theorem s_iinc (F : Fx X own cc nL d mc ms) {k : Nat} {j : Int} {x v : Int32} (hd : decode cc pc = .ok (.iinc k j, 3)) (hl : lv[k]? = some (some (.inl x))) (hk : k < nL) (hv : x + Int32.ofInt j = v) (kk : G X nL kc ks n Ly (pc + 3) (lv.set k (some (.inl v))) st I P) : G X nL kc ks n Ly pc lv st I P := by
  obtain ⟨p, l, e, R, s, m, args, below, meth, c, s0, D, DA, Q⟩ := X
  obtain ⟨hx, hb, hml, hown, hts, hK, hN, hs0, hlk, hR1, hR2, hR3, hR4⟩ := F
  intro H locs ls hz hP hS hL
  obtain ⟨i, hi⟩ := List.getElem?_of_mem (prs_mem.mpr ⟨_, hl, rfl⟩ : (k, cv s0 (.inl x)) ∈ prs s0 lv)
  exact lv_iinc hx hb hd hL.has hi hv hk rfl (fun ls' h' => kk H locs ls' hz hP hS (LR.of (v := .inl v) hL h'))
theorem s_iadd (F : Fx X own cc nL d mc ms) {x y : Int32} (hd : decode cc pc = .ok (.iadd, 1)) (kk : G X nL kc ks n Ly (pc + 1) lv (.inl (x + y) :: st) I P) : G X nL kc ks n Ly pc lv (.inl y :: .inl x :: st) I P := by
  obtain ⟨p, l, e, R, s, m, args, below, meth, c, s0, D, DA, Q⟩ := X
  obtain ⟨hx, hb, hml, hown, hts, hK, hN, hs0, hlk, hR1, hR2, hR3, hR4⟩ := F
  intro H locs ls hz hP hS hL
  exact lv_iadd hx hb hd (kk H locs ls hz hP hS hL)
theorem s_isub (F : Fx X own cc nL d mc ms) {x y : Int32} (hd : decode cc pc = .ok (.isub, 1)) (kk : G X nL kc ks n Ly (pc + 1) lv (.inl (x - y) :: st) I P) : G X nL kc ks n Ly pc lv (.inl y :: .inl x :: st) I P := by
  obtain ⟨p, l, e, R, s, m, args, below, meth, c, s0, D, DA, Q⟩ := X
  obtain ⟨hx, hb, hml, hown, hts, hK, hN, hs0, hlk, hR1, hR2, hR3, hR4⟩ := F
  intro H locs ls hz hP hS hL
  exact lv_isub hx hb hd (kk H locs ls hz hP hS hL)
theorem s_imul (F : Fx X own cc nL d mc ms) {x y : Int32} (hd : decode cc pc = .ok (.imul, 1)) (kk : G X nL kc ks n Ly (pc + 1) lv (.inl (x * y) :: st) I P) : G X nL kc ks n Ly pc lv (.inl y :: .inl x :: st) I P := by
  obtain ⟨p, l, e, R, s, m, args, below, meth, c, s0, D, DA, Q⟩ := X
  obtain ⟨hx, hb, hml, hown, hts, hK, hN, hs0, hlk, hR1, hR2, hR3, hR4⟩ := F
  intro H locs ls hz hP hS hL
  exact lv_imul hx hb hd (kk H locs ls hz hP hS hL)
theorem s_iand (F : Fx X own cc nL d mc ms) {x y : Int32} (hd : decode cc pc = .ok (.iand, 1)) (kk : G X nL kc ks n Ly (pc + 1) lv (.inl (x &&& y) :: st) I P) : G X nL kc ks n Ly pc lv (.inl y :: .inl x :: st) I P := by
  obtain ⟨p, l, e, R, s, m, args, below, meth, c, s0, D, DA, Q⟩ := X
  obtain ⟨hx, hb, hml, hown, hts, hK, hN, hs0, hlk, hR1, hR2, hR3, hR4⟩ := F
  intro H locs ls hz hP hS hL
  exact lv_iand hx hb hd (kk H locs ls hz hP hS hL)
theorem s_ineg (F : Fx X own cc nL d mc ms) {x : Int32} (hd : decode cc pc = .ok (.ineg, 1)) (kk : G X nL kc ks n Ly (pc + 1) lv (.inl (-x) :: st) I P) : G X nL kc ks n Ly pc lv (.inl x :: st) I P := by
  obtain ⟨p, l, e, R, s, m, args, below, meth, c, s0, D, DA, Q⟩ := X
  obtain ⟨hx, hb, hml, hown, hts, hK, hN, hs0, hlk, hR1, hR2, hR3, hR4⟩ := F
  intro H locs ls hz hP hS hL
  exact lv_ineg hx hb hd (kk H locs ls hz hP hS hL)
theorem s_idiv (F : Fx X own cc nL d mc ms) {x y : Int32} (hd : decode cc pc = .ok (.idiv, 1)) (hy : ¬ y = 0) (kk : G X nL kc ks n Ly (pc + 1) lv (.inl (x / y) :: st) I P) : G X nL kc ks n Ly pc lv (.inl y :: .inl x :: st) I P := by
  obtain ⟨p, l, e, R, s, m, args, below, meth, c, s0, D, DA, Q⟩ := X
  obtain ⟨hx, hb, hml, hown, hts, hK, hN, hs0, hlk, hR1, hR2, hR3, hR4⟩ := F
  intro H locs ls hz hP hS hL
  exact lv_idiv hx hb hd hy (kk H locs ls hz hP hS hL)
theorem s_irem (F : Fx X own cc nL d mc ms) {x y : Int32} (hd : decode cc pc = .ok (.irem, 1)) (hy : ¬ y = 0) (kk : G X nL kc ks n Ly (pc + 1) lv (.inl (x - x / y * y) :: st) I P) : G X nL kc ks n Ly pc lv (.inl y :: .inl x :: st) I P := by
  obtain ⟨p, l, e, R, s, m, args, below, meth, c, s0, D, DA, Q⟩ := X
  obtain ⟨hx, hb, hml, hown, hts, hK, hN, hs0, hlk, hR1, hR2, hR3, hR4⟩ := F
  intro H locs ls hz hP hS hL
  exact lv_irem hx hb hd hy (kk H locs ls hz hP hS hL)
theorem s_i2c (F : Fx X own cc nL d mc ms) {x : Int32} (hd : decode cc pc = .ok (.i2c, 1)) (kk : G X nL kc ks n Ly (pc + 1) lv (.inl (x.toUInt32 % 65536).toInt32 :: st) I P) : G X nL kc ks n Ly pc lv (.inl x :: st) I P := by
  obtain ⟨p, l, e, R, s, m, args, below, meth, c, s0, D, DA, Q⟩ := X
  obtain ⟨hx, hb, hml, hown, hts, hK, hN, hs0, hlk, hR1, hR2, hR3, hR4⟩ := F
  intro H locs ls hz hP hS hL
  exact lv_i2c hx hb hd rfl (kk H locs ls hz hP hS hL)
theorem s_dup (F : Fx X own cc nL d mc ms) {a : AV} (hd : decode cc pc = .ok (.dup, 1)) (kk : G X nL kc ks n Ly (pc + 1) lv (a :: a :: st) I P) : G X nL kc ks n Ly pc lv (a :: st) I P := by
  obtain ⟨p, l, e, R, s, m, args, below, meth, c, s0, D, DA, Q⟩ := X
  obtain ⟨hx, hb, hml, hown, hts, hK, hN, hs0, hlk, hR1, hR2, hR3, hR4⟩ := F
  intro H locs ls hz hP hS hL
  exact lv_dup hx hb hd (cv_cat s0 a) (kk H locs ls hz hP hS hL)
theorem s_pop (F : Fx X own cc nL d mc ms) {a : AV} (hd : decode cc pc = .ok (.pop, 1)) (kk : G X nL kc ks n Ly (pc + 1) lv st I P) : G X nL kc ks n Ly pc lv (a :: st) I P := by
  obtain ⟨p, l, e, R, s, m, args, below, meth, c, s0, D, DA, Q⟩ := X
  obtain ⟨hx, hb, hml, hown, hts, hK, hN, hs0, hlk, hR1, hR2, hR3, hR4⟩ := F
  intro H locs ls hz hP hS hL
  exact lv_pop hx hb hd (cv_cat s0 a) (kk H locs ls hz hP hS hL)
theorem s_dup_x1 (F : Fx X own cc nL d mc ms) {a b : AV} (hd : decode cc pc = .ok (.dup_x1, 1)) (kk : G X nL kc ks n Ly (pc + 1) lv (a :: b :: a :: st) I P) : G X nL kc ks n Ly pc lv (a :: b :: st) I P := by
  obtain ⟨p, l, e, R, s, m, args, below, meth, c, s0, D, DA, Q⟩ := X
  obtain ⟨hx, hb, hml, hown, hts, hK, hN, hs0, hlk, hR1, hR2, hR3, hR4⟩ := F
  intro H locs ls hz hP hS hL
  exact lv_dup_x1 hx hb hd (cv_cat s0 a) (cv_cat s0 b) (kk H locs ls hz hP hS hL)
theorem s_dup_x2 (F : Fx X own cc nL d mc ms) {a b f : AV} (hd : decode cc pc = .ok (.dup_x2, 1)) (kk : G X nL kc ks n Ly (pc + 1) lv (a :: b :: f :: a :: st) I P) : G X nL kc ks n Ly pc lv (a :: b :: f :: st) I P := by
  obtain ⟨p, l, e, R, s, m, args, below, meth, c, s0, D, DA, Q⟩ := X
  obtain ⟨hx, hb, hml, hown, hts, hK, hN, hs0, hlk, hR1, hR2, hR3, hR4⟩ := F
  intro H locs ls hz hP hS hL
  exact lv_dup_x2 hx hb hd (cv_cat s0 a) (cv_cat s0 b) (cv_cat s0 f) (kk H locs ls hz hP hS hL)
theorem s_dup2 (F : Fx X own cc nL d mc ms) {a b : AV} (hd : decode cc pc = .ok (.dup2, 1)) (kk : G X nL kc ks n Ly (pc + 1) lv (a :: b :: a :: b :: st) I P) : G X nL kc ks n Ly pc lv (a :: b :: st) I P := by
  obtain ⟨p, l, e, R, s, m, args, below, meth, c, s0, D, DA, Q⟩ := X
  obtain ⟨hx, hb, hml, hown, hts, hK, hN, hs0, hlk, hR1, hR2, hR3, hR4⟩ := F
  intro H locs ls hz hP hS hL
  exact lv_dup2_11 hx hb hd (cv_cat s0 a) (cv_cat s0 b) (kk H locs ls hz hP hS hL)
theorem s_if_eq (F : Fx X own cc nL d mc ms) {x : Int32} {off : Int} {tgt : Nat} (hd : decode cc pc = .ok (.ifCond .eq off, 3)) (ht : (pc : Int) + off = (tgt : Int)) (kt : x = 0 → G X nL kc ks n Ly tgt lv st I P) (kf : ¬ x = 0 → G X nL kc ks n Ly (pc + 3) lv st I P) : G X nL kc ks n Ly pc lv (.inl x :: st) I P := by
  obtain ⟨p, l, e, R, s, m, args, below, meth, c, s0, D, DA, Q⟩ := X
  obtain ⟨hx, hb, hml, hown, hts, hK, hN, hs0, hlk, hR1, hR2, hR3, hR4⟩ := F
  intro H locs ls hz hP hS hL
  exact lv_if_eq hx hb hd ht (fun q => kt q H locs ls hz hP hS hL) (fun q => kf q H locs ls hz hP hS hL)
theorem s_if_ne (F : Fx X own cc nL d mc ms) {x : Int32} {off : Int} {tgt : Nat} (hd : decode cc pc = .ok (.ifCond .ne off, 3)) (ht : (pc : Int) + off = (tgt : Int)) (kt : ¬ x = 0 → G X nL kc ks n Ly tgt lv st I P) (kf : x = 0 → G X nL kc ks n Ly (pc + 3) lv st I P) : G X nL kc ks n Ly pc lv (.inl x :: st) I P := by
  obtain ⟨p, l, e, R, s, m, args, below, meth, c, s0, D, DA, Q⟩ := X
  obtain ⟨hx, hb, hml, hown, hts, hK, hN, hs0, hlk, hR1, hR2, hR3, hR4⟩ := F
  intro H locs ls hz hP hS hL
  exact lv_if_ne hx hb hd ht (fun q => kt q H locs ls hz hP hS hL) (fun q => kf q H locs ls hz hP hS hL)
theorem s_if_lt (F : Fx X own cc nL d mc ms) {x : Int32} {off : Int} {tgt : Nat} (hd : decode cc pc = .ok (.ifCond .lt off, 3)) (ht : (pc : Int) + off = (tgt : Int)) (kt : x < 0 → G X nL kc ks n Ly tgt lv st I P) (kf : ¬ x < 0 → G X nL kc ks n Ly (pc + 3) lv st I P) : G X nL kc ks n Ly pc lv (.inl x :: st) I P := by
  obtain ⟨p, l, e, R, s, m, args, below, meth, c, s0, D, DA, Q⟩ := X
  obtain ⟨hx, hb, hml, hown, hts, hK, hN, hs0, hlk, hR1, hR2, hR3, hR4⟩ := F
  intro H locs ls hz hP hS hL
  exact lv_if_lt hx hb hd ht (fun q => kt q H locs ls hz hP hS hL) (fun q => kf q H locs ls hz hP hS hL)
theorem s_if_ge (F : Fx X own cc nL d mc ms) {x : Int32} {off : Int} {tgt : Nat} (hd : decode cc pc = .ok (.ifCond .ge off, 3)) (ht : (pc : Int) + off = (tgt : Int)) (kt : 0 ≤ x → G X nL kc ks n Ly tgt lv st I P) (kf : ¬ 0 ≤ x → G X nL kc ks n Ly (pc + 3) lv st I P) : G X nL kc ks n Ly pc lv (.inl x :: st) I P := by
  obtain ⟨p, l, e, R, s, m, args, below, meth, c, s0, D, DA, Q⟩ := X
  obtain ⟨hx, hb, hml, hown, hts, hK, hN, hs0, hlk, hR1, hR2, hR3, hR4⟩ := F
  intro H locs ls hz hP hS hL
  exact lv_if_ge hx hb hd ht (fun q => kt q H locs ls hz hP hS hL) (fun q => kf q H locs ls hz hP hS hL)
theorem s_if_gt (F : Fx X own cc nL d mc ms) {x : Int32} {off : Int} {tgt : Nat} (hd : decode cc pc = .ok (.ifCond .gt off, 3)) (ht : (pc : Int) + off = (tgt : Int)) (kt : 0 < x → G X nL kc ks n Ly tgt lv st I P) (kf : ¬ 0 < x → G X nL kc ks n Ly (pc + 3) lv st I P) : G X nL kc ks n Ly pc lv (.inl x :: st) I P := by
  obtain ⟨p, l, e, R, s, m, args, below, meth, c, s0, D, DA, Q⟩ := X
  obtain ⟨hx, hb, hml, hown, hts, hK, hN, hs0, hlk, hR1, hR2, hR3, hR4⟩ := F
  intro H locs ls hz hP hS hL
  exact lv_if_gt hx hb hd ht (fun q => kt q H locs ls hz hP hS hL) (fun q => kf q H locs ls hz hP hS hL)
theorem s_if_le (F : Fx X own cc nL d mc ms) {x : Int32} {off : Int} {tgt : Nat} (hd : decode cc pc = .ok (.ifCond .le off, 3)) (ht : (pc : Int) + off = (tgt : Int)) (kt : x ≤ 0 → G X nL kc ks n Ly tgt lv st I P) (kf : ¬ x ≤ 0 → G X nL kc ks n Ly (pc + 3) lv st I P) : G X nL kc ks n Ly pc lv (.inl x :: st) I P := by
  obtain ⟨p, l, e, R, s, m, args, below, meth, c, s0, D, DA, Q⟩ := X
  obtain ⟨hx, hb, hml, hown, hts, hK, hN, hs0, hlk, hR1, hR2, hR3, hR4⟩ := F
  intro H locs ls hz hP hS hL
  exact lv_if_le hx hb hd ht (fun q => kt q H locs ls hz hP hS hL) (fun q => kf q H locs ls hz hP hS hL)
theorem s_icmp_eq (F : Fx X own cc nL d mc ms) {x y : Int32} {off : Int} {tgt : Nat} (hd : decode cc pc = .ok (.if_icmp .eq off, 3)) (ht : (pc : Int) + off = (tgt : Int)) (kt : x = y → G X nL kc ks n Ly tgt lv st I P) (kf : ¬ x = y → G X nL kc ks n Ly (pc + 3) lv st I P) : G X nL kc ks n Ly pc lv (.inl y :: .inl x :: st) I P := by
  obtain ⟨p, l, e, R, s, m, args, below, meth, c, s0, D, DA, Q⟩ := X
  obtain ⟨hx, hb, hml, hown, hts, hK, hN, hs0, hlk, hR1, hR2, hR3, hR4⟩ := F
  intro H locs ls hz hP hS hL
  exact lv_icmp_eq hx hb hd ht (fun q => kt q H locs ls hz hP hS hL) (fun q => kf q H locs ls hz hP hS hL)
theorem s_icmp_ne (F : Fx X own cc nL d mc ms) {x y : Int32} {off : Int} {tgt : Nat} (hd : decode cc pc = .ok (.if_icmp .ne off, 3)) (ht : (pc : Int) + off = (tgt : Int)) (kt : ¬ x = y → G X nL kc ks n Ly tgt lv st I P) (kf : x = y → G X nL kc ks n Ly (pc + 3) lv st I P) : G X nL kc ks n Ly pc lv (.inl y :: .inl x :: st) I P := by
  obtain ⟨p, l, e, R, s, m, args, below, meth, c, s0, D, DA, Q⟩ := X
  obtain ⟨hx, hb, hml, hown, hts, hK, hN, hs0, hlk, hR1, hR2, hR3, hR4⟩ := F
  intro H locs ls hz hP hS hL
  exact lv_icmp_ne hx hb hd ht (fun q => kt q H locs ls hz hP hS hL) (fun q => kf q H locs ls hz hP hS hL)
theorem s_icmp_lt (F : Fx X own cc nL d mc ms) {x y : Int32} {off : Int} {tgt : Nat} (hd : decode cc pc = .ok (.if_icmp .lt off, 3)) (ht : (pc : Int) + off = (tgt : Int)) (kt : x < y → G X nL kc ks n Ly tgt lv st I P) (kf : ¬ x < y → G X nL kc ks n Ly (pc + 3) lv st I P) : G X nL kc ks n Ly pc lv (.inl y :: .inl x :: st) I P := by
  obtain ⟨p, l, e, R, s, m, args, below, meth, c, s0, D, DA, Q⟩ := X
  obtain ⟨hx, hb, hml, hown, hts, hK, hN, hs0, hlk, hR1, hR2, hR3, hR4⟩ := F
  intro H locs ls hz hP hS hL
  exact lv_icmp_lt hx hb hd ht (fun q => kt q H locs ls hz hP hS hL) (fun q => kf q H locs ls hz hP hS hL)
theorem s_icmp_ge (F : Fx X own cc nL d mc ms) {x y : Int32} {off : Int} {tgt : Nat} (hd : decode cc pc = .ok (.if_icmp .ge off, 3)) (ht : (pc : Int) + off = (tgt : Int)) (kt : y ≤ x → G X nL kc ks n Ly tgt lv st I P) (kf : ¬ y ≤ x → G X nL kc ks n Ly (pc + 3) lv st I P) : G X nL kc ks n Ly pc lv (.inl y :: .inl x :: st) I P := by
  obtain ⟨p, l, e, R, s, m, args, below, meth, c, s0, D, DA, Q⟩ := X
  obtain ⟨hx, hb, hml, hown, hts, hK, hN, hs0, hlk, hR1, hR2, hR3, hR4⟩ := F
  intro H locs ls hz hP hS hL
  exact lv_icmp_ge hx hb hd ht (fun q => kt q H locs ls hz hP hS hL) (fun q => kf q H locs ls hz hP hS hL)
theorem s_icmp_gt (F : Fx X own cc nL d mc ms) {x y : Int32} {off : Int} {tgt : Nat} (hd : decode cc pc = .ok (.if_icmp .gt off, 3)) (ht : (pc : Int) + off = (tgt : Int)) (kt : y < x → G X nL kc ks n Ly tgt lv st I P) (kf : ¬ y < x → G X nL kc ks n Ly (pc + 3) lv st I P) : G X nL kc ks n Ly pc lv (.inl y :: .inl x :: st) I P := by
  obtain ⟨p, l, e, R, s, m, args, below, meth, c, s0, D, DA, Q⟩ := X
  obtain ⟨hx, hb, hml, hown, hts, hK, hN, hs0, hlk, hR1, hR2, hR3, hR4⟩ := F
  intro H locs ls hz hP hS hL
  exact lv_icmp_gt hx hb hd ht (fun q => kt q H locs ls hz hP hS hL) (fun q => kf q H locs ls hz hP hS hL)
theorem s_icmp_le (F : Fx X own cc nL d mc ms) {x y : Int32} {off : Int} {tgt : Nat} (hd : decode cc pc = .ok (.if_icmp .le off, 3)) (ht : (pc : Int) + off = (tgt : Int)) (kt : x ≤ y → G X nL kc ks n Ly tgt lv st I P) (kf : ¬ x ≤ y → G X nL kc ks n Ly (pc + 3) lv st I P) : G X nL kc ks n Ly pc lv (.inl y :: .inl x :: st) I P := by
  obtain ⟨p, l, e, R, s, m, args, below, meth, c, s0, D, DA, Q⟩ := X
  obtain ⟨hx, hb, hml, hown, hts, hK, hN, hs0, hlk, hR1, hR2, hR3, hR4⟩ := F
  intro H locs ls hz hP hS hL
  exact lv_icmp_le hx hb hd ht (fun q => kt q H locs ls hz hP hS hL) (fun q => kf q H locs ls hz hP hS hL)
theorem s_goto (F : Fx X own cc nL d mc ms) {off : Int} {tgt : Nat} (hd : decode cc pc = .ok (.goto off, 3)) (ht : (pc : Int) + off = (tgt : Int)) (kk : G X nL kc ks n Ly tgt lv st I P) : G X nL kc ks n Ly pc lv st I P := by
  obtain ⟨p, l, e, R, s, m, args, below, meth, c, s0, D, DA, Q⟩ := X
  obtain ⟨hx, hb, hml, hown, hts, hK, hN, hs0, hlk, hR1, hR2, hR3, hR4⟩ := F
  intro H locs ls hz hP hS hL
  exact lv_goto hx hb hd ht (kk H locs ls hz hP hS hL)
theorem s_ifnull (F : Fx X own cc nL d mc ms) {off : Int} {b : Nat} (hd : decode cc pc = .ok (.ifnull off, 3)) (kk : G X nL kc ks n Ly (pc + 3) lv st I P) : G X nL kc ks n Ly pc lv (.inr (some b) :: st) I P := by
  obtain ⟨p, l, e, R, s, m, args, below, meth, c, s0, D, DA, Q⟩ := X
  obtain ⟨hx, hb, hml, hown, hts, hK, hN, hs0, hlk, hR1, hR2, hR3, hR4⟩ := F
  intro H locs ls hz hP hS hL
  exact lv_ifnull hx hb hd (kk H locs ls hz hP hS hL)
theorem s_ifnullN (F : Fx X own cc nL d mc ms) {off : Int} {tgt : Nat} (hd : decode cc pc = .ok (.ifnull off, 3)) (ht : (pc : Int) + off = (tgt : Int)) (kk : G X nL kc ks n Ly tgt lv st I P) : G X nL kc ks n Ly pc lv (.inr none :: st) I P := by
  obtain ⟨p, l, e, R, s, m, args, below, meth, c, s0, D, DA, Q⟩ := X
  obtain ⟨hx, hb, hml, hown, hts, hK, hN, hs0, hlk, hR1, hR2, hR3, hR4⟩ := F
  intro H locs ls hz hP hS hL
  exact lv_ifnullN hx hb hd ht (kk H locs ls hz hP hS hL)
theorem s_ifnonnull (F : Fx X own cc nL d mc ms) {off : Int} {tgt b : Nat} (hd : decode cc pc = .ok (.ifnonnull off, 3)) (ht : (pc : Int) + off = (tgt : Int)) (kk : G X nL kc ks n Ly tgt lv st I P) : G X nL kc ks n Ly pc lv (.inr (some b) :: st) I P := by
  obtain ⟨p, l, e, R, s, m, args, below, meth, c, s0, D, DA, Q⟩ := X
  obtain ⟨hx, hb, hml, hown, hts, hK, hN, hs0, hlk, hR1, hR2, hR3, hR4⟩ := F
  intro H locs ls hz hP hS hL
  exact lv_ifnonnull hx hb hd ht (kk H locs ls hz hP hS hL)
theorem s_ifnonnullN (F : Fx X own cc nL d mc ms) {off : Int} (hd : decode cc pc = .ok (.ifnonnull off, 3)) (kk : G X nL kc ks n Ly (pc + 3) lv st I P) : G X nL kc ks n Ly pc lv (.inr none :: st) I P := by
  obtain ⟨p, l, e, R, s, m, args, below, meth, c, s0, D, DA, Q⟩ := X
  obtain ⟨hx, hb, hml, hown, hts, hK, hN, hs0, hlk, hR1, hR2, hR3, hR4⟩ := F
  intro H locs ls hz hP hS hL
  exact lv_ifnonnullN hx hb hd (kk H locs ls hz hP hS hL)
theorem s_swOut (F : Fx X own cc nL d mc ms) {dflt lo hi : Int} {offs : Array Int} {len : Nat} {x : Int32} {tgt : Nat} (hd : decode cc pc = .ok (.tableswitch dflt lo hi offs, len)) (h : x.toInt < lo ∨ hi < x.toInt) (ht : (pc : Int) + dflt = (tgt : Int)) (kk : G X nL kc ks n Ly tgt lv st I P) : G X nL kc ks n Ly pc lv (.inl x :: st) I P := by
  obtain ⟨p, l, e, R, s, m, args, below, meth, c, s0, D, DA, Q⟩ := X
  obtain ⟨hx, hb, hml, hown, hts, hK, hN, hs0, hlk, hR1, hR2, hR3, hR4⟩ := F
  intro H locs ls hz hP hS hL
  exact lv_tableOut hx hb hd h ht (kk H locs ls hz hP hS hL)
theorem s_swIn (F : Fx X own cc nL d mc ms) {dflt lo hi : Int} {offs : Array Int} {len : Nat} {x : Int32} {off : Int} {tgt : Nat} (hd : decode cc pc = .ok (.tableswitch dflt lo hi offs, len)) (h1 : ¬ x.toInt < lo) (h2 : ¬ hi < x.toInt) (ho : offs[(x.toInt - lo).toNat]? = some off) (ht : (pc : Int) + off = (tgt : Int)) (kk : G X nL kc ks n Ly tgt lv st I P) : G X nL kc ks n Ly pc lv (.inl x :: st) I P := by
  obtain ⟨p, l, e, R, s, m, args, below, meth, c, s0, D, DA, Q⟩ := X
  obtain ⟨hx, hb, hml, hown, hts, hK, hN, hs0, hlk, hR1, hR2, hR3, hR4⟩ := F
  intro H locs ls hz hP hS hL
  exact lv_tableIn hx hb hd h1 h2 ho ht (kk H locs ls hz hP hS hL)
theorem s_getI (F : Fx X own cc nL d mc ms) {idx ci k a : Nat} (hd : decode cc pc = .ok (.getfield idx, 3)) (hf : FL own idx ci k) (hl : Ly a = .inl ci) (ha : a < n) (hr : isR ci k = false) (kk : G X nL kc ks n Ly (pc + 3) lv (.inl (I a k) :: st) I P) : G X nL kc ks n Ly pc lv (.inr (some a) :: st) I P := by
  obtain ⟨p, l, e, R, s, m, args, below, meth, c, s0, D, DA, Q⟩ := X
  obtain ⟨hx, hb, hml, hown, hts, hK, hN, hs0, hlk, hR1, hR2, hR3, hR4⟩ := F
  intro H locs ls hz hP hS hL
  obtain ⟨hci, hk, hlink⟩ := hf
  refine va_get (v := .int (I a k)) hx hb hts (ws_in hci) hown hK hP a ((wd_get ha).trans (by rw [cE_o hl])) (cl_at hci) k hk (hts _ hlink) (fun _ h => h) ?_ hd (kk H locs ls hz hP hS hL)
  simp [hk, fV, hr]
theorem s_getR (F : Fx X own cc nL d mc ms) {idx ci k a : Nat} {o : Option Nat} (hd : decode cc pc = .ok (.getfield idx, 3)) (hf : FL own idx ci k) (hl : Ly a = .inl ci) (ha : a < n) (hr : isR ci k = true) (ho : P a k = o) (kk : G X nL kc ks n Ly (pc + 3) lv (.inr o :: st) I P) : G X nL kc ks n Ly pc lv (.inr (some a) :: st) I P := by
  obtain ⟨p, l, e, R, s, m, args, below, meth, c, s0, D, DA, Q⟩ := X
  obtain ⟨hx, hb, hml, hown, hts, hK, hN, hs0, hlk, hR1, hR2, hR3, hR4⟩ := F
  intro H locs ls hz hP hS hL
  obtain ⟨hci, hk, hlink⟩ := hf
  subst ho
  refine va_get (v := rv s0 (P a k)) hx hb hts (ws_in hci) hown hK hP a ((wd_get ha).trans (by rw [cE_o hl])) (cl_at hci) k hk (hts _ hlink) (fun _ h => h) ?_ hd (kk H locs ls hz hP hS hL)
  simp [hk, fV, hr]
end ROWS
