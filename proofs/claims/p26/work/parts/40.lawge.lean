/-! the law's own body: rows with so many calls of heaps left (c) -/
def GE (b0 : Nat) (X : Cx) (c : Nat) (pc : Nat) (lv : List (Option AV)) (st : List AV) (A : AbS) : Prop := ∀ (kc ks n0 : Nat) (q : II), kc + 4 * c ≤ 600000 → ks + 256 * c ≤ 7302250 → GA (some b0) X 16 kc ks n0 0 pc lv st A q
theorem GE.weak {b0 : Nat} {X : Cx} {c pc : Nat} {a b : List (Option AV)} {st : List AV} {A : AbS} (hl : leL a b) (h : GE b0 X c pc a st A) : GE b0 X c pc b st A := fun kc ks n0 q h1 h2 => (h kc ks n0 q h1 h2).weak hl
section GEROWS
variable {b0 : Nat} {X : Cx} {c pc : Nat} {lv : List (Option AV)} {st st' av : List AV} {A A' : AbS} {idx : Nat} {md : MD}
theorem ge_iconst (F : Fx X RL cL_law 16 10 600000 7302250) {k : Int} {v : Int32} (hd : decode cL_law pc = .ok (.iconst k, 1)) (hv : Int32.ofInt k = v) (kk : GE b0 X c (pc + 1) lv (.inl v :: st) A) : GE b0 X c pc lv st A := fun kc ks n0 q h1 h2 => ga_iconst F hd hv (kk kc ks n0 q h1 h2)
theorem ge_bipush (F : Fx X RL cL_law 16 10 600000 7302250) {k : Int} {v : Int32} (hd : decode cL_law pc = .ok (.bipush k, 2)) (hv : (Int8.ofInt k).toInt32 = v) (kk : GE b0 X c (pc + 2) lv (.inl v :: st) A) : GE b0 X c pc lv st A := fun kc ks n0 q h1 h2 => ga_bipush F hd hv (kk kc ks n0 q h1 h2)
theorem ge_sipush (F : Fx X RL cL_law 16 10 600000 7302250) {k : Int} {v : Int32} (hd : decode cL_law pc = .ok (.sipush k, 3)) (hv : (Int16.ofInt k).toInt32 = v) (kk : GE b0 X c (pc + 3) lv (.inl v :: st) A) : GE b0 X c pc lv st A := fun kc ks n0 q h1 h2 => ga_sipush F hd hv (kk kc ks n0 q h1 h2)
theorem ge_iload_n (F : Fx X RL cL_law 16 10 600000 7302250) {k : Fin 4} {x : Int32} (hd : decode cL_law pc = .ok (.iload_n k, 1)) (hl : lv[(k : Nat)]? = some (some (.inl x))) (kk : GE b0 X c (pc + 1) lv (.inl x :: st) A) : GE b0 X c pc lv st A := fun kc ks n0 q h1 h2 => ga_iload_n F hd hl (kk kc ks n0 q h1 h2)
theorem ge_iload (F : Fx X RL cL_law 16 10 600000 7302250) {k : Nat} {x : Int32} (hd : decode cL_law pc = .ok (.iload k, 2)) (hl : lv[k]? = some (some (.inl x))) (kk : GE b0 X c (pc + 2) lv (.inl x :: st) A) : GE b0 X c pc lv st A := fun kc ks n0 q h1 h2 => ga_iload F hd hl (kk kc ks n0 q h1 h2)
theorem ge_aload_n (F : Fx X RL cL_law 16 10 600000 7302250) {k : Fin 4} {o : Option Nat} (hd : decode cL_law pc = .ok (.aload_n k, 1)) (hl : lv[(k : Nat)]? = some (some (.inr o))) (kk : GE b0 X c (pc + 1) lv (.inr o :: st) A) : GE b0 X c pc lv st A := fun kc ks n0 q h1 h2 => ga_aload_n F hd hl (kk kc ks n0 q h1 h2)
theorem ge_aload (F : Fx X RL cL_law 16 10 600000 7302250) {k : Nat} {o : Option Nat} (hd : decode cL_law pc = .ok (.aload k, 2)) (hl : lv[k]? = some (some (.inr o))) (kk : GE b0 X c (pc + 2) lv (.inr o :: st) A) : GE b0 X c pc lv st A := fun kc ks n0 q h1 h2 => ga_aload F hd hl (kk kc ks n0 q h1 h2)
theorem ge_iadd (F : Fx X RL cL_law 16 10 600000 7302250) {x y : Int32} (hd : decode cL_law pc = .ok (.iadd, 1)) (kk : GE b0 X c (pc + 1) lv (.inl (x + y) :: st) A) : GE b0 X c pc lv (.inl y :: .inl x :: st) A := fun kc ks n0 q h1 h2 => ga_iadd F hd (kk kc ks n0 q h1 h2)
theorem ge_isub (F : Fx X RL cL_law 16 10 600000 7302250) {x y : Int32} (hd : decode cL_law pc = .ok (.isub, 1)) (kk : GE b0 X c (pc + 1) lv (.inl (x - y) :: st) A) : GE b0 X c pc lv (.inl y :: .inl x :: st) A := fun kc ks n0 q h1 h2 => ga_isub F hd (kk kc ks n0 q h1 h2)
theorem ge_imul (F : Fx X RL cL_law 16 10 600000 7302250) {x y : Int32} (hd : decode cL_law pc = .ok (.imul, 1)) (kk : GE b0 X c (pc + 1) lv (.inl (x * y) :: st) A) : GE b0 X c pc lv (.inl y :: .inl x :: st) A := fun kc ks n0 q h1 h2 => ga_imul F hd (kk kc ks n0 q h1 h2)
theorem ge_iand (F : Fx X RL cL_law 16 10 600000 7302250) {x y : Int32} (hd : decode cL_law pc = .ok (.iand, 1)) (kk : GE b0 X c (pc + 1) lv (.inl (x &&& y) :: st) A) : GE b0 X c pc lv (.inl y :: .inl x :: st) A := fun kc ks n0 q h1 h2 => ga_iand F hd (kk kc ks n0 q h1 h2)
theorem ge_ineg (F : Fx X RL cL_law 16 10 600000 7302250) {x : Int32} (hd : decode cL_law pc = .ok (.ineg, 1)) (kk : GE b0 X c (pc + 1) lv (.inl (-x) :: st) A) : GE b0 X c pc lv (.inl x :: st) A := fun kc ks n0 q h1 h2 => ga_ineg F hd (kk kc ks n0 q h1 h2)
theorem ge_dup (F : Fx X RL cL_law 16 10 600000 7302250) {a : AV} (hd : decode cL_law pc = .ok (.dup, 1)) (kk : GE b0 X c (pc + 1) lv (a :: a :: st) A) : GE b0 X c pc lv (a :: st) A := fun kc ks n0 q h1 h2 => ga_dup F hd (kk kc ks n0 q h1 h2)
theorem ge_pop (F : Fx X RL cL_law 16 10 600000 7302250) {a : AV} (hd : decode cL_law pc = .ok (.pop, 1)) (kk : GE b0 X c (pc + 1) lv st A) : GE b0 X c pc lv (a :: st) A := fun kc ks n0 q h1 h2 => ga_pop F hd (kk kc ks n0 q h1 h2)
theorem ge_ishr (F : Fx X RL cL_law 16 10 600000 7302250) {x y : Int32} (hd : decode cL_law pc = .ok (.ishr, 1)) (kk : GE b0 X c (pc + 1) lv (.inl (x >>> (y &&& 31)) :: st) A) : GE b0 X c pc lv (.inl y :: .inl x :: st) A := fun kc ks n0 q h1 h2 => ga_ishr F hd (kk kc ks n0 q h1 h2)
theorem ge_istore_n (F : Fx X RL cL_law 16 10 600000 7302250) {k : Fin 4} {x : Int32} (hd : decode cL_law pc = .ok (.istore_n k, 1)) (hk : (k : Nat) < 16) (hk0 : (k : Nat) ≠ 0) (kk : GE b0 X c (pc + 1) (lv.set (k : Nat) (some (.inl x))) st A) : GE b0 X c pc lv (.inl x :: st) A := fun kc ks n0 q h1 h2 => ga_istore_n F hd hk hk0 (kk kc ks n0 q h1 h2)
theorem ge_istore (F : Fx X RL cL_law 16 10 600000 7302250) {k : Nat} {x : Int32} (hd : decode cL_law pc = .ok (.istore k, 2)) (hk : k < 16) (hk0 : k ≠ 0) (kk : GE b0 X c (pc + 2) (lv.set k (some (.inl x))) st A) : GE b0 X c pc lv (.inl x :: st) A := fun kc ks n0 q h1 h2 => ga_istore F hd hk hk0 (kk kc ks n0 q h1 h2)
theorem ge_rem (F : Fx X RL cL_law 16 10 600000 7302250) {x y : Int32} (hd : decode cL_law pc = .ok (.irem, 1)) (hy : ¬ y = 0) (kk : GE b0 X c (pc + 1) lv (.inl (rm x y) :: st) A) : GE b0 X c pc lv (.inl y :: .inl x :: st) A := fun kc ks n0 q h1 h2 => ga_rem F hd hy (kk kc ks n0 q h1 h2)
theorem ge_c16 (F : Fx X RL cL_law 16 10 600000 7302250) {x : Int32} (hd : decode cL_law pc = .ok (.i2c, 1)) (kk : GE b0 X c (pc + 1) lv (.inl (c16 x) :: st) A) : GE b0 X c pc lv (.inl x :: st) A := fun kc ks n0 q h1 h2 => ga_c16 F hd (kk kc ks n0 q h1 h2)
theorem ge_goto (F : Fx X RL cL_law 16 10 600000 7302250) {off : Int} {tgt : Nat} (hd : decode cL_law pc = .ok (.goto off, 3)) (ht : (pc : Int) + off = (tgt : Int)) (kk : GE b0 X c tgt lv st A) : GE b0 X c pc lv st A := fun kc ks n0 q h1 h2 => ga_goto F hd ht (kk kc ks n0 q h1 h2)
theorem ge_if_eq (F : Fx X RL cL_law 16 10 600000 7302250) {x : Int32} {off : Int} {tgt : Nat} (hd : decode cL_law pc = .ok (.ifCond .eq off, 3)) (ht : (pc : Int) + off = (tgt : Int)) (kt : x = 0 → GE b0 X c tgt lv st A) (kf : ¬ x = 0 → GE b0 X c (pc + 3) lv st A) : GE b0 X c pc lv (.inl x :: st) A := fun kc ks n0 q h1 h2 => ga_if_eq F hd ht (fun z => kt z kc ks n0 q h1 h2) (fun z => kf z kc ks n0 q h1 h2)
theorem ge_if_ne (F : Fx X RL cL_law 16 10 600000 7302250) {x : Int32} {off : Int} {tgt : Nat} (hd : decode cL_law pc = .ok (.ifCond .ne off, 3)) (ht : (pc : Int) + off = (tgt : Int)) (kt : ¬ x = 0 → GE b0 X c tgt lv st A) (kf : x = 0 → GE b0 X c (pc + 3) lv st A) : GE b0 X c pc lv (.inl x :: st) A := fun kc ks n0 q h1 h2 => ga_if_ne F hd ht (fun z => kt z kc ks n0 q h1 h2) (fun z => kf z kc ks n0 q h1 h2)
theorem ge_if_lt (F : Fx X RL cL_law 16 10 600000 7302250) {x : Int32} {off : Int} {tgt : Nat} (hd : decode cL_law pc = .ok (.ifCond .lt off, 3)) (ht : (pc : Int) + off = (tgt : Int)) (kt : x < 0 → GE b0 X c tgt lv st A) (kf : ¬ x < 0 → GE b0 X c (pc + 3) lv st A) : GE b0 X c pc lv (.inl x :: st) A := fun kc ks n0 q h1 h2 => ga_if_lt F hd ht (fun z => kt z kc ks n0 q h1 h2) (fun z => kf z kc ks n0 q h1 h2)
theorem ge_if_ge (F : Fx X RL cL_law 16 10 600000 7302250) {x : Int32} {off : Int} {tgt : Nat} (hd : decode cL_law pc = .ok (.ifCond .ge off, 3)) (ht : (pc : Int) + off = (tgt : Int)) (kt : 0 ≤ x → GE b0 X c tgt lv st A) (kf : ¬ 0 ≤ x → GE b0 X c (pc + 3) lv st A) : GE b0 X c pc lv (.inl x :: st) A := fun kc ks n0 q h1 h2 => ga_if_ge F hd ht (fun z => kt z kc ks n0 q h1 h2) (fun z => kf z kc ks n0 q h1 h2)
theorem ge_if_gt (F : Fx X RL cL_law 16 10 600000 7302250) {x : Int32} {off : Int} {tgt : Nat} (hd : decode cL_law pc = .ok (.ifCond .gt off, 3)) (ht : (pc : Int) + off = (tgt : Int)) (kt : 0 < x → GE b0 X c tgt lv st A) (kf : ¬ 0 < x → GE b0 X c (pc + 3) lv st A) : GE b0 X c pc lv (.inl x :: st) A := fun kc ks n0 q h1 h2 => ga_if_gt F hd ht (fun z => kt z kc ks n0 q h1 h2) (fun z => kf z kc ks n0 q h1 h2)
theorem ge_if_le (F : Fx X RL cL_law 16 10 600000 7302250) {x : Int32} {off : Int} {tgt : Nat} (hd : decode cL_law pc = .ok (.ifCond .le off, 3)) (ht : (pc : Int) + off = (tgt : Int)) (kt : x ≤ 0 → GE b0 X c tgt lv st A) (kf : ¬ x ≤ 0 → GE b0 X c (pc + 3) lv st A) : GE b0 X c pc lv (.inl x :: st) A := fun kc ks n0 q h1 h2 => ga_if_le F hd ht (fun z => kt z kc ks n0 q h1 h2) (fun z => kf z kc ks n0 q h1 h2)
theorem ge_icmp_eq (F : Fx X RL cL_law 16 10 600000 7302250) {x y : Int32} {off : Int} {tgt : Nat} (hd : decode cL_law pc = .ok (.if_icmp .eq off, 3)) (ht : (pc : Int) + off = (tgt : Int)) (kt : x = y → GE b0 X c tgt lv st A) (kf : ¬ x = y → GE b0 X c (pc + 3) lv st A) : GE b0 X c pc lv (.inl y :: .inl x :: st) A := fun kc ks n0 q h1 h2 => ga_icmp_eq F hd ht (fun z => kt z kc ks n0 q h1 h2) (fun z => kf z kc ks n0 q h1 h2)
theorem ge_icmp_ne (F : Fx X RL cL_law 16 10 600000 7302250) {x y : Int32} {off : Int} {tgt : Nat} (hd : decode cL_law pc = .ok (.if_icmp .ne off, 3)) (ht : (pc : Int) + off = (tgt : Int)) (kt : ¬ x = y → GE b0 X c tgt lv st A) (kf : x = y → GE b0 X c (pc + 3) lv st A) : GE b0 X c pc lv (.inl y :: .inl x :: st) A := fun kc ks n0 q h1 h2 => ga_icmp_ne F hd ht (fun z => kt z kc ks n0 q h1 h2) (fun z => kf z kc ks n0 q h1 h2)
theorem ge_icmp_lt (F : Fx X RL cL_law 16 10 600000 7302250) {x y : Int32} {off : Int} {tgt : Nat} (hd : decode cL_law pc = .ok (.if_icmp .lt off, 3)) (ht : (pc : Int) + off = (tgt : Int)) (kt : x < y → GE b0 X c tgt lv st A) (kf : ¬ x < y → GE b0 X c (pc + 3) lv st A) : GE b0 X c pc lv (.inl y :: .inl x :: st) A := fun kc ks n0 q h1 h2 => ga_icmp_lt F hd ht (fun z => kt z kc ks n0 q h1 h2) (fun z => kf z kc ks n0 q h1 h2)
theorem ge_icmp_ge (F : Fx X RL cL_law 16 10 600000 7302250) {x y : Int32} {off : Int} {tgt : Nat} (hd : decode cL_law pc = .ok (.if_icmp .ge off, 3)) (ht : (pc : Int) + off = (tgt : Int)) (kt : y ≤ x → GE b0 X c tgt lv st A) (kf : ¬ y ≤ x → GE b0 X c (pc + 3) lv st A) : GE b0 X c pc lv (.inl y :: .inl x :: st) A := fun kc ks n0 q h1 h2 => ga_icmp_ge F hd ht (fun z => kt z kc ks n0 q h1 h2) (fun z => kf z kc ks n0 q h1 h2)
theorem ge_icmp_gt (F : Fx X RL cL_law 16 10 600000 7302250) {x y : Int32} {off : Int} {tgt : Nat} (hd : decode cL_law pc = .ok (.if_icmp .gt off, 3)) (ht : (pc : Int) + off = (tgt : Int)) (kt : y < x → GE b0 X c tgt lv st A) (kf : ¬ y < x → GE b0 X c (pc + 3) lv st A) : GE b0 X c pc lv (.inl y :: .inl x :: st) A := fun kc ks n0 q h1 h2 => ga_icmp_gt F hd ht (fun z => kt z kc ks n0 q h1 h2) (fun z => kf z kc ks n0 q h1 h2)
theorem ge_icmp_le (F : Fx X RL cL_law 16 10 600000 7302250) {x y : Int32} {off : Int} {tgt : Nat} (hd : decode cL_law pc = .ok (.if_icmp .le off, 3)) (ht : (pc : Int) + off = (tgt : Int)) (kt : x ≤ y → GE b0 X c tgt lv st A) (kf : ¬ x ≤ y → GE b0 X c (pc + 3) lv st A) : GE b0 X c pc lv (.inl y :: .inl x :: st) A := fun kc ks n0 q h1 h2 => ga_icmp_le F hd ht (fun z => kt z kc ks n0 q h1 h2) (fun z => kf z kc ks n0 q h1 h2)
theorem ge_inc (F : Fx X RL cL_law 16 10 600000 7302250) {k : Nat} {j : Int} {x z : Int32} (hd : decode cL_law pc = .ok (.iinc k j, 3)) (hl : lv[k]? = some (some (.inl x))) (hk : k < 16) (hk0 : k ≠ 0) (hc : Int32.ofInt j = z) (kk : GE b0 X c (pc + 3) (lv.set k (some (.inl (x + z)))) st A) : GE b0 X c pc lv st A := fun kc ks n0 q h1 h2 => ga_inc F hd hl hk hk0 hc (kk kc ks n0 q h1 h2)
set_option maxRecDepth 100000 in
theorem ge_call (F : Fx X RL cL_law 16 10 600000 7302250) {v : Int32} (hd : decode cL_law pc = .ok (.invokevirtual idx, 3)) (hC : AC md av A v A') (hk : LV RL idx md) (hm : MDok md av.length) (hcls : md.1.cls = RF 8) (hst : st' = av.reverse ++ .inr (some 0) :: st) (hlen : st.length ≤ 8) (hdp : md.2.2.2.2 + 1 ≤ 10) (kk : GE b0 X c (pc + 3) lv (.inl v :: st) A') : GE b0 X c pc lv st' A := fun kc ks n0 q h1 h2 => ga_call F hd hC hk hm hcls hst hlen hdp (by omega) (by omega) (kk kc ks n0 q h1 h2)
set_option maxRecDepth 100000 in
theorem ge_callL0 (F : Fx X RL cL_law 16 10 600000 7302250) {v : Int32} (hd : decode cL_law pc = .ok (.invokestatic idx, 3)) (hC : AL md av 0 0 A v A') (hk : LT RL idx md) (hm : MDok md av.length) (hst : st' = av.reverse ++ st) (hlen : st.length ≤ 8) (hdp : md.2.2.2.2 + 1 ≤ 10) (kk : GE b0 X c (pc + 3) lv (.inl v :: st) A') : GE b0 X c pc lv st' A := fun kc ks n0 q h1 h2 => ga_callL0 F hd hC hk hm hst hlen hdp (by omega) (by omega) (kk kc ks n0 q h1 h2)
set_option maxRecDepth 100000 in
theorem ge_callLH (F : Fx X RL cL_law 16 10 600000 7302250) {v : Int32} (hd : decode cL_law pc = .ok (.invokestatic idx, 3)) (hC : AL md av 4 256 A v A') (hk : LT RL idx md) (hm : MDok md av.length) (hst : st' = av.reverse ++ st) (hlen : st.length ≤ 8) (hdp : md.2.2.2.2 + 1 ≤ 10) (kk : GE b0 X c (pc + 3) lv (.inl v :: st) A') : GE b0 X (c + 1) pc lv st' A := fun kc ks n0 q h1 h2 => ga_callL F hd hC hk hm hst hlen hdp (by omega) (by omega) (kk (kc + 4) (ks + 256) (n0 + 4) q (by omega) (by omega))
end GEROWS
/-! the script's cells -/
def SX (X : Cx) (b0 L : Nat) (xs : Nat → Int32) : Prop := match X with
  | (p, l, e, R, s, m, args, below, meth, c, s0, D, DA, Q) => va_X b0 L xs s s.heap ∧ b0 < s0 ∧ L ≤ 260
def clF (L : Nat) (xs : Nat → Int32) (x : Int32) : Int32 := if nI L ≤ x then 8950007 * x + 7603 else xs x.toNatClampNeg
def RX (s0 : Nat) (D : va_G) (DA : Nat → ClassId) (n : Nat) (Ly : LL) (I : II) (P : PP) (b L : Nat) (xs : Nat → Int32) (U : State) : Prop := Rl s0 D DA n Ly I P U ∧ va_X b L xs U U.heap
theorem RX.blind {s0 : Nat} {D : va_G} {DA : Nat → ClassId} {n : Nat} {Ly : LL} {I : II} {P : PP} {b L : Nat} {xs : Nat → Int32} {av : List Value} : FrameBlind (va_Pc av (RX s0 D DA n Ly I P b L xs)) := by
  intro a U g mk h
  obtain ⟨h1, ⟨h2, h3, h4, h5⟩, h6⟩ := h
  exact ⟨h1, ⟨h2, h3, va_K.moved (u := U) (U := U.calling g mk a) (Vm.Alike.refl U.vm) h4, Nst.same rfl h5⟩, va_X.moved (u := U) (U := U.calling g mk a) (Vm.Alike.refl U.vm) h6⟩
set_option maxRecDepth 100000 in
set_option maxHeartbeats 4000000 in
theorem w_cell {X : Cx} {b L n : Nat} {xs : Nat → Int32} {Ly : LL} {I : II} {P : PP} {x : Int32} {Po : PQ} (hx0 : 0 ≤ x) (F : Fx X RL cL_cell 2 1 0 0) (HS : SX X b L xs) (hr : Fr X (some .int) Po 0 0) (hpo : Po (some (.inl (clF L xs x))) n Ly I P) : GL b X 2 0 0 n Ly 0 [none, some (.inl x)] [] I P := by
  refine tL_iload_n F dL_cell_0 rfl ?_
  have fin : ∀ (v : Int32), v = clF L xs x → GL b X 2 0 0 n Ly 20 [none, some (.inl x)] [.inl v] I P := by
    intro v hv
    subst hv
    obtain ⟨p, l, e, R, s, m, args, below, meth, c, s0, D, DA, Q⟩ := X
    obtain ⟨hx, hb, hml, hown, hts, hK, hN, hs0, hlk, hR1, hR2, hR3, hR4⟩ := F
    obtain ⟨hr, rfl⟩ := hr
    intro H locs ls hz hP hS hL h0 T hT Y
    have hsz := sz_of Y hT hz hP hS hs0
    exact W.widen (Nat.le_refl _) (Nat.le_refl _) (W.zret hx hb hr rfl (fun t ht hW => ⟨⟨some (.inl _), n, Ly, I, P, rfl, hpo, by rw [ht]; exact hsz, by rw [ht]; exact hP, va_K.moved hW.alike hK, hN.warm hW⟩, hS.F ht⟩) hS.2.2 dL_cell_20 hlk) T hT Y
  have t12 : nI L ≤ x → GL b X 2 0 0 n Ly 12 [none, some (.inl x)] [] I P := by
    intro q
    refine tL_ldc (v := 8950007) F dL_cell_12 kcL_7 ?_
    refine tL_iload_n F dL_cell_14 rfl ?_
    refine tL_imul F dL_cell_15 ?_
    refine tL_sipush (v := 7603) F dL_cell_16 (by decide) ?_
    refine tL_iadd F dL_cell_19 ?_
    exact fin _ (by unfold clF; rw [if_pos q])
  have t6 : ¬ nI L ≤ x → GL b X 2 0 0 n Ly 6 [none, some (.inl x)] [] I P := by
    intro q
    have go : GL b X 2 0 0 n Ly 9 [none, some (.inl x)] [.inl (xs x.toNatClampNeg)] I P := by
      refine tL_goto (tgt := 20) F dL_cell_9 (by decide) ?_
      exact fin _ (by unfold clF; rw [if_neg q])
    obtain ⟨p, l, e, R, s, m, args, below, meth, c, s0, D, DA, Q⟩ := X
    obtain ⟨hx, hb, hml, hown, hts, hK, hN, hs0, hlk, hR1, hR2, hR3, hR4⟩ := F
    obtain ⟨s1, s2, s3⟩ := HS
    intro H locs ls hz hP hS hL h0
    have hin : vp_in x L := by
      have hx1 : 0 ≤ x.toInt := by rw [Int32.le_iff_toInt_le] at hx0; exact hx0
      obtain ⟨k, hk, rfl⟩ := nnI hx1
      refine vp_in_nI ?_ (by omega)
      exact Nat.not_le.mp fun z => q ((leN (by omega) hk).mpr z)
    exact lv_aload_n hx hb dL_cell_6 rfl h0 (lv_iload_n (i := 1) hx hb dL_cell_7 rfl (hL.2.2 _ (.inl x) rfl) (va_sld hx hb s1 (by omega) (by omega) hS hin dL_cell_8 (go H locs ls hz hP hS hL h0)))
  have cmp : GL b X 2 0 0 n Ly 3 [none, some (.inl x)] [.inl (nI L), .inl x] I P := tL_icmp_ge (tgt := 12) F dL_cell_3 (by decide) t12 t6
  obtain ⟨p, l, e, R, s, m, args, below, meth, c, s0, D, DA, Q⟩ := X
  obtain ⟨hx, hb, hml, hown, hts, hK, hN, hs0, hlk, hR1, hR2, hR3, hR4⟩ := F
  obtain ⟨s1, s2, s3⟩ := HS
  intro H locs ls hz hP hS hL h0
  exact lv_aload_n hx hb dL_cell_1 rfl h0 (va_slen hx hb s1 (by omega) (by omega) hS dL_cell_2 (cmp H locs ls hz hP hS hL h0))
theorem c_cell {b L n s0 : Nat} {xs : Nat → Int32} {Ly : LL} {I : II} {P : PP} {x : Int32} (hx0 : 0 ≤ x) (hb0 : b < s0) (hL : L ≤ 260) (l : Launch) (D : va_G) (DA : Nat → ClassId) : Met l mL_cell.1 (wsM mL_cell) (rmD 1 0 0) (va_Pc [.ref b, .int x] (RX s0 D DA n Ly I P b L xs)) (Qr s0 D DA (PoD (some (.inl (clF L xs x))) n Ly I P)) 0 0 (fun q => s0 ≤ q) := by
  refine Met.ofW (cc := cL_cell) (maxL := 2) (ret := some .int) (by decide +kernel) rfl ?_
  intro p e s m args below meth c s₁ B hml hv
  obtain ⟨rfl, ⟨hsz, hP, hK, hN⟩, hX⟩ := hv
  have hts := atoms_spec (ws := wsM mL_cell) B.pre
  have hs0 : s0 ≤ s.heap.size := by rw [hsz]; omega
  have hg := w_cell (X := (p, l, e, rmD 1 0 0, s, m, [Value.ref b, .int x].toArray, below, meth, c, s0, D, DA, MQ below (Qr s0 D DA (PoD (some (.inl (clF L xs x))) n Ly I P)) [Value.ref b, .int x].toArray s 0 0 (fun q => s0 ≤ q))) (b := b) (L := L) (xs := xs) (n := n) (Ly := Ly) (I := I) (P := P) (x := x) (Po := PoD (some (.inl (clF L xs x))) n Ly I P) hx0
    ⟨B.exec, B.bytes, hml, findClass_of_methodNamed B.named, fun w hw => hts w (List.mem_cons_of_mem _ hw), hK, hN, hs0, B.notSynchronized, Nat.le_refl _, Nat.le_refl _, Nat.le_refl _, Nat.le_refl _⟩ ⟨hX, hb0, hL⟩ ⟨B.returns, rfl⟩ ⟨rfl, rfl, rfl, rfl, rfl⟩
  have hl := lv_entry [Value.ref b, .int x] (n := 2) (Nat.le_of_ble_eq_true rfl)
  have hent := lg_entry_eq m [Value.ref b, .int x] 2
  refine W.eq hent (hg s.heap [] _ (by omega) hP va_S.rf ⟨hl.1, hl.2.1, fun i v hi => hl.2.2 (i, cv s0 v) ?_⟩ (hl.2.2 (0, Value.ref b) List.mem_cons_self))
  match i, hi with
  | 0, hi => cases hi
  | 1, hi =>
    cases hi
    exact List.mem_cons_of_mem _ List.mem_cons_self
  | i + 2, hi => cases hi
theorem gl_cell {p : Program} {l : Launch} {e : Env} {R : Room} {s : State} {m : MethodId} {args : Array Value} {below : List Frame} {meth : Method} {cd : Code} {s0 : Nat} {D : va_G} {DA : Nat → ClassId} {Q : State → Prop} {cc : ByteArray} {b L nL d mc ms kc ks n pc idx : Nat} {xs : Nat → Int32} {Ly : LL} {lv : List (Option AV)} {st : List AV} {I : II} {P : PP} {x : Int32} (F : Fx (p, l, e, R, s, m, args, below, meth, cd, s0, D, DA, Q) RL cc nL d mc ms) (HS : SX (p, l, e, R, s, m, args, below, meth, cd, s0, D, DA, Q) b L xs) (hx0 : 0 ≤ x) (hd : decode cc pc = .ok (.invokestatic idx, 3)) (hk : LT RL idx mL_cell) (hlen : st.length ≤ 8) (hdp : 2 ≤ d) (hkc : kc ≤ mc) (hks : ks ≤ ms) (hbs : b < s.heap.size) (kk : GL b (p, l, e, R, s, m, args, below, meth, cd, s0, D, DA, Q) nL kc ks n Ly (pc + 3) lv (.inl (clF L xs x) :: st) I P) {H : Heap} {locs : List Loc} {ls : Array Slot} (hz : s.heap.size + kc = s0 + n) (hP : va_P D vwCl (wd s0 DA Ly I P n) H) (hS : va_S (fun q => s0 ≤ q) s.heap H locs) (hL : LR s0 nL lv ls) (h0 : ls[0]? = some (.val (.ref b))) : W p l e R s m args below meth cd H locs kc ks Q (F0 m pc ls (.int x :: .ref b :: st.map (cv s0))) := by
  obtain ⟨hx, hb', hml, hown, hts, hK, hN, hs0, hlk, hR1, hR2, hR3, hR4⟩ := F
  obtain ⟨k1, k2⟩ := hk
  obtain ⟨m1, m2, m3, m4⟩ := okL_cell
  obtain ⟨s1, s2, s3⟩ := HS
  have hXH : va_X b L xs s H := s1.kept (hS.2.1 b hbs (by omega))
  have cw : CallB R s args RL idx mL_cell.1 mL_cell.2.1 mL_cell.2.2.1 mL_cell.2.2.2.1 (wsM mL_cell) (rmD 1 0 0) 0 0 2 ∧ (Cond.static mL_cell.1).before args s = true := ⟨callB_of (ws' := tg) 2 hts (ws_good m2) rfl rfl rfl (hts _ m1) (hts _ k1) m3 ⟨by show 1 + 1 ≤ _; omega, by show 8 + (2 + 11) + 41 * 1 ≤ _; omega⟩, hts _ k2⟩
  refine go_call (Po := PoD (some (.inl (clF L xs x))) n Ly I P) (a := [Value.ref b, .int x].toArray) (rest := st.map (cv s0)) (mc' := 0) (ms' := 0) hs0 hz hP hS (fun hsz => va_runS (As := [Value.ref b, .int x]) ⟨hx, hb', hml, hown, hts⟩ (c_cell hx0 s2 s3 l D DA) cw ⟨RX.blind, fun U hU hW => ⟨rfl, ⟨by rw [hU]; exact hsz, by rw [hU]; exact hP, va_K.moved hW.alike hK, hN.warm hW⟩, by rw [hU]; exact hXH.moved hW.alike⟩⟩ rfl (by simp) hL.1 rfl (by show 2 * 0 + _ ≤ 8; rw [cv_sum]; omega) hd ⟨Nat.le_trans hkc hR3, Nat.le_trans hks hR4⟩) (fun _ _ _ _ _ h => h.2.1) (fun r n' Ly' I' P' H1 locs1 hp hz1 hP1 hS1 => ?_)
  obtain ⟨rfl, rfl, rfl, rfl, rfl⟩ := hp
  exact kk H1 locs1 ls hz1 hP1 hS1 hL h0
section CELLS
variable {b0 L : Nat} {xs : Nat → Int32} {X : Cx} {c pc idx : Nat} {lv : List (Option AV)} {st : List AV} {A : AbS}
def SY (X : Cx) (b0 L : Nat) (xs : Nat → Int32) : Prop := SX X b0 L xs ∧ match X with
  | (p, l, e, R, s, m, args, below, meth, c, s0, D, DA, Q) => b0 < s.heap.size
theorem ge_cell1 {k : Int32} {j : Int} (F : Fx X RL cL_law 16 10 600000 7302250) (HS : SY X b0 L xs) (hk0 : 0 ≤ k) (hk : Int32.ofInt j = k) (hd0 : decode cL_law pc = .ok (.aload_n 0, 1)) (hd1 : decode cL_law (pc + 1) = .ok (.iconst j, 1)) (hd2 : decode cL_law (pc + 2) = .ok (.invokestatic 97, 3)) (hlen : st.length ≤ 8) (kk : GE b0 X c (pc + 5) lv (.inl (clF L xs k) :: st) A) : GE b0 X c pc lv st A := fun kc ks n0 q h1 h2 Ly I P h3 hA hq => by
  have kk := kk kc ks n0 q h1 h2 Ly I P h3 hA hq
  obtain ⟨p, l, e, R, s, m, args, below, meth, cd, s0, D, DA, Q⟩ := X
  have F' := F
  obtain ⟨hx, hb, hml, hown, hts, hK, hN, hs0, hlk, hR1, hR2, hR3, hR4⟩ := F'
  intro H locs ls hz hP hS hL h0
  exact lv_aload_n hx hb hd0 rfl h0 (lv_iconst hx hb hd1 hk (gl_cell F HS.1 hk0 hd2 lkL_97 hlen (by decide) (by omega) (by omega) HS.2 kk hz hP hS hL h0))
theorem ge_cell2 {k : Int32} {j : Int} {t : Nat} {y : Int32} (F : Fx X RL cL_law 16 10 600000 7302250) (HS : SY X b0 L xs) (hk0 : 0 ≤ k + 2 * y) (hk : Int32.ofInt j = k) (hl : lv[t]? = some (some (.inl y))) (hd0 : decode cL_law pc = .ok (.aload_n 0, 1)) (hd1 : decode cL_law (pc + 1) = .ok (.iconst j, 1)) (hd2 : decode cL_law (pc + 2) = .ok (.iconst 2, 1)) (hd3 : decode cL_law (pc + 3) = .ok (.iload t, 2)) (hd4 : decode cL_law (pc + 5) = .ok (.imul, 1)) (hd5 : decode cL_law (pc + 6) = .ok (.iadd, 1)) (hd6 : decode cL_law (pc + 7) = .ok (.invokestatic 97, 3)) (hlen : st.length ≤ 8) (kk : GE b0 X c (pc + 10) lv (.inl (clF L xs (k + 2 * y)) :: st) A) : GE b0 X c pc lv st A := fun kc ks n0 q h1 h2 Ly I P h3 hA hq => by
  have kk := kk kc ks n0 q h1 h2 Ly I P h3 hA hq
  obtain ⟨p, l, e, R, s, m, args, below, meth, cd, s0, D, DA, Q⟩ := X
  have F' := F
  obtain ⟨hx, hb, hml, hown, hts, hK, hN, hs0, hlk, hR1, hR2, hR3, hR4⟩ := F'
  intro H locs ls hz hP hS hL h0
  exact lv_aload_n hx hb hd0 rfl h0 (lv_iconst hx hb hd1 hk (lv_iconst hx hb hd2 rfl (lv_iload hx hb hd3 (hL.2.2 _ (.inl y) hl) (lv_imul hx hb hd4 (lv_iadd hx hb hd5 (gl_cell F HS.1 hk0 hd6 lkL_97 hlen (by decide) (by omega) (by omega) HS.2 kk hz hP hS hL h0))))))
end CELLS
