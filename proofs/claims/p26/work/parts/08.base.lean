def ck {α : Type} (b : Bool) (k : Option α) : Option α := if b = true then k else none
theorem ck_s {α : Type} {b : Bool} {k : Option α} {r : α} (h : ck b k = some r) : b = true ∧ k = some r := by
  unfold ck at h
  by_cases hb : b = true
  · rw [if_pos hb] at h
    exact ⟨hb, h⟩
  · rw [if_neg hb] at h
    cases h
theorem ck_t {α : Type} {b : Bool} {k : Option α} (h : b = true) : ck b k = k := by simp [ck, h]
def ix (x : Int32) (n : Nat) : Bool := decide (¬ (x < 0 ∨ n ≤ x.toNatClampNeg))
theorem ix_s {x : Int32} {n : Nat} (h : ix x n = true) : vp_in x n := by
  have h1 : ¬ (x < 0 ∨ n ≤ x.toNatClampNeg) := of_decide_eq_true h
  exact h1
def nz (x : Int32) : Bool := decide (¬ x = 0)
theorem nz_s {x : Int32} (h : nz x = true) : ¬ x = 0 := of_decide_eq_true h
def bB (x : Int32) : Bool := decide (x = 0 ∨ x = 1)
theorem bB_s {x : Int32} (h : bB x = true) : isB x := by
  have h1 : x = 0 ∨ x = 1 := of_decide_eq_true h
  exact h1
def bC (x : Int32) : Bool := decide (vp_nar .char x = x)
theorem narrow_c (x : Int32) : ∃ y : Int32, narrow .char (.int x) = .int y := ⟨_, rfl⟩
theorem bC_s {x : Int32} (h : bC x = true) : isC x := by
  have h1 : vp_nar .char x = x := of_decide_eq_true h
  refine ⟨h1, ?_⟩
  obtain ⟨y, hy⟩ := narrow_c x
  unfold vp_nar at h1
  rw [hy] at h1 ⊢
  exact congrArg _ h1
theorem bd_s {α β : Type} {a : α} {f : α → Option β} {r : β} (h : (some a).bind f = some r) : f a = some r := h
theorem bd_i {α β : Type} {o : Option α} {f : α → Option β} {r : β} (h : o.bind f = some r) : ∃ v, o = some v ∧ f v = some r := Option.bind_eq_some_iff.mp h
theorem if_t {c : Prop} {hc : Decidable c} {α : Type} {a b r : α} (h1 : c) (h : (if c then a else b) = r) : a = r := by rwa [if_pos h1] at h
theorem if_f {c : Prop} {hc : Decidable c} {α : Type} {a b r : α} (h1 : ¬ c) (h : (if c then a else b) = r) : b = r := by rwa [if_neg h1] at h
def mx (x y : Int32) : Int32 := if x < y then y else x
def mn (x y : Int32) : Int32 := if y < x then y else x
section MXN
variable {X : Cx} {own : String} {cc : ByteArray} {nL d n pc : Nat} {Ly : LL} {lv : List (Option AV)} {st : List AV} {I : II} {P : PP} {idx : Nat} {x y : Int32}
theorem s_mx (F : Fx X own cc nL d 0 0) (hd : decode cc pc = .ok (.invokestatic idx, 3)) (hk : LM own idx Lib.Math.max.name Lib.Math.max.code) (hd1 : 1 ≤ d) (hlen : st.length ≤ 8) (kk : G X nL 0 0 n Ly (pc + 3) lv (.inl (mx x y) :: st) I P) : G X nL 0 0 n Ly pc lv (.inl y :: .inl x :: st) I P := s_max F hd hk hd1 (Nat.le_refl _) (Nat.le_refl _) hlen kk
theorem s_mn (F : Fx X own cc nL d 0 0) (hd : decode cc pc = .ok (.invokestatic idx, 3)) (hk : LM own idx Lib.Math.min.name Lib.Math.min.code) (hd1 : 1 ≤ d) (hlen : st.length ≤ 8) (kk : G X nL 0 0 n Ly (pc + 3) lv (.inl (mn x y) :: st) I P) : G X nL 0 0 n Ly pc lv (.inl y :: .inl x :: st) I P := s_min F hd hk hd1 (Nat.le_refl _) (Nat.le_refl _) hlen kk
end MXN
/-- Arrays.fill of a row of 256 -/
theorem fill_loop {X : Cx} {n a : Nat} {Ly : LL} {I0 : II} {P : PP} {Po : PQ} {v : Int32} (F : Fx X RJ7 cJ7_fill_53178 4 1 0 0) (hl : Ly a = .inr (0, 256)) (ha : a < n) (hr : Fr X none Po 0 0) (post : Po none n Ly (fl2 I0 a 256 v) P) : ∀ (k j : Nat), j + k = 256 → G X 4 0 0 n Ly 5 [some (.inr (some a)), some (.inl v), some (.inl (nI j)), some (.inl 256)] [] (fl2 I0 a j v) P := by
  intro k
  induction k with
  | zero =>
    intro j hj
    have hj : j = 256 := by omega
    subst hj
    refine s_iload_n F dJ7_fill_53178_5 rfl ?_
    refine s_iload_n F dJ7_fill_53178_6 rfl ?_
    refine s_icmp_ge (tgt := 20) F dJ7_fill_53178_7 (by decide) (fun c1 => ?_) (fun c1 => absurd (by decide) c1)
    exact s_vret F hr dJ7_fill_53178_20 (Nat.le_refl _) (Nat.le_refl _) post
  | succ k ih =>
    intro j hj
    refine s_iload_n F dJ7_fill_53178_5 rfl ?_
    refine s_iload_n F dJ7_fill_53178_6 rfl ?_
    refine s_icmp_ge (tgt := 20) F dJ7_fill_53178_7 (by decide) (fun c1 => ?_) (fun c1 => ?_)
    · exact absurd c1 (nI_ge (a := j) (b := 256) (by omega) (by omega))
    refine s_aload_n F dJ7_fill_53178_10 rfl ?_
    refine s_iload_n F dJ7_fill_53178_11 rfl ?_
    refine s_iload_n F dJ7_fill_53178_12 rfl ?_
    refine s_iast F dJ7_fill_53178_13 hl ha (vp_in_nI (by omega) (by omega)) ?_
    refine s_inc (c := 1) F dJ7_fill_53178_14 rfl (by decide) (by decide) ?_
    refine s_goto (tgt := 5) F dJ7_fill_53178_17 (by decide) ?_
    have e : up2 (fl2 I0 a j v) a (nI j).toNatClampNeg v = fl2 I0 a (j + 1) v := by
      rw [nI_clamp (by omega)]
      funext x y
      by_cases hx : x = a
      · subst hx
        by_cases hy : y = j
        · subst hy
          simp [up2, fl2]
        · by_cases hy2 : y < j
          · simp [up2, fl2, hy, hy2, Nat.lt_succ_of_lt hy2]
          · simp [up2, fl2, hy, hy2, show ¬ y < j + 1 by omega]
      · simp [up2, fl2, hx]
    rw [e, nI_1]
    exact ih (j + 1) (by omega)
theorem c_fill {n a : Nat} {Ly : LL} {I : II} {P : PP} {v : Int32} (hl : Ly a = .inr (0, 256)) (ha : a < n) (l : Launch) (s0 : Nat) (D : va_G) (DA : Nat → ClassId) : Ct l s0 D DA mFill [.inr (some a), .inl v] 0 0 n Ly I P (PoD none n Ly (fl2 I a 256 v) P) := ct_of (by decide +kernel) (Nat.le_of_ble_eq_true rfl) (fun X F hr _ => by
  have e : fl2 I a 0 v = I := by
    funext x y
    by_cases hx : x = a
    · subst hx
      simp [fl2]
    · simp [fl2, hx]
  refine s_iconst (v := 0) F dJ7_fill_53178_0 (by decide) ?_
  refine s_istore_n F dJ7_fill_53178_1 (by decide) ?_
  refine s_aload_n F dJ7_fill_53178_2 rfl ?_
  refine s_alen (v := 256) F dJ7_fill_53178_3 hl (by decide) ha (by decide) ?_
  refine s_istore_n F dJ7_fill_53178_4 (by decide) ?_
  have := fill_loop F hl ha hr ⟨rfl, rfl, rfl, rfl, rfl⟩ 256 0 (by omega)
  rw [e] at this
  exact this)
theorem vp_lit {x : Int32} {N : Nat} (k : Nat) (hx : x = nI k) (hk : k < N := by decide) (hN : N < 2 ^ 31 := by decide) : vp_in x N := by
  subst hx
  exact vp_in_nI hk hN
section LIT
variable {X : Cx} {own : String} {cc : ByteArray} {nL d n pc a len j : Nat} {Ly : LL} {lv : List (Option AV)} {st : List AV} {I : II} {P : PP} {x v : Int32}
theorem s_ialdK (F : Fx X own cc nL d 0 0) (hd : decode cc pc = .ok (.iaload, 1)) (hl : Ly a = .inr (0, len)) (ha : a < n) (hin : vp_in x len) (hj : x.toNatClampNeg = j) (kk : G X nL 0 0 n Ly (pc + 1) lv (.inl (I a j) :: st) I P) : G X nL 0 0 n Ly pc lv (.inl x :: .inr (some a) :: st) I P := by
  subst hj
  exact s_iald F hd hl ha hin kk
theorem s_iastK (F : Fx X own cc nL d 0 0) (hd : decode cc pc = .ok (.iastore, 1)) (hl : Ly a = .inr (0, len)) (ha : a < n) (hin : vp_in x len) (hj : x.toNatClampNeg = j) (kk : G X nL 0 0 n Ly (pc + 1) lv st (up2 I a j v) P) : G X nL 0 0 n Ly pc lv (.inl v :: .inl x :: .inr (some a) :: st) I P := by
  subst hj
  exact s_iast F hd hl ha hin kk
theorem s_caldK (F : Fx X own cc nL d 0 0) (hd : decode cc pc = .ok (.caload, 1)) (hl : Ly a = .inr (1, len)) (ha : a < n) (hin : vp_in x len) (hj : x.toNatClampNeg = j) (kk : G X nL 0 0 n Ly (pc + 1) lv (.inl (I a j) :: st) I P) : G X nL 0 0 n Ly pc lv (.inl x :: .inr (some a) :: st) I P := by
  subst hj
  exact s_cald F hd hl ha hin kk
theorem s_castK (F : Fx X own cc nL d 0 0) (hd : decode cc pc = .ok (.castore, 1)) (hl : Ly a = .inr (1, len)) (ha : a < n) (hin : vp_in x len) (hj : x.toNatClampNeg = j) (hn : vp_nar .char v = v) (kk : G X nL 0 0 n Ly (pc + 1) lv st (up2 I a j v) P) : G X nL 0 0 n Ly pc lv (.inl v :: .inl x :: .inr (some a) :: st) I P := by
  subst hj
  exact s_cast F hd hl ha hin hn kk
theorem s_aastK {b t ci : Nat} (F : Fx X own cc nL d 0 0) (hd : decode cc pc = .ok (.aastore, 1)) (hl : Ly a = .inr (t, len)) (ht : (t = 3 ∧ ci = 6) ∨ (t = 4 ∧ ci = 4) ∨ (t = 5 ∧ ci = 3)) (ha : a < n) (hlb : Ly b = .inl ci) (hbn : b < n) (hin : vp_in x len) (hj : x.toNatClampNeg = j) (kk : G X nL 0 0 n Ly (pc + 1) lv st I (upP P a j (some b))) : G X nL 0 0 n Ly pc lv (.inr (some b) :: .inl x :: .inr (some a) :: st) I P := by
  subst hj
  exact s_aast F hd hl ht ha hlb hbn hin kk
end LIT
section LKS
variable {X : Cx} {own : String} {cc : ByteArray} {nL d n pc len tgt : Nat} {Ly : LL} {lv : List (Option AV)} {st : List AV} {I : II} {P : PP} {x c : Int32} {dflt off : Int} {ps : Array (Int × Int)}
theorem s_lkD (F : Fx X own cc nL d 0 0) (hd : decode cc pc = .ok (.lookupswitch dflt ps, len)) (hp : (ps.toList.zip (ps.toList.drop 1)).all (fun (a, next) => a.1 < next.1) = true) (ho : Op.lookupswitch.offset ps.toList dflt x.toInt = off) (ht : (pc : Int) + off = (tgt : Int)) (kk : G X nL 0 0 n Ly tgt lv st I P) : G X nL 0 0 n Ly pc lv (.inl x :: st) I P := by
  obtain ⟨p, l, e, R, s, m, args, below, meth, c, s0, D, DA, Q⟩ := X
  obtain ⟨hx, hb, hml, hown, hts, hK, hN, hs0, hlk, hR1, hR2, hR3, hR4⟩ := F
  intro H locs ls hz hP hS hL
  exact lv_lookup hx hb hd hp ho ht (kk H locs ls hz hP hS hL)
theorem s_lkC (F : Fx X own cc nL d 0 0) (hd : decode cc pc = .ok (.lookupswitch dflt ps, len)) (hx : x = c) (hc : (ps.toList.zip (ps.toList.drop 1)).all (fun (a, next) => a.1 < next.1) = true ∧ Op.lookupswitch.offset ps.toList dflt c.toInt = off ∧ (pc : Int) + off = (tgt : Int)) (kk : G X nL 0 0 n Ly tgt lv st I P) : G X nL 0 0 n Ly pc lv (.inl x :: st) I P := by
  subst hx
  exact s_lkD F hd hc.1 hc.2.1 hc.2.2 kk
end LKS
