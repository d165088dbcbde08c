/-! rows that know the script too: local 0 is its array -/
def GL (b0 : Nat) (X : Cx) (nL kc ks n : Nat) (Ly : LL) (pc : Nat) (lv : List (Option AV)) (st : List AV) (I : II) (P : PP) : Prop := match X with
  | (p, l, e, R, s, m, args, below, meth, c, s0, D, DA, Q) =>
    ∀ (H : Heap) (locs : List Loc) (ls : Array Slot), s.heap.size + kc = s0 + n → va_P D vwCl (wd s0 DA Ly I P n) H → va_S (fun q => s0 ≤ q) s.heap H locs → LR s0 nL lv ls → ls[0]? = some (.val (.ref b0)) → W p l e R s m args below meth c H locs kc ks Q (F0 m pc ls (st.map (cv s0)))
theorem LR0 {b0 s0 nL : Nat} {lv : List (Option AV)} {ls : Array Slot} (h : LR s0 nL lv ls) (h0 : ls[0]? = some (.val (.ref b0))) : lv_has ls nL ((0, Value.ref b0) :: prs s0 lv) := by
  have hh := h.has
  refine ⟨hh.1, hh.2.1, fun q hq => ?_⟩
  rcases List.mem_cons.mp hq with e | e
  · rw [e]; exact h0
  · exact hh.2.2 q e
theorem LR1 {b0 s0 nL i : Nat} {lv : List (Option AV)} {ls ls' : Array Slot} {v : AV} (h : LR s0 nL lv ls) (hi : i ≠ 0) (h' : lv_has ls' nL ((i, cv s0 v) :: ((0, Value.ref b0) :: prs s0 lv).filter (fun q => !(q.1 == i) && !(q.1 + 1 == i && q.2.category == 2)))) : LR s0 nL (lv.set i (some v)) ls' ∧ ls'[0]? = some (.val (.ref b0)) := by
  constructor
  · refine LR.of h ⟨h'.1, h'.2.1, fun q hq => h'.2.2 q ?_⟩
    rcases List.mem_cons.mp hq with e | e
    · exact List.mem_cons.mpr (Or.inl e)
    · refine List.mem_cons.mpr (Or.inr ?_)
      rw [List.mem_filter] at e ⊢
      exact ⟨List.mem_cons_of_mem _ e.1, e.2⟩
  · refine h'.2.2 (0, Value.ref b0) (List.mem_cons_of_mem _ (List.mem_filter.mpr ⟨List.mem_cons_self, ?_⟩))
    have e1 : (0 == i) = false := by simp; omega
    simp [e1, Value.category]
section LAWROWS
variable {X : Cx} {own : String} {cc : ByteArray} {nL d mc ms kc ks n pc b0 : Nat} {Ly : LL} {lv : List (Option AV)} {st : List AV} {I : II} {P : PP} {st' av : List AV} {md : MD} {idx mc' ms' : Nat} {Po : PQ}
theorem tL_iconst (F : Fx X own cc nL d mc ms) {k : Int} {v : Int32} (hd : decode cc pc = .ok (.iconst k, 1)) (hv : Int32.ofInt k = v) (kk : GL b0 X nL kc ks n Ly (pc + 1) lv (.inl v :: st) I P) : GL b0 X nL kc ks n Ly pc lv st I P := by
  obtain ⟨p, l, e, R, s, m, args, below, meth, c, s0, D, DA, Q⟩ := X
  obtain ⟨hx, hb, hml, hown, hts, hK, hN, hs0, hlk, hR1, hR2, hR3, hR4⟩ := F
  intro H locs ls hz hP hS hL h0
  exact lv_iconst hx hb hd hv (kk H locs ls hz hP hS hL h0)
theorem tL_bipush (F : Fx X own cc nL d mc ms) {k : Int} {v : Int32} (hd : decode cc pc = .ok (.bipush k, 2)) (hv : (Int8.ofInt k).toInt32 = v) (kk : GL b0 X nL kc ks n Ly (pc + 2) lv (.inl v :: st) I P) : GL b0 X nL kc ks n Ly pc lv st I P := by
  obtain ⟨p, l, e, R, s, m, args, below, meth, c, s0, D, DA, Q⟩ := X
  obtain ⟨hx, hb, hml, hown, hts, hK, hN, hs0, hlk, hR1, hR2, hR3, hR4⟩ := F
  intro H locs ls hz hP hS hL h0
  exact lv_bipush hx hb hd hv (kk H locs ls hz hP hS hL h0)
theorem tL_iload_n (F : Fx X own cc nL d mc ms) {k : Fin 4} {x : Int32} (hd : decode cc pc = .ok (.iload_n k, 1)) (hl : lv[(k : Nat)]? = some (some (.inl x))) (kk : GL b0 X nL kc ks n Ly (pc + 1) lv (.inl x :: st) I P) : GL b0 X nL kc ks n Ly pc lv st I P := by
  obtain ⟨p, l, e, R, s, m, args, below, meth, c, s0, D, DA, Q⟩ := X
  obtain ⟨hx, hb, hml, hown, hts, hK, hN, hs0, hlk, hR1, hR2, hR3, hR4⟩ := F
  intro H locs ls hz hP hS hL h0
  exact lv_iload_n hx hb hd rfl (hL.2.2 _ _ hl) (kk H locs ls hz hP hS hL h0)
theorem tL_aload_n (F : Fx X own cc nL d mc ms) {k : Fin 4} {o : Option Nat} (hd : decode cc pc = .ok (.aload_n k, 1)) (hl : lv[(k : Nat)]? = some (some (.inr o))) (kk : GL b0 X nL kc ks n Ly (pc + 1) lv (.inr o :: st) I P) : GL b0 X nL kc ks n Ly pc lv st I P := by
  obtain ⟨p, l, e, R, s, m, args, below, meth, c, s0, D, DA, Q⟩ := X
  obtain ⟨hx, hb, hml, hown, hts, hK, hN, hs0, hlk, hR1, hR2, hR3, hR4⟩ := F
  intro H locs ls hz hP hS hL h0
  cases o with
  | none => exact lv_aload_nN hx hb hd rfl (hL.2.2 _ _ hl) (kk H locs ls hz hP hS hL h0)
  | some b => exact lv_aload_n hx hb hd rfl (hL.2.2 _ _ hl) (kk H locs ls hz hP hS hL h0)
theorem tL_dup (F : Fx X own cc nL d mc ms) {a : AV} (hd : decode cc pc = .ok (.dup, 1)) (kk : GL b0 X nL kc ks n Ly (pc + 1) lv (a :: a :: st) I P) : GL b0 X nL kc ks n Ly pc lv (a :: st) I P := by
  obtain ⟨p, l, e, R, s, m, args, below, meth, c, s0, D, DA, Q⟩ := X
  obtain ⟨hx, hb, hml, hown, hts, hK, hN, hs0, hlk, hR1, hR2, hR3, hR4⟩ := F
  intro H locs ls hz hP hS hL h0
  exact lv_dup hx hb hd (cv_cat s0 a) (kk H locs ls hz hP hS hL h0)
theorem tL_iand (F : Fx X own cc nL d mc ms) {x y : Int32} (hd : decode cc pc = .ok (.iand, 1)) (kk : GL b0 X nL kc ks n Ly (pc + 1) lv (.inl (x &&& y) :: st) I P) : GL b0 X nL kc ks n Ly pc lv (.inl y :: .inl x :: st) I P := by
  obtain ⟨p, l, e, R, s, m, args, below, meth, c, s0, D, DA, Q⟩ := X
  obtain ⟨hx, hb, hml, hown, hts, hK, hN, hs0, hlk, hR1, hR2, hR3, hR4⟩ := F
  intro H locs ls hz hP hS hL h0
  exact lv_iand hx hb hd (kk H locs ls hz hP hS hL h0)
theorem tL_isub (F : Fx X own cc nL d mc ms) {x y : Int32} (hd : decode cc pc = .ok (.isub, 1)) (kk : GL b0 X nL kc ks n Ly (pc + 1) lv (.inl (x - y) :: st) I P) : GL b0 X nL kc ks n Ly pc lv (.inl y :: .inl x :: st) I P := by
  obtain ⟨p, l, e, R, s, m, args, below, meth, c, s0, D, DA, Q⟩ := X
  obtain ⟨hx, hb, hml, hown, hts, hK, hN, hs0, hlk, hR1, hR2, hR3, hR4⟩ := F
  intro H locs ls hz hP hS hL h0
  exact lv_isub hx hb hd (kk H locs ls hz hP hS hL h0)
theorem tL_icmp_eq (F : Fx X own cc nL d mc ms) {x y : Int32} {off : Int} {tgt : Nat} (hd : decode cc pc = .ok (.if_icmp .eq off, 3)) (ht : (pc : Int) + off = (tgt : Int)) (kt : x = y → GL b0 X nL kc ks n Ly tgt lv st I P) (kf : ¬ x = y → GL b0 X nL kc ks n Ly (pc + 3) lv st I P) : GL b0 X nL kc ks n Ly pc lv (.inl y :: .inl x :: st) I P := by
  obtain ⟨p, l, e, R, s, m, args, below, meth, c, s0, D, DA, Q⟩ := X
  obtain ⟨hx, hb, hml, hown, hts, hK, hN, hs0, hlk, hR1, hR2, hR3, hR4⟩ := F
  intro H locs ls hz hP hS hL h0
  exact lv_icmp_eq hx hb hd ht (fun q => kt q H locs ls hz hP hS hL h0) (fun q => kf q H locs ls hz hP hS hL h0)
theorem tL_icmp_gt (F : Fx X own cc nL d mc ms) {x y : Int32} {off : Int} {tgt : Nat} (hd : decode cc pc = .ok (.if_icmp .gt off, 3)) (ht : (pc : Int) + off = (tgt : Int)) (kt : y < x → GL b0 X nL kc ks n Ly tgt lv st I P) (kf : ¬ y < x → GL b0 X nL kc ks n Ly (pc + 3) lv st I P) : GL b0 X nL kc ks n Ly pc lv (.inl y :: .inl x :: st) I P := by
  obtain ⟨p, l, e, R, s, m, args, below, meth, c, s0, D, DA, Q⟩ := X
  obtain ⟨hx, hb, hml, hown, hts, hK, hN, hs0, hlk, hR1, hR2, hR3, hR4⟩ := F
  intro H locs ls hz hP hS hL h0
  exact lv_icmp_gt hx hb hd ht (fun q => kt q H locs ls hz hP hS hL h0) (fun q => kf q H locs ls hz hP hS hL h0)
theorem tL_goto (F : Fx X own cc nL d mc ms) {off : Int} {tgt : Nat} (hd : decode cc pc = .ok (.goto off, 3)) (ht : (pc : Int) + off = (tgt : Int)) (kk : GL b0 X nL kc ks n Ly tgt lv st I P) : GL b0 X nL kc ks n Ly pc lv st I P := by
  obtain ⟨p, l, e, R, s, m, args, below, meth, c, s0, D, DA, Q⟩ := X
  obtain ⟨hx, hb, hml, hown, hts, hK, hN, hs0, hlk, hR1, hR2, hR3, hR4⟩ := F
  intro H locs ls hz hP hS hL h0
  exact lv_goto hx hb hd ht (kk H locs ls hz hP hS hL h0)
theorem tL_i2c (F : Fx X own cc nL d mc ms) {x : Int32} (hd : decode cc pc = .ok (.i2c, 1)) (kk : GL b0 X nL kc ks n Ly (pc + 1) lv (.inl (x.toUInt32 % 65536).toInt32 :: st) I P) : GL b0 X nL kc ks n Ly pc lv (.inl x :: st) I P := by
  obtain ⟨p, l, e, R, s, m, args, below, meth, c, s0, D, DA, Q⟩ := X
  obtain ⟨hx, hb, hml, hown, hts, hK, hN, hs0, hlk, hR1, hR2, hR3, hR4⟩ := F
  intro H locs ls hz hP hS hL h0
  exact lv_i2c hx hb hd rfl (kk H locs ls hz hP hS hL h0)
theorem tL_iadd (F : Fx X own cc nL d mc ms) {x y : Int32} (hd : decode cc pc = .ok (.iadd, 1)) (kk : GL b0 X nL kc ks n Ly (pc + 1) lv (.inl (x + y) :: st) I P) : GL b0 X nL kc ks n Ly pc lv (.inl y :: .inl x :: st) I P := by
  obtain ⟨p, l, e, R, s, m, args, below, meth, c, s0, D, DA, Q⟩ := X
  obtain ⟨hx, hb, hml, hown, hts, hK, hN, hs0, hlk, hR1, hR2, hR3, hR4⟩ := F
  intro H locs ls hz hP hS hL h0
  exact lv_iadd hx hb hd (kk H locs ls hz hP hS hL h0)
theorem tL_callV {b ci : Nat} (F : Fx X own cc nL d mc ms) (hd : decode cc pc = .ok (.invokevirtual idx, 3)) (hC : ∀ (l : Launch) (s0 : Nat) (D : va_G) (DA : Nat → ClassId), Ct l s0 D DA md (.inr (some b) :: av) mc' ms' n Ly I P Po) (hk : LV own idx md) (hm : MDok md av.length) (hci : ci < 10) (hl : Ly b = .inl ci) (hb : b < n) (hcls : md.1.cls = RF ci) (hst : st' = av.reverse ++ .inr (some b) :: st) (hlen : st.length ≤ 8) (hdp : md.2.2.2.2 + 1 ≤ d) (hmc : kc + mc' ≤ mc) (hms : ks + ms' ≤ ms) (hn : ∀ r n' Ly' I' P', Po r n' Ly' I' P' → n' = n + mc')
    (kk : ∀ (r : Option AV) (n' : Nat) (Ly' : LL) (I' : II) (P' : PP), Po r n' Ly' I' P' → GL b0 X nL (kc + mc') (ks + ms') n' Ly' (pc + 3) lv (r.toList ++ st) I' P') : GL b0 X nL kc ks n Ly pc lv st' I P := by
  obtain ⟨p, l, e, R, s, m, args, below, meth, c, s0, D, DA, Q⟩ := X
  obtain ⟨hx, hb', hml, hown, hts, hK, hN, hs0, hlk, hR1, hR2, hR3, hR4⟩ := F
  obtain ⟨k1, k2, k3⟩ := hk
  obtain ⟨m1, m2, m3, m4⟩ := hm
  subst hst
  intro H locs ls hz hP hS hL h0
  have hG : GoodIn tg (wsV own idx md.1.cls md.1 (wsM md)) := by
    intro w hw
    rcases List.mem_append.mp hw with h | h
    · have : w ∈ tg := by
        simp only [List.mem_cons, List.not_mem_nil, or_false] at h
        rcases h with rfl | rfl | rfl | rfl
        · exact k1
        · exact k2
        · exact k3
        · exact m1
      exact ⟨this, tg_good this⟩
    · exact ws_good m2 w h
  have hrm : rmD md.2.2.2.2 mc' ms' = ({ frames := md.2.2.2.2, cells := mc', slots := ms', locals := 40 * md.2.2.2.2 } : Room) := rfl
  have cw := cwV (R := R) (s := s) (args := args) (own := own) (C := md.1.cls) (index := idx) (y := md.1) (bytes := md.2.1) (maxL := md.2.2.1) (ret := md.2.2.2.1) (ws := wsM md) (ws' := tg) (rm := rmD md.2.2.2.2 mc' ms') (mc := mc') (ms := ms') av.length hts hG rfl rfl rfl ⟨rfl, m3⟩ ⟨by show md.2.2.2.2 + 1 ≤ _; omega, by show 8 + (md.2.2.1 + 11) + 40 * md.2.2.2.2 ≤ _; omega⟩
  have hrc := va_recv hK hP (cl_at hci) ((wd_get hb).trans (by rw [cE_o hl]))
  refine go_call (Po := Po) (a := (Value.ref (s0 + b) :: av.map (cv s0)).toArray) (rest := st.map (cv s0)) hs0 hz hP hS (fun hsz => va_runV (b := s0 + b) (As := av.map (cv s0)) ⟨hx, hb', hml, hown, hts⟩ (hC l s0 D DA) cw ⟨Rl.blind, by rw [hcls]; exact hrc, fun U hU hW => ⟨rfl, by rw [hU]; exact hsz, by rw [hU]; exact hP, va_K.moved hW.alike hK, hN.warm hW⟩⟩ rfl (by simp) hL.1 (by simp only [List.map_append, List.map_reverse, List.map_cons]; rfl) (by show 2 * 0 + _ ≤ 8; rw [cv_sum]; omega) hd ⟨Nat.le_trans hmc hR3, Nat.le_trans hms hR4⟩) hn (fun r n' Ly' I' P' H1 locs1 hp hz1 hP1 hS1 => ?_)
  have := kk r n' Ly' I' P' hp H1 locs1 ls hz1 hP1 hS1 hL h0
  cases r with
  | none => exact this
  | some v => exact this
theorem tL_callI {b : Nat} (F : Fx X own cc nL d mc ms) (hd : decode cc pc = .ok (.invokespecial idx, 3)) (hC : ∀ (l : Launch) (s0 : Nat) (D : va_G) (DA : Nat → ClassId), Ct l s0 D DA md (.inr (some b) :: av) mc' ms' n Ly I P Po) (hret : md.2.2.2.1 = none) (hk : LI own idx md) (hm : MDok md av.length) (hst : st' = av.reverse ++ .inr (some b) :: st) (hlen : st.length ≤ 8) (hdp : md.2.2.2.2 + 1 ≤ d) (hmc : kc + mc' ≤ mc) (hms : ks + ms' ≤ ms) (hn : ∀ r n' Ly' I' P', Po r n' Ly' I' P' → n' = n + mc')
    (kk : ∀ (r : Option AV) (n' : Nat) (Ly' : LL) (I' : II) (P' : PP), Po r n' Ly' I' P' → GL b0 X nL (kc + mc') (ks + ms') n' Ly' (pc + 3) lv (r.toList ++ st) I' P') : GL b0 X nL kc ks n Ly pc lv st' I P := by
  obtain ⟨p, l, e, R, s, m, args, below, meth, c, s0, D, DA, Q⟩ := X
  obtain ⟨hx, hb', hml, hown, hts, hK, hN, hs0, hlk, hR1, hR2, hR3, hR4⟩ := F
  obtain ⟨k1, k2, k3⟩ := hk
  obtain ⟨m1, m2, m3, m4⟩ := hm
  obtain ⟨y, by1, mL, rt, dp⟩ := md
  have hret : rt = none := hret
  subst hret
  subst hst
  intro H locs ls hz hP hS hL h0
  have cw := cwI (R := R) (s := s) (args := args) (own := own) (index := idx) (y := y) (bytes := by1) (maxL := mL) (ws := wsM (y, by1, mL, none, dp)) (ws' := tg) (rm := rmD dp mc' ms') (mc := mc') (ms := ms') av.length hts (ws_good m2) rfl rfl rfl (hts _ m1) (hts _ k1) (hts _ k2) k3 m3 ⟨by have : dp + 1 ≤ d := hdp; show dp + 1 ≤ _; omega, by have : dp + 1 ≤ d := hdp; have : mL ≤ 21 := m4; show 8 + (mL + 11) + 40 * dp ≤ _; omega⟩
  refine go_call (Po := Po) (a := (Value.ref (s0 + b) :: av.map (cv s0)).toArray) (rest := st.map (cv s0)) hs0 hz hP hS (fun hsz => va_runI (b := s0 + b) (As := av.map (cv s0)) ⟨hx, hb', hml, hown, hts⟩ (hC l s0 D DA) cw ⟨Rl.blind, fun U hU hW => ⟨rfl, by rw [hU]; exact hsz, by rw [hU]; exact hP, va_K.moved hW.alike hK, hN.warm hW⟩⟩ rfl (by simp) hL.1 (by simp only [List.map_append, List.map_reverse, List.map_cons]; rfl) (by show 2 * 0 + _ ≤ 8; rw [cv_sum]; omega) hd ⟨Nat.le_trans hmc hR3, Nat.le_trans hms hR4⟩) hn (fun r n' Ly' I' P' H1 locs1 hp hz1 hP1 hS1 => ?_)
  have := kk r n' Ly' I' P' hp H1 locs1 ls hz1 hP1 hS1 hL h0
  cases r with
  | none => exact this
  | some v => exact this
theorem tL_new (F : Fx X own cc nL d mc ms) {idx ci : Nat} (hd : decode cc pc = .ok (.new idx, 3)) (hk : LN own idx ci) (hmc : kc + 1 ≤ mc) (hms : ks + nF ci ≤ ms) (kk : GL b0 X nL (kc + 1) (ks + nF ci) (n + 1) (upL Ly n (.inl ci)) (pc + 3) lv (.inr (some n) :: st) (nwI I n) (nwP P n)) : GL b0 X nL kc ks n Ly pc lv st I P := by
  obtain ⟨p, l, e, R, s, m, args, below, meth, c, s0, D, DA, Q⟩ := X
  obtain ⟨hx, hb, hml, hown, hts, hK, hN, hs0, hlk, hR1, hR2, hR3, hR4⟩ := F
  obtain ⟨hci, k1, k2, k3⟩ := hk
  intro H locs ls hz hP hS hL h0 T hT Y
  have hsz := sz_of Y hT hz hP hS hs0
  refine (?_ : W p l e R s m args below meth c H locs kc ks Q (F0 m pc ls (st.map (cv s0)))) T hT Y
  have hKn := hK.1 ci _ (cl_at hci)
  refine W.newcK hx hb hown (hts _ k1) (hts _ k2) (hts _ k3) rfl hd (Nat.le_trans hmc hR3) (Nat.le_trans hms hR4) hKn.2.1 hsz fun H1 kC hkC e1 z1 o1 => ?_
  have hq : ∀ (k : Nat) (x : Nat × va_E), (wd s0 DA Ly I P n)[k]? = some x → H1[x.1]? = H[x.1]? := fun k x hx => o1 x.1 (by rw [← hsz]; exact (hP k x hx).lt)
  refine kk H1 locs ls (by omega) ?_ ⟨Nat.le_trans hS.1 (by omega), fun x h1 h2 => (o1 x (by have := hS.1; omega)).trans (hS.2.1 x h1 h2), hS.2.2⟩ hL h0
  rw [wd_push]
  refine (hP.kept hq).app (fun k x hx => ?_)
  have hz0 : k < 1 := (List.getElem?_eq_some_iff.mp hx).1
  rw [show k = 0 by omega] at hx
  cases hx
  rw [cE_o (show upL Ly n (.inl ci) n = .inl ci by simp [upL])]
  refine ⟨_, cl_at hci, (u_born (tyF ci) hts (ws_in hci) hKn hkC e1 (ty_ok hci)).to (fun j hj => ?_)⟩
  rw [ty_dv (s0 := s0) (n := n) (I := I) (P := P) hci hj]
  simp [vp_V, hj]
theorem tL_istore_n (F : Fx X own cc nL d mc ms) {k : Fin 4} {x : Int32} (hd : decode cc pc = .ok (.istore_n k, 1)) (hk : (k : Nat) < nL) (hk0 : (k : Nat) ≠ 0) (kk : GL b0 X nL kc ks n Ly (pc + 1) (lv.set (k : Nat) (some (.inl x))) st I P) : GL b0 X nL kc ks n Ly pc lv (.inl x :: st) I P := by
  obtain ⟨p, l, e, R, s, m, args, below, meth, c, s0, D, DA, Q⟩ := X
  obtain ⟨hx, hb, hml, hown, hts, hK, hN, hs0, hlk, hR1, hR2, hR3, hR4⟩ := F
  intro H locs ls hz hP hS hL h0
  exact lv_istore_n hx hb hd rfl (LR0 hL h0) hk rfl (fun ls' h' => kk H locs ls' hz hP hS (LR1 (v := .inl x) hL hk0 h').1 (LR1 (v := .inl x) hL hk0 h').2)
theorem tL_astore_n (F : Fx X own cc nL d mc ms) {k : Fin 4} {o : Nat} (hd : decode cc pc = .ok (.astore_n k, 1)) (hk : (k : Nat) < nL) (hk0 : (k : Nat) ≠ 0) (kk : GL b0 X nL kc ks n Ly (pc + 1) (lv.set (k : Nat) (some (.inr (some o)))) st I P) : GL b0 X nL kc ks n Ly pc lv (.inr (some o) :: st) I P := by
  obtain ⟨p, l, e, R, s, m, args, below, meth, c, s0, D, DA, Q⟩ := X
  obtain ⟨hx, hb, hml, hown, hts, hK, hN, hs0, hlk, hR1, hR2, hR3, hR4⟩ := F
  intro H locs ls hz hP hS hL h0
  exact lv_astore_n hx hb hd rfl (LR0 hL h0) hk rfl (fun ls' h' => kk H locs ls' hz hP hS (LR1 (v := .inr (some o)) hL hk0 h').1 (LR1 (v := .inr (some o)) hL hk0 h').2)
theorem tL_iinc (F : Fx X own cc nL d mc ms) {k : Nat} {j : Int} {x v : Int32} (hd : decode cc pc = .ok (.iinc k j, 3)) (hl : lv[k]? = some (some (.inl x))) (hk : k < nL) (hk0 : k ≠ 0) (hv : x + Int32.ofInt j = v) (kk : GL b0 X nL kc ks n Ly (pc + 3) (lv.set k (some (.inl v))) st I P) : GL b0 X nL kc ks n Ly pc lv st I P := by
  obtain ⟨p, l, e, R, s, m, args, below, meth, c, s0, D, DA, Q⟩ := X
  obtain ⟨hx, hb, hml, hown, hts, hK, hN, hs0, hlk, hR1, hR2, hR3, hR4⟩ := F
  intro H locs ls hz hP hS hL h0
  obtain ⟨i, hi⟩ := List.getElem?_of_mem (List.mem_cons_of_mem (0, Value.ref b0) (prs_mem.mpr ⟨_, hl, rfl⟩ : (k, cv s0 (.inl x)) ∈ prs s0 lv))
  exact lv_iinc hx hb hd (LR0 hL h0) hi hv hk rfl (fun ls' h' => kk H locs ls' hz hP hS (LR1 (v := .inl v) hL hk0 h').1 (LR1 (v := .inl v) hL hk0 h').2)
def SX (X : Cx) (b0 L : Nat) (xs : Nat → Int32) : Prop := match X with
  | (p, l, e, R, s, m, args, below, meth, c, s0, D, DA, Q) => va_X b0 L xs s s.heap ∧ b0 < s.heap.size ∧ s0 = s.heap.size
theorem tL_slen {L : Nat} {xs : Nat → Int32} (F : Fx X own cc nL d mc ms) (S : SX X b0 L xs) (hd0 : decode cc pc = .ok (.aload_n 0, 1)) (hd1 : decode cc (pc + 1) = .ok (.arraylength, 1)) (kk : GL b0 X nL kc ks n Ly (pc + 2) lv (.inl (nI L) :: st) I P) : GL b0 X nL kc ks n Ly pc lv st I P := by
  obtain ⟨p, l, e, R, s, m, args, below, meth, c, s0, D, DA, Q⟩ := X
  obtain ⟨hx, hb, hml, hown, hts, hK, hN, hs0, hlk, hR1, hR2, hR3, hR4⟩ := F
  obtain ⟨s1, s2, s3⟩ := S
  intro H locs ls hz hP hS hL h0
  exact lv_aload_n hx hb hd0 rfl h0 (va_slen hx hb s1 s2 (by omega) hS hd1 (kk H locs ls hz hP hS hL h0))
theorem tL_s0 {L i : Nat} {xs : Nat → Int32} (F : Fx X own cc nL d mc ms) (S : SX X b0 L xs) (hi : i < L) (hL : L ≤ 3072) (hl : lv[3]? = some (some (.inl (nI i)))) (hd0 : decode cc pc = .ok (.aload_n 0, 1)) (hd1 : decode cc (pc + 1) = .ok (.iload_n 3, 1)) (hd2 : decode cc (pc + 2) = .ok (.iaload, 1)) (kk : GL b0 X nL kc ks n Ly (pc + 3) lv (.inl (xs i) :: st) I P) : GL b0 X nL kc ks n Ly pc lv st I P := by
  obtain ⟨p, l, e, R, s, m, args, below, meth, c, s0, D, DA, Q⟩ := X
  obtain ⟨hx, hb, hml, hown, hts, hK, hN, hs0, hlk, hR1, hR2, hR3, hR4⟩ := F
  obtain ⟨s1, s2, s3⟩ := S
  intro H locs ls hz hP hS hLl h0
  refine lv_aload_n hx hb hd0 rfl h0 (lv_iload_n (i := 3) hx hb hd1 rfl (hLl.2.2 _ _ hl) (va_sld hx hb s1 s2 (by omega) hS (vp_in_nI hi (by omega)) hd2 ?_))
  rw [nI_clamp (show i < 2 ^ 31 by omega)]
  exact kk H locs ls hz hP hS hLl h0
theorem tL_sk {L i : Nat} {xs : Nat → Int32} {k : Int} {j : Nat} (F : Fx X own cc nL d mc ms) (S : SX X b0 L xs) (hi : i + j < L) (hL : L ≤ 3072) (hl : lv[3]? = some (some (.inl (nI i)))) (hd0 : decode cc pc = .ok (.aload_n 0, 1)) (hd1 : decode cc (pc + 1) = .ok (.iload_n 3, 1)) (hd2 : decode cc (pc + 2) = .ok (.iconst k, 1)) (hk : Int32.ofInt k = nI j) (hd3 : decode cc (pc + 3) = .ok (.iadd, 1)) (hd4 : decode cc (pc + 4) = .ok (.iaload, 1)) (kk : GL b0 X nL kc ks n Ly (pc + 5) lv (.inl (xs (i + j)) :: st) I P) : GL b0 X nL kc ks n Ly pc lv st I P := by
  obtain ⟨p, l, e, R, s, m, args, below, meth, c, s0, D, DA, Q⟩ := X
  obtain ⟨hx, hb, hml, hown, hts, hK, hN, hs0, hlk, hR1, hR2, hR3, hR4⟩ := F
  obtain ⟨s1, s2, s3⟩ := S
  intro H locs ls hz hP hS hLl h0
  refine lv_aload_n hx hb hd0 rfl h0 (lv_iload_n (i := 3) hx hb hd1 rfl (hLl.2.2 _ _ hl) (lv_iconst hx hb hd2 hk (lv_iadd hx hb hd3 ?_)))
  rw [nI_add]
  refine va_sld hx hb s1 s2 (by omega) hS (vp_in_nI hi (by omega)) hd4 ?_
  rw [nI_clamp (show i + j < 2 ^ 31 by omega)]
  exact kk H locs ls hz hP hS hLl h0
theorem tL_tin {dflt lo hi : Int} {offs : Array Int} {len : Nat} {x : Int32} {off : Int} {tgt : Nat} (F : Fx X own cc nL d mc ms) (hd : decode cc pc = .ok (.tableswitch dflt lo hi offs, len)) (h1 : ¬ x.toInt < lo) (h2 : ¬ hi < x.toInt) (ho : offs[(x.toInt - lo).toNat]? = some off) (ht : (pc : Int) + off = (tgt : Int)) (kk : GL b0 X nL kc ks n Ly tgt lv st I P) : GL b0 X nL kc ks n Ly pc lv (.inl x :: st) I P := by
  obtain ⟨p, l, e, R, s, m, args, below, meth, c, s0, D, DA, Q⟩ := X
  obtain ⟨hx, hb, hml, hown, hts, hK, hN, hs0, hlk, hR1, hR2, hR3, hR4⟩ := F
  intro H locs ls hz hP hS hL h0
  exact lv_tableIn hx hb hd h1 h2 ho ht (kk H locs ls hz hP hS hL h0)
theorem tL_tout {dflt lo hi : Int} {offs : Array Int} {len : Nat} {x : Int32} {tgt : Nat} (F : Fx X own cc nL d mc ms) (hd : decode cc pc = .ok (.tableswitch dflt lo hi offs, len)) (h : x.toInt < lo ∨ hi < x.toInt) (ht : (pc : Int) + dflt = (tgt : Int)) (kk : GL b0 X nL kc ks n Ly tgt lv st I P) : GL b0 X nL kc ks n Ly pc lv (.inl x :: st) I P := by
  obtain ⟨p, l, e, R, s, m, args, below, meth, c, s0, D, DA, Q⟩ := X
  obtain ⟨hx, hb, hml, hown, hts, hK, hN, hs0, hlk, hR1, hR2, hR3, hR4⟩ := F
  intro H locs ls hz hP hS hL h0
  exact lv_tableOut hx hb hd h ht (kk H locs ls hz hP hS hL h0)
end LAWROWS
