theorem Rl.blind {s0 : Nat} {D : va_G} {DA : Nat → ClassId} {n : Nat} {Ly : LL} {I : II} {P : PP} {av : List Value} : FrameBlind (va_Pc av (Rl s0 D DA n Ly I P)) := by
  intro a U g mk h
  obtain ⟨h1, h2, h3, h4, h5⟩ := h
  exact ⟨h1, h2, h3, va_K.moved (u := U) (U := U.calling g mk a) (Vm.Alike.refl U.vm) h4, Nst.same rfl h5⟩
theorem arg_get (s0 : Nat) : ∀ (av : List AV) (i0 k : Nat) (v : AV), av[k]? = some v → (i0 + k, cv s0 v) ∈ lv_args i0 (av.map (cv s0))
  | [], _, k, v, h => by simp at h
  | a :: av, i0, k, v, h => by
    rw [List.map_cons]
    unfold lv_args
    rw [if_neg (by rw [cv_cat]; decide)]
    cases k with
    | zero =>
      rw [List.getElem?_cons_zero] at h
      cases h
      exact List.mem_cons_self
    | succ k =>
      rw [List.getElem?_cons_succ] at h
      have := arg_get s0 av (i0 + 1) k v h
      rw [show i0 + 1 + k = i0 + (k + 1) by omega] at this
      exact List.mem_cons_of_mem _ this
theorem sl_len (s0 : Nat) (av : List AV) : (lg_sl (av.map (cv s0))).length = av.length := by
  unfold lg_sl
  induction av with
  | nil => rfl
  | cons a l ih =>
    rw [List.map_cons, List.flatMap_cons, List.length_append, ih, if_neg (by rw [cv_cat]; decide), List.length_cons]
    show 1 + l.length = l.length + 1
    omega
/-- a contract from a walk of the body -/
theorem ct_of {l : Launch} {s0 : Nat} {D : va_G} {DA : Nat → ClassId} {y : MethodName} {cc : ByteArray} {maxL : Nat} {ret : Option FieldType} {d : Nat} {av : List AV} {mc ms n : Nat} {Ly : LL} {I : II} {P : PP} {Po : PQ} (hp : plainName y.cls = true) (hav : av.length ≤ maxL)
    (body : ∀ X : Cx, Fx X y.cls cc maxL d mc ms → Fr X ret Po mc ms → (y.name = "<init>" → Fi X) → G X maxL 0 0 n Ly 0 (av.map some ++ List.replicate (maxL - av.length) none) [] I P) : Ct l s0 D DA (y, cc, maxL, ret, d) av mc ms n Ly I P Po := by
  refine Met.ofW (cc := cc) (maxL := maxL) (ret := ret) hp rfl ?_
  intro p e s m args below meth c s₁ B hml hv
  obtain ⟨rfl, hsz, hP, hK, hN⟩ := hv
  have hts := atoms_spec (ws := wsM (y, cc, maxL, ret, d)) B.pre
  have hs0 : s0 ≤ s.heap.size := by rw [hsz]; omega
  have hg := body (p, l, e, rmD d mc ms, s, m, (av.map (cv s0)).toArray, below, meth, c, s0, D, DA, MQ below (Qr s0 D DA Po) (av.map (cv s0)).toArray s mc ms (fun q => s0 ≤ q))
    ⟨B.exec, B.bytes, hml, findClass_of_methodNamed B.named, fun w hw => hts w (List.mem_cons_of_mem _ hw), hK, hN, hs0, B.notSynchronized, Nat.le_refl _, Nat.le_refl _, Nat.le_refl _, Nat.le_refl _⟩
    ⟨B.returns, rfl⟩ (fun h => (name_of_methodNamed B.named B.method).1.trans h)
  have hl := lv_entry (av.map (cv s0)) (n := maxL) (by rw [sl_len]; exact hav)
  have hent := lg_entry_eq m (av.map (cv s0)) maxL
  refine W.eq hent (hg s.heap [] _ (by omega) hP va_S.rf ⟨hl.1, hl.2.1, fun i v hi => hl.2.2 (i, cv s0 v) ?_⟩)
  by_cases hlt : i < av.length
  · rw [List.getElem?_append_left (by simpa using hlt)] at hi
    have h2 : av[i]? = some v := by
      cases h3 : av[i]? with
      | none => rw [List.getElem?_map, h3] at hi; cases hi
      | some w =>
        rw [List.getElem?_map, h3] at hi
        exact congrArg some (Option.some.inj (Option.some.inj hi))
    have := arg_get s0 av 0 i v h2
    rwa [Nat.zero_add] at this
  · rw [List.getElem?_append_right (by simpa using Nat.le_of_not_lt hlt)] at hi
    have := List.mem_of_getElem? hi
    have := List.eq_of_mem_replicate this
    cases this
theorem go_call {p : Program} {l : Launch} {e : Env} {R : Room} {s : State} {m : MethodId} {args : Array Value} {below : List Frame} {meth : Method} {c : Code} {H : Heap} {locs : List Loc} {kc ks mc' ms' s0 n pc : Nat} {D : va_G} {DA : Nat → ClassId} {Q : State → Prop} {ls : Array Slot} {st0 rest : List Value} {a : Array Value} {Po : PQ} {Ly : LL} {I : II} {P : PP}
    (hs0 : s0 ≤ s.heap.size) (hz : s.heap.size + kc = s0 + n) (hP : va_P D vwCl (wd s0 DA Ly I P n) H) (hS : va_S (fun q => s0 ≤ q) s.heap H locs)
    (hr : H.size = s0 + n → va_Run p l e R s m args below meth c H locs kc ks mc' ms' (F0 m pc ls st0) rest (Qr s0 D DA Po a) (fun q => s0 ≤ q))
    (hn : ∀ r n' Ly' I' P', Po r n' Ly' I' P' → n' = n + mc')
    (kk : ∀ (r : Option AV) (n' : Nat) (Ly' : LL) (I' : II) (P' : PP) (H1 : Heap) (locs1 : List Loc), Po r n' Ly' I' P' → s.heap.size + (kc + mc') = s0 + n' → va_P D vwCl (wd s0 DA Ly' I' P' n') H1 → va_S (fun q => s0 ≤ q) s.heap H1 locs1 → W p l e R s m args below meth c H1 locs1 (kc + mc') (ks + ms') Q (F0 m (pc + 3) ls ((r.map (cv s0)).toList ++ rest))) : W p l e R s m args below meth c H locs kc ks Q (F0 m pc ls st0) := by
  intro T hT X
  have hsz := sz_of X hT hz hP hS hs0
  obtain ⟨v, st₀, t, T', L, h0, X', hL, e1, e2, ⟨⟨r, n', Ly', I', P', hv, hp, hq1, hq2, hq3, hq4⟩, hF⟩, st⟩ := hr hsz T hT X
  cases hv
  obtain ⟨hz1, hk1⟩ := hF
  rw [h0] at hz1 hk1
  have hn' := hn _ _ _ _ _ hp
  obtain ⟨t2, a1, b1⟩ := kk r n' Ly' I' P' T'.heap (locs ++ L) hp (by omega) (by rw [e1]; exact hq2)
    ⟨Nat.le_trans hS.1 (by rw [e1]; exact hz1), fun q h1 h2 => by rw [e1, hk1 q (Nat.lt_of_lt_of_le h1 hS.1) h2]; exact hS.2.1 q h1 h2, fun q hq => by
      rcases List.mem_append.mp hq with h | h
      · exact hS.2.2 q h
      · exact hL q h⟩ T' rfl X'
  exact ⟨t2, st t2 a1, b1⟩
def MDok (md : MD) (na : Nat) : Prop := Cond.initialized md.1.cls ∈ tg ∧ Cond.code md.1 md.2.1 md.2.2.1 md.2.2.2.1 ∈ tg ∧ (md.1.cls ≠ "java/lang/invoke/MethodHandle" ∧ md.1.cls ≠ "java/lang/invoke/VarHandle" ∧ (parseMethodDescriptor md.1.desc).map (fun d => d.parameters.length) = some na) ∧ md.2.2.1 ≤ 22
theorem ws_sub {md : MD} (h : Cond.code md.1 md.2.1 md.2.2.1 md.2.2.2.1 ∈ tg) : ∀ w ∈ wsM md, w ∈ tg := by
  intro w hw
  rcases List.mem_cons.mp hw with rfl | hw
  · exact h
  · exact hw
theorem ws_good {md : MD} (h : Cond.code md.1 md.2.1 md.2.2.1 md.2.2.2.1 ∈ tg) : GoodIn tg (wsM md) := fun w hw => ⟨ws_sub h w hw, tg_good (ws_sub h w hw)⟩
section CALLS
variable {X : Cx} {own : String} {cc : ByteArray} {nL d mc ms kc ks n pc : Nat} {Ly : LL} {lv : List (Option AV)} {st st' : List AV} {I : II} {P : PP} {idx : Nat} {md : MD} {av : List AV} {mc' ms' : Nat} {Po : PQ}
def LV (own : String) (idx : Nat) (md : MD) : Prop := Cond.methodLink own idx md.1 ∈ tg ∧ Cond.instanceMethod md.1 ∈ tg ∧ Cond.selects md.1.cls md.1 md.1 ∈ tg
def LT (own : String) (idx : Nat) (md : MD) : Prop := Cond.methodLink own idx md.1 ∈ tg ∧ Cond.static md.1 ∈ tg
def LI (own : String) (idx : Nat) (md : MD) : Prop := Cond.methodLink own idx md.1 ∈ tg ∧ Cond.instanceMethod md.1 ∈ tg ∧ md.1.name = "<init>"
theorem s_callV {b ci : Nat} (F : Fx X own cc nL d mc ms) (hd : decode cc pc = .ok (.invokevirtual idx, 3)) (hC : ∀ (l : Launch) (s0 : Nat) (D : va_G) (DA : Nat → ClassId), Ct l s0 D DA md (.inr (some b) :: av) mc' ms' n Ly I P Po) (hk : LV own idx md) (hm : MDok md av.length) (hci : ci < 9) (hl : Ly b = .inl ci) (hb : b < n) (hcls : md.1.cls = RF ci) (hst : st' = av.reverse ++ .inr (some b) :: st) (hlen : st.length ≤ 8) (hdp : md.2.2.2.2 + 1 ≤ d) (hmc : kc + mc' ≤ mc) (hms : ks + ms' ≤ ms) (hn : ∀ r n' Ly' I' P', Po r n' Ly' I' P' → n' = n + mc')
    (kk : ∀ (r : Option AV) (n' : Nat) (Ly' : LL) (I' : II) (P' : PP), Po r n' Ly' I' P' → G X nL (kc + mc') (ks + ms') n' Ly' (pc + 3) lv (r.toList ++ st) I' P') : G X nL kc ks n Ly pc lv st' I P := by
  obtain ⟨p, l, e, R, s, m, args, below, meth, c, s0, D, DA, Q⟩ := X
  obtain ⟨hx, hb', hml, hown, hts, hK, hN, hs0, hlk, hR1, hR2, hR3, hR4⟩ := F
  obtain ⟨k1, k2, k3⟩ := hk
  obtain ⟨m1, m2, m3, m4⟩ := hm
  subst hst
  intro H locs ls hz hP hS hL
  have hG : GoodIn tg (wsV own idx md.1.cls md.1 (wsM md)) := by
    intro w hw
    rcases List.mem_append.mp hw with h | h
    · have : w ∈ tg := by
        simp only [List.mem_cons, List.not_mem_nil, or_false] at h
        rcases h with rfl | rfl | rfl | rfl
        · exact k1
        · exact k2
        · exact k3
        · exact m1
      exact ⟨this, tg_good this⟩
    · exact ws_good m2 w h
  have hrm : rmD md.2.2.2.2 mc' ms' = ({ frames := md.2.2.2.2, cells := mc', slots := ms', locals := 41 * md.2.2.2.2 } : Room) := rfl
  have cw := cwV (R := R) (s := s) (args := args) (own := own) (C := md.1.cls) (index := idx) (y := md.1) (bytes := md.2.1) (maxL := md.2.2.1) (ret := md.2.2.2.1) (ws := wsM md) (ws' := tg) (rm := rmD md.2.2.2.2 mc' ms') (mc := mc') (ms := ms') av.length hts hG rfl rfl rfl ⟨rfl, m3⟩ ⟨by show md.2.2.2.2 + 1 ≤ _; omega, by show 8 + (md.2.2.1 + 11) + 41 * md.2.2.2.2 ≤ _; omega⟩
  have hrc := va_recv hK hP (cl_at hci) ((wd_get hb).trans (by rw [cE_o hl]))
  refine go_call (Po := Po) (a := (Value.ref (s0 + b) :: av.map (cv s0)).toArray) (rest := st.map (cv s0)) hs0 hz hP hS (fun hsz => va_runV (b := s0 + b) (As := av.map (cv s0)) ⟨hx, hb', hml, hown, hts⟩ (hC l s0 D DA) cw ⟨Rl.blind, by rw [hcls]; exact hrc, fun U hU hW => ⟨rfl, by rw [hU]; exact hsz, by rw [hU]; exact hP, va_K.moved hW.alike hK, hN.warm hW⟩⟩ rfl (by simp) hL.1 (by simp only [List.map_append, List.map_reverse, List.map_cons]; rfl) (by show 2 * 0 + _ ≤ 8; rw [cv_sum]; omega) hd ⟨Nat.le_trans hmc hR3, Nat.le_trans hms hR4⟩) hn (fun r n' Ly' I' P' H1 locs1 hp hz1 hP1 hS1 => ?_)
  have := kk r n' Ly' I' P' hp H1 locs1 ls hz1 hP1 hS1 hL
  cases r with
  | none => exact this
  | some v => exact this
theorem s_callS (F : Fx X own cc nL d mc ms) (hd : decode cc pc = .ok (.invokestatic idx, 3)) (hC : ∀ (l : Launch) (s0 : Nat) (D : va_G) (DA : Nat → ClassId), Ct l s0 D DA md av mc' ms' n Ly I P Po) (hk : LT own idx md) (hm : MDok md av.length) (hst : st' = av.reverse ++ st) (hlen : st.length ≤ 8) (hdp : md.2.2.2.2 + 1 ≤ d) (hmc : kc + mc' ≤ mc) (hms : ks + ms' ≤ ms) (hn : ∀ r n' Ly' I' P', Po r n' Ly' I' P' → n' = n + mc')
    (kk : ∀ (r : Option AV) (n' : Nat) (Ly' : LL) (I' : II) (P' : PP), Po r n' Ly' I' P' → G X nL (kc + mc') (ks + ms') n' Ly' (pc + 3) lv (r.toList ++ st) I' P') : G X nL kc ks n Ly pc lv st' I P := by
  obtain ⟨p, l, e, R, s, m, args, below, meth, c, s0, D, DA, Q⟩ := X
  obtain ⟨hx, hb', hml, hown, hts, hK, hN, hs0, hlk, hR1, hR2, hR3, hR4⟩ := F
  obtain ⟨k1, k2⟩ := hk
  obtain ⟨m1, m2, m3, m4⟩ := hm
  subst hst
  intro H locs ls hz hP hS hL
  have cw : CallB R s args own idx md.1 md.2.1 md.2.2.1 md.2.2.2.1 (wsM md) (rmD md.2.2.2.2 mc' ms') mc' ms' av.length ∧ (Cond.static md.1).before args s = true := ⟨callB_of (ws' := tg) av.length hts (ws_good m2) rfl rfl rfl (hts _ m1) (hts _ k1) m3 ⟨by show md.2.2.2.2 + 1 ≤ _; omega, by show 8 + (md.2.2.1 + 11) + 41 * md.2.2.2.2 ≤ _; omega⟩, hts _ k2⟩
  refine go_call (Po := Po) (a := (av.map (cv s0)).toArray) (rest := st.map (cv s0)) hs0 hz hP hS (fun hsz => va_runS (As := av.map (cv s0)) ⟨hx, hb', hml, hown, hts⟩ (hC l s0 D DA) cw ⟨Rl.blind, fun U hU hW => ⟨rfl, by rw [hU]; exact hsz, by rw [hU]; exact hP, va_K.moved hW.alike hK, hN.warm hW⟩⟩ rfl (by simp) hL.1 (by simp only [List.map_append, List.map_reverse]) (by show 2 * 0 + _ ≤ 8; rw [cv_sum]; omega) hd ⟨Nat.le_trans hmc hR3, Nat.le_trans hms hR4⟩) hn (fun r n' Ly' I' P' H1 locs1 hp hz1 hP1 hS1 => ?_)
  have := kk r n' Ly' I' P' hp H1 locs1 ls hz1 hP1 hS1 hL
  cases r with
  | none => exact this
  | some v => exact this
theorem s_callSN {host : String} (F : Fx X own cc nL d mc ms) (hd : decode cc pc = .ok (.invokestatic idx, 3)) (hC : ∀ (l : Launch) (s0 : Nat) (D : va_G) (DA : Nat → ClassId), Ct l s0 D DA md av mc' ms' n Ly I P Po) (hk : (∀ U, Nst U → va_Nw (.methodLinkNest own idx md.1 host) U) ∧ Cond.static md.1 ∈ tg) (hm : MDok md av.length) (hst : st' = av.reverse ++ st) (hlen : st.length ≤ 8) (hdp : md.2.2.2.2 + 1 ≤ d) (hmc : kc + mc' ≤ mc) (hms : ks + ms' ≤ ms) (hn : ∀ r n' Ly' I' P', Po r n' Ly' I' P' → n' = n + mc')
    (kk : ∀ (r : Option AV) (n' : Nat) (Ly' : LL) (I' : II) (P' : PP), Po r n' Ly' I' P' → G X nL (kc + mc') (ks + ms') n' Ly' (pc + 3) lv (r.toList ++ st) I' P') : G X nL kc ks n Ly pc lv st' I P := by
  obtain ⟨p, l, e, R, s, m, args, below, meth, c, s0, D, DA, Q⟩ := X
  obtain ⟨hx, hb', hml, hown, hts, hK, hN, hs0, hlk, hR1, hR2, hR3, hR4⟩ := F
  obtain ⟨k1, k2⟩ := hk
  obtain ⟨m1, m2, m3, m4⟩ := hm
  subst hst
  intro H locs ls hz hP hS hL
  have cw := va_cnB (R := R) (s := s) (args := args) (own := own) (host := host) (index := idx) (y := md.1) (bytes := md.2.1) (maxL := md.2.2.1) (ret := md.2.2.2.1) (ws := wsM md) (ws' := tg) (rm := rmD md.2.2.2.2 mc' ms') (mc := mc') (ms := ms') av.length hts (ws_good m2) rfl rfl rfl (k1 s hN) (hts _ m1) m3 ⟨by show md.2.2.2.2 + 1 ≤ _; omega, by show 8 + (md.2.2.1 + 11) + 41 * md.2.2.2.2 ≤ _; omega⟩
  refine go_call (Po := Po) (a := (av.map (cv s0)).toArray) (rest := st.map (cv s0)) hs0 hz hP hS (fun hsz => va_runSN (As := av.map (cv s0)) ⟨hx, hb', hml, hown, hts⟩ (hC l s0 D DA) ⟨cw, hts _ k2, trivial⟩ ⟨Rl.blind, fun U hU hW => ⟨rfl, by rw [hU]; exact hsz, by rw [hU]; exact hP, va_K.moved hW.alike hK, hN.warm hW⟩⟩ rfl (by simp) hL.1 (by simp only [List.map_append, List.map_reverse]) (by show 2 * 0 + _ ≤ 8; rw [cv_sum]; omega) hd ⟨Nat.le_trans hmc hR3, Nat.le_trans hms hR4⟩) hn (fun r n' Ly' I' P' H1 locs1 hp hz1 hP1 hS1 => ?_)
  have := kk r n' Ly' I' P' hp H1 locs1 ls hz1 hP1 hS1 hL
  cases r with
  | none => exact this
  | some v => exact this
theorem s_callI {b : Nat} (F : Fx X own cc nL d mc ms) (hd : decode cc pc = .ok (.invokespecial idx, 3)) (hC : ∀ (l : Launch) (s0 : Nat) (D : va_G) (DA : Nat → ClassId), Ct l s0 D DA md (.inr (some b) :: av) mc' ms' n Ly I P Po) (hret : md.2.2.2.1 = none) (hk : LI own idx md) (hm : MDok md av.length) (hst : st' = av.reverse ++ .inr (some b) :: st) (hlen : st.length ≤ 8) (hdp : md.2.2.2.2 + 1 ≤ d) (hmc : kc + mc' ≤ mc) (hms : ks + ms' ≤ ms) (hn : ∀ r n' Ly' I' P', Po r n' Ly' I' P' → n' = n + mc')
    (kk : ∀ (r : Option AV) (n' : Nat) (Ly' : LL) (I' : II) (P' : PP), Po r n' Ly' I' P' → G X nL (kc + mc') (ks + ms') n' Ly' (pc + 3) lv (r.toList ++ st) I' P') : G X nL kc ks n Ly pc lv st' I P := by
  obtain ⟨p, l, e, R, s, m, args, below, meth, c, s0, D, DA, Q⟩ := X
  obtain ⟨hx, hb', hml, hown, hts, hK, hN, hs0, hlk, hR1, hR2, hR3, hR4⟩ := F
  obtain ⟨k1, k2, k3⟩ := hk
  obtain ⟨m1, m2, m3, m4⟩ := hm
  obtain ⟨y, by1, mL, rt, dp⟩ := md
  have hret : rt = none := hret
  subst hret
  subst hst
  intro H locs ls hz hP hS hL
  have cw := cwI (R := R) (s := s) (args := args) (own := own) (index := idx) (y := y) (bytes := by1) (maxL := mL) (ws := wsM (y, by1, mL, none, dp)) (ws' := tg) (rm := rmD dp mc' ms') (mc := mc') (ms := ms') av.length hts (ws_good m2) rfl rfl rfl (hts _ m1) (hts _ k1) (hts _ k2) k3 m3 ⟨by have : dp + 1 ≤ d := hdp; show dp + 1 ≤ _; omega, by have : dp + 1 ≤ d := hdp; have : mL ≤ 22 := m4; show 8 + (mL + 11) + 41 * dp ≤ _; omega⟩
  refine go_call (Po := Po) (a := (Value.ref (s0 + b) :: av.map (cv s0)).toArray) (rest := st.map (cv s0)) hs0 hz hP hS (fun hsz => va_runI (b := s0 + b) (As := av.map (cv s0)) ⟨hx, hb', hml, hown, hts⟩ (hC l s0 D DA) cw ⟨Rl.blind, fun U hU hW => ⟨rfl, by rw [hU]; exact hsz, by rw [hU]; exact hP, va_K.moved hW.alike hK, hN.warm hW⟩⟩ rfl (by simp) hL.1 (by simp only [List.map_append, List.map_reverse, List.map_cons]; rfl) (by show 2 * 0 + _ ≤ 8; rw [cv_sum]; omega) hd ⟨Nat.le_trans hmc hR3, Nat.le_trans hms hR4⟩) hn (fun r n' Ly' I' P' H1 locs1 hp hz1 hP1 hS1 => ?_)
  have := kk r n' Ly' I' P' hp H1 locs1 ls hz1 hP1 hS1 hL
  cases r with
  | none => exact this
  | some v => exact this
theorem s_callIN {b : Nat} {host : String} (F : Fx X own cc nL d mc ms) (hd : decode cc pc = .ok (.invokespecial idx, 3)) (hC : ∀ (l : Launch) (s0 : Nat) (D : va_G) (DA : Nat → ClassId), Ct l s0 D DA md (.inr (some b) :: av) mc' ms' n Ly I P Po) (hret : md.2.2.2.1 = none) (hk : (∀ U, Nst U → va_Nw (.methodLinkNest own idx md.1 host) U) ∧ Cond.instanceMethod md.1 ∈ tg ∧ md.1.name = "<init>") (hm : MDok md av.length) (hst : st' = av.reverse ++ .inr (some b) :: st) (hlen : st.length ≤ 8) (hdp : md.2.2.2.2 + 1 ≤ d) (hmc : kc + mc' ≤ mc) (hms : ks + ms' ≤ ms) (hn : ∀ r n' Ly' I' P', Po r n' Ly' I' P' → n' = n + mc')
    (kk : ∀ (r : Option AV) (n' : Nat) (Ly' : LL) (I' : II) (P' : PP), Po r n' Ly' I' P' → G X nL (kc + mc') (ks + ms') n' Ly' (pc + 3) lv (r.toList ++ st) I' P') : G X nL kc ks n Ly pc lv st' I P := by
  obtain ⟨p, l, e, R, s, m, args, below, meth, c, s0, D, DA, Q⟩ := X
  obtain ⟨hx, hb', hml, hown, hts, hK, hN, hs0, hlk, hR1, hR2, hR3, hR4⟩ := F
  obtain ⟨k1, k2, k3⟩ := hk
  obtain ⟨m1, m2, m3, m4⟩ := hm
  obtain ⟨y, by1, mL, rt, dp⟩ := md
  have hret : rt = none := hret
  subst hret
  subst hst
  intro H locs ls hz hP hS hL
  have cw := va_cnB (R := R) (s := s) (args := args) (own := own) (host := host) (index := idx) (y := y) (bytes := by1) (maxL := mL) (ret := none) (ws := wsM (y, by1, mL, none, dp)) (ws' := tg) (rm := rmD dp mc' ms') (mc := mc') (ms := ms') av.length hts (ws_good m2) rfl rfl rfl (k1 s hN) (hts _ m1) m3 ⟨by have : dp + 1 ≤ d := hdp; show dp + 1 ≤ _; omega, by have : dp + 1 ≤ d := hdp; have : mL ≤ 22 := m4; show 8 + (mL + 11) + 41 * dp ≤ _; omega⟩
  refine go_call (Po := Po) (a := (Value.ref (s0 + b) :: av.map (cv s0)).toArray) (rest := st.map (cv s0)) hs0 hz hP hS (fun hsz => va_runIN (b := s0 + b) (As := av.map (cv s0)) ⟨hx, hb', hml, hown, hts⟩ (hC l s0 D DA) ⟨cw, k3, hts _ k2⟩ ⟨Rl.blind, fun U hU hW => ⟨rfl, by rw [hU]; exact hsz, by rw [hU]; exact hP, va_K.moved hW.alike hK, hN.warm hW⟩⟩ rfl (by simp) hL.1 (by simp only [List.map_append, List.map_reverse, List.map_cons]; rfl) (by show 2 * 0 + _ ≤ 8; rw [cv_sum]; omega) hd ⟨Nat.le_trans hmc hR3, Nat.le_trans hms hR4⟩) hn (fun r n' Ly' I' P' H1 locs1 hp hz1 hP1 hS1 => ?_)
  have := kk r n' Ly' I' P' hp H1 locs1 ls hz1 hP1 hS1 hL
  cases r with
  | none => exact this
  | some v => exact this
end CALLS

section NEW
variable {X : Cx} {own : String} {cc : ByteArray} {nL d mc ms kc ks n pc : Nat} {Ly : LL} {lv : List (Option AV)} {st : List AV} {I : II} {P : PP}
def upL (Ly : LL) (n : Nat) (x : Nat ⊕ (Nat × Nat)) : LL := fun k => if k = n then x else Ly k
def nwI (I : II) (n : Nat) : II := fun k => if k = n then (fun _ => 0) else I k
def nwP (P : PP) (n : Nat) : PP := fun k => if k = n then (fun _ => none) else P k
theorem wd_push {s0 : Nat} {DA : Nat → ClassId} {Ly : LL} {I : II} {P : PP} {n : Nat} {x : Nat ⊕ (Nat × Nat)} : wd s0 DA (upL Ly n x) (nwI I n) (nwP P n) (n + 1) = wd s0 DA Ly I P n ++ [(s0 + n, cE s0 DA (upL Ly n x) (nwI I n) (nwP P n) n)] := by
  unfold wd
  rw [List.range_succ, List.map_append]
  congr 1
  refine List.map_congr_left fun k hk => ?_
  have hk : k < n := List.mem_range.mp hk
  unfold cE fV upL nwI nwP
  simp only [Nat.ne_of_lt hk, if_false]
theorem dv_ok {s0 ci j n : Nat} {I : II} {P : PP} : (match tyF ci j with | .int => True | .boolean => True | .object _ => True | .array _ => True | _ => False) → defaultValue (tyF ci j) = fV s0 (nwI I n) (nwP P n) ci n j := by
  intro h
  unfold fV isR nwI nwP
  cases ht : tyF ci j <;> rw [ht] at h <;> first | exact h.elim | simp [rv, va_rf, defaultValue]
set_option maxRecDepth 100000 in
theorem ty_small : ([0, 1, 2, 3, 4, 5, 6, 7, 8] : List Nat).all (fun ci => (List.range (nF ci)).all (fun k => match tyF ci k with | .int => true | .boolean => true | .object _ => true | .array _ => true | _ => false)) = true := by decide +kernel
theorem ty_dv {s0 ci j n : Nat} {I : II} {P : PP} (hci : ci < 9) (hj : j < nF ci) : defaultValue (tyF ci j) = fV s0 (nwI I n) (nwP P n) ci n j := by
  refine dv_ok ?_
  have h1 := List.all_eq_true.mp (List.all_eq_true.mp ty_small ci (ci_mem hci)) j (List.mem_range.mpr hj)
  cases ht : tyF ci j <;> rw [ht] at h1 <;> first | exact trivial | exact absurd h1 (by decide)
def LN (own : String) (idx ci : Nat) : Prop := ci < 9 ∧ Cond.classLink own idx (RF ci) ∈ tg ∧ Cond.instantiable (RF ci) (nF ci) ∈ tg ∧ Cond.initialized (RF ci) ∈ tg
theorem s_new (F : Fx X own cc nL d mc ms) {idx ci : Nat} (hd : decode cc pc = .ok (.new idx, 3)) (hk : LN own idx ci) (hmc : kc + 1 ≤ mc) (hms : ks + nF ci ≤ ms) (kk : G X nL (kc + 1) (ks + nF ci) (n + 1) (upL Ly n (.inl ci)) (pc + 3) lv (.inr (some n) :: st) (nwI I n) (nwP P n)) : G X nL kc ks n Ly pc lv st I P := by
  obtain ⟨p, l, e, R, s, m, args, below, meth, c, s0, D, DA, Q⟩ := X
  obtain ⟨hx, hb, hml, hown, hts, hK, hN, hs0, hlk, hR1, hR2, hR3, hR4⟩ := F
  obtain ⟨hci, k1, k2, k3⟩ := hk
  intro H locs ls hz hP hS hL T hT Y
  have hsz := sz_of Y hT hz hP hS hs0
  refine (?_ : W p l e R s m args below meth c H locs kc ks Q (F0 m pc ls (st.map (cv s0)))) T hT Y
  have hKn := hK.1 ci _ (cl_at hci)
  refine W.newcK hx hb hown (hts _ k1) (hts _ k2) (hts _ k3) rfl hd (Nat.le_trans hmc hR3) (Nat.le_trans hms hR4) hKn.2.1 hsz fun H1 kC hkC e1 z1 o1 => ?_
  have hq : ∀ (k : Nat) (x : Nat × va_E), (wd s0 DA Ly I P n)[k]? = some x → H1[x.1]? = H[x.1]? := fun k x hx => o1 x.1 (by rw [← hsz]; exact (hP k x hx).lt)
  refine kk H1 locs ls (by omega) ?_ ⟨Nat.le_trans hS.1 (by omega), fun x h1 h2 => (o1 x (by have := hS.1; omega)).trans (hS.2.1 x h1 h2), hS.2.2⟩ hL
  rw [wd_push]
  refine (hP.kept hq).app (fun k x hx => ?_)
  have hz0 : k < 1 := (List.getElem?_eq_some_iff.mp hx).1
  rw [show k = 0 by omega] at hx
  cases hx
  rw [cE_o (show upL Ly n (.inl ci) n = .inl ci by simp [upL])]
  refine ⟨_, cl_at hci, (u_born (tyF ci) hts (ws_in hci) hKn hkC e1 (ty_ok hci)).to (fun j hj => ?_)⟩
  rw [ty_dv (s0 := s0) (n := n) (I := I) (P := P) hci hj]
  simp [vp_V, hj]
def LA (t : Nat) : ArrayType := if t = 0 then .int else if t = 1 then .char else .boolean
theorem ra_find {U : State} {cA : ClassId} {ty : FieldType} (h : va_RA U cA ty) (hno : ∀ C, ty ≠ .object C) : U.vm.findClass ("[" ++ ty.toString) = some cA := by
  cases ty <;> first | exact absurd rfl (hno _) | exact h
theorem s_newa (F : Fx X own cc nL d mc ms) {t len : Nat} {x : Int32} {at0 : ArrayType} {ty : FieldType} (hd : decode cc pc = .ok (.newarray at0, 2)) (hty : newarray.typeOf at0 = ty) (hdv : defaultValue ty = .int 0) (ht : t < 3) (htt : ∀ DA, (tysA DA)[t]? = some (DA t, ty)) (hw : Cond.arrayClass ty ∈ tg) (hno : ∀ C, ty ≠ .object C) (hx0 : ¬ x < 0) (hxl : x.toNatClampNeg = len) (hby : len * componentBytes ty ≤ 536870912) (hmc : kc + 1 ≤ mc) (hms : ks + len ≤ ms) (kk : G X nL (kc + 1) (ks + len) (n + 1) (upL Ly n (.inr (t, len))) (pc + 2) lv (.inr (some n) :: st) (nwI I n) (nwP P n)) : G X nL kc ks n Ly pc lv (.inl x :: st) I P := by
  obtain ⟨p, l, e, R, s, m, args, below, meth, c, s0, D, DA, Q⟩ := X
  obtain ⟨hx, hb, hml, hown, hts, hK, hN, hs0, hlk, hR1, hR2, hR3, hR4⟩ := F
  subst hty
  intro H locs ls hz hP hS hL T hT Y
  have hsz := sz_of Y hT hz hP hS hs0
  refine (?_ : W p l e R s m args below meth c H locs kc ks Q (F0 m pc ls ((.inl x :: st : List AV).map (cv s0)))) T hT Y
  refine va_newaK hx hb (hts _ hw) rfl hd rfl hx0 hxl hby (Nat.le_trans hmc hR3) (Nat.le_trans hms hR4) hsz fun H1 cA e1 z1 o1 hAr hNm => ?_
  have hRA := (hK.2 t _ (htt DA)).2
  have hcA : cA = DA t := Option.some.inj (hNm.symm.trans (ra_find hRA hno))
  subst hcA
  have hq : ∀ (k : Nat) (x : Nat × va_E), (wd s0 DA Ly I P n)[k]? = some x → H1[x.1]? = H[x.1]? := fun k x hx => o1 x.1 (by rw [← hsz]; exact (hP k x hx).lt)
  refine kk H1 locs ls (by omega) ?_ ⟨Nat.le_trans hS.1 (by omega), fun x h1 h2 => (o1 x (by have := hS.1; omega)).trans (hS.2.1 x h1 h2), hS.2.2⟩ hL
  rw [wd_push]
  refine (hP.kept hq).app (fun k x hx => ?_)
  have hz0 : k < 1 := (List.getElem?_eq_some_iff.mp hx).1
  rw [show k = 0 by omega] at hx
  cases hx
  rw [cE_i (show upL Ly n (.inr (t, len)) n = .inr (t, len) by simp [upL]) ht]
  show H1[s0 + n]? = some (vp_cell _ _)
  rw [vp_cell_i, e1, hdv]
  simp [nwI]
theorem s_anew (F : Fx X own cc nL d mc ms) {t len idx : Nat} {x : Int32} {C : String} (hd : decode cc pc = .ok (.anewarray idx, 3)) (ht : ¬ t < 3) (htt : ∀ DA, (tysA DA)[t]? = some (DA t, .object C)) (hw : Cond.classLink own idx C ∈ tg) (hov : ∀ U, Nst U → va_AO C U) (hx0 : ¬ x < 0) (hxl : x.toNatClampNeg = len) (hby : len * 4 ≤ 536870912) (hmc : kc + 1 ≤ mc) (hms : ks + len ≤ ms) (kk : G X nL (kc + 1) (ks + len) (n + 1) (upL Ly n (.inr (t, len))) (pc + 3) lv (.inr (some n) :: st) (nwI I n) (nwP P n)) : G X nL kc ks n Ly pc lv (.inl x :: st) I P := by
  obtain ⟨p, l, e, R, s, m, args, below, meth, c, s0, D, DA, Q⟩ := X
  obtain ⟨hx, hb, hml, hown, hts, hK, hN, hs0, hlk, hR1, hR2, hR3, hR4⟩ := F
  subst hxl
  intro H locs ls hz hP hS hL T hT Y
  have hsz := sz_of Y hT hz hP hS hs0
  refine (?_ : W p l e R s m args below meth c H locs kc ks Q (F0 m pc ls ((.inl x :: st : List AV).map (cv s0)))) T hT Y
  refine W.anew hx hb hown (hts _ hw) (va_AO.use (hov s hN)) rfl hd rfl hx0 hby (Nat.le_trans hmc hR3) (Nat.le_trans hms hR4) fun cA kA comp f1 f2 f3 f4 => ?_
  obtain ⟨kA', comp', g1, g2, g3, g4⟩ := (hK.2 t _ (htt DA)).2
  have hcA : cA = DA t := Option.some.inj (f1.symm.trans g4)
  subst hcA
  rw [hsz]
  generalize hH1 : H.push ({ cls := DA t, slots := Array.replicate x.toNatClampNeg .null, vm := .none } : Cell) = H1
  have z1 : H1.size = H.size + 1 := by rw [← hH1, Array.size_push]
  have e1 : H1[s0 + n]? = some (arrV (DA t) x.toNatClampNeg (fun _ => .null)) := by rw [← hsz, ← hH1, Array.getElem?_push_size, ← arrV_new]
  have o1 : ∀ q : Nat, q < H.size → H1[q]? = H[q]? := fun q hq => by rw [← hH1, Array.getElem?_push, if_neg (Nat.ne_of_lt hq)]
  have hq : ∀ (k : Nat) (x : Nat × va_E), (wd s0 DA Ly I P n)[k]? = some x → H1[x.1]? = H[x.1]? := fun k x hx => o1 x.1 ((hP k x hx).lt)
  refine kk H1 locs ls (by omega) ?_ ⟨Nat.le_trans hS.1 (by omega), fun x h1 h2 => (o1 x (by have := hS.1; omega)).trans (hS.2.1 x h1 h2), hS.2.2⟩ hL
  rw [wd_push]
  refine (hP.kept hq).app (fun k x hx => ?_)
  have hz0 : k < 1 := (List.getElem?_eq_some_iff.mp hx).1
  rw [show k = 0 by omega] at hx
  cases hx
  rw [cE_q (show upL Ly n (.inr (t, x.toNatClampNeg)) n = .inr (t, x.toNatClampNeg) by simp [upL]) ht]
  show H1[s0 + n]? = some (vp_cell _ _)
  rw [vp_cell_q, e1]
  simp [nwP, va_rf]
end NEW
