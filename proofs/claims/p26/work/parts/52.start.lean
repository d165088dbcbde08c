def R_law : String := "ChipPilersLaw"
def lw_P (b : Addr) (xs : List Int32) (args : Array Value) (s : State) : Prop := args = #[.ref b] ∧ s.IntsAt b xs ∧ xs.length ≤ 260 ∧ (Jvm.Cond.and given_1 narrow_1).before args s = true
def lw_Q (_ : Array Value) (s : State) (o : Outcome) (t : State) : Prop := o = .returned (some (.int 1)) ∧ Framed s o t [] 600000 7302250
def lw_Z (below : List Frame) (a : Array Value) (s : State) : State → Prop := fun t => ∃ o, t.status = .running ∧ Ended t below o ∧ lw_Q a s o t
/-- the law's own end, with 1 on the stack, nothing written that was there before, its room as the claim has it -/
theorem lw_ret {p : Program} {l : Launch} {e : Env} {s : State} {m : MethodId} {below : List Frame} {meth : Method} {c : Code} {b : Nat} (hx : p.tables.exec = Jvm.exec) (hb : c.code = code) (hr : meth.sig.returnType = ret) (hlocks : meth.locks = false) {pc : Nat} {H : Heap} {ls : Array Slot} (hdg : decode code pc = .ok (.ireturn, 1)) : W p l e room_1 s m #[Value.ref b] below meth c H [] 600000 7302250 (lw_Z below #[Value.ref b] s) (F0 m pc ls [.int 1]) := by
  intro T hT X
  obtain ⟨fs, hret, hrun, hended, hW, hframe⟩ := X.leave (v := some (.int 1)) (hlocks := hlocks) (fun h => by rw [hr] at h; cases h)
  have hmeth' : T.vm.method? m = some meth := X.method'
  refine ⟨T.setFrames fs, ?_, .returned (some (.int 1)), hrun, hended, rfl, ⟨_, rfl⟩, hW, hframe⟩
  jvm_step X.here [X.here.top, hx, hb, hdg, hmeth', hr, ret, narrow_b1]
  (try refine ⟨rfl, ?_⟩); (try refine ⟨rfl, ?_⟩)
  first | (intro acts; rw [hret _ acts rfl rfl rfl]) | rw [hret _ _ rfl rfl rfl]
  exact Steps.refl _
/-- what holds at the law's entry: the machine, the code, the tables' words (any of lw_tbl by 'hts w (by decide +kernel)'), the script of L ints xs at the cell b, what the Statement gives of the start (any of its parts by flat_of_before) -/
def lw_At (p : Program) (s : State) (m : MethodId) (meth : Method) (c : Code) (b L : Nat) (xs : Nat → Int32) : Prop :=
  p.tables.exec = Jvm.exec ∧ c.code = code ∧ meth.sig.returnType = ret ∧ c.maxLocals = 16 ∧ s.vm.findClass R_law = some m.cls ∧ (∀ w ∈ lw_tbl, w.before #[Value.ref b] s = true) ∧ va_X b L xs s s.heap ∧ b < s.heap.size ∧ meth.locks = false ∧ (Jvm.Cond.and given_1 narrow_1).before #[Value.ref b] s = true
theorem inst_in : ∀ ci, ci < 9 → Cond.instantiable (RF ci) (nF ci) ∈ tg
  | 0, _ => lnX7_18.2.2.1
  | 1, _ => lnX8_16.2.2.1
  | 2, _ => lnX8_23.2.2.1
  | 3, _ => lnX8_30.2.2.1
  | 4, _ => lnX1_9.2.2.1
  | 5, _ => lnX4_31.2.2.1
  | 6, _ => lnX4_22.2.2.1
  | 7, _ => lnX8_7.2.2.1
  | 8, _ => lnL_10.2.2.1
  | k + 9, h => absurd h (by omega)
theorem arr_p {s : State} {A : Array Value} {ty : FieldType} (hty : ∀ C, ty ≠ .object C) (h : (Cond.arrayClass ty).before A s = true) : ∃ cA, ArrOfT s cA ty ∧ va_RA s cA ty := by
  obtain ⟨c, k, comp, h1, h2, h3⟩ := Cond.arrayClass_spec h
  refine ⟨c, fun n z => ⟨(fun k h => by cases h), k, h2, comp, h3⟩, ?_⟩
  cases ty <;> first | exact h1 | exact absurd rfl (hty _)
theorem arr_o {s : State} {A : Array Value} {C : String} (h : (Cond.arrayOver (.object C)).before A s = true) : ∃ cA, ArrOfT s cA (.object C) ∧ va_RA s cA (.object C) := by
  obtain ⟨comp, c, k, h1, h2, h3, h4, h5⟩ := Cond.arrayOver_spec h
  exact ⟨c, fun n z => ⟨(fun k h => by cases h), k, h3, comp, h4⟩, k, comp, h3, h4, h1, h5⟩
set_option maxHeartbeats 4000000 in
theorem known {s : State} {b : Nat} (hts : ∀ w ∈ lw_tbl, w.before #[Value.ref b] s = true) : ∃ (D : va_G) (DA : Nat → ClassId), va_K D vwCl (tysA DA) s ∧ Nst s := by
  have htg : ∀ w ∈ tg, w.before #[Value.ref b] s = true := fun w hw => hts w (List.mem_filter.mp hw).1
  have kn : ∀ ci, ∃ (cC : ClassId) (iS : Nat → Nat), ci < 9 → u_Kn s (RF ci) (TF ci) (nF ci) cC iS := by
    intro ci
    by_cases h : ci < 9
    · obtain ⟨cC, iS, q⟩ := u_known htg (ws_in h) (htg _ (inst_in ci h))
      exact ⟨cC, iS, fun _ => q⟩
    · exact ⟨0, fun _ => 0, fun z => absurd z h⟩
  obtain ⟨a0, q0⟩ := arr_p (ty := .int) (fun C h => by cases h) (htg _ ac_int)
  obtain ⟨a1, q1⟩ := arr_p (ty := .char) (fun C h => by cases h) (htg _ ac_char)
  have o6 : (Cond.arrayOver (.object RX6)).before #[Value.ref b] s = true := hts _ (by decide +kernel)
  have o4 : (Cond.arrayOver (.object RX4)).before #[Value.ref b] s = true := hts _ (by decide +kernel)
  have o3 : (Cond.arrayOver (.object RX3)).before #[Value.ref b] s = true := hts _ (by decide +kernel)
  obtain ⟨a3, q3⟩ := arr_o o6
  obtain ⟨a4, q4⟩ := arr_o o4
  obtain ⟨a5, q5⟩ := arr_o o3
  refine ⟨(fun ci => (kn ci).choose, fun ci => (kn ci).choose_spec.choose), fun k => if k = 0 then a0 else if k = 1 then a1 else if k = 2 then a0 else if k = 3 then a3 else if k = 4 then a4 else a5, ⟨fun ci q hq => ?_, fun k q hq => ?_⟩, ⟨?_, ?_, ?_, ?_, ?_, ?_, ?_⟩, va_AO.of o6, va_AO.of o4, va_AO.of o3⟩
  · have hlt : ci < 9 := (List.getElem?_eq_some_iff.mp hq).1
    rw [cl_at hlt] at hq
    obtain rfl := Option.some.inj hq
    exact (kn ci).choose_spec.choose_spec hlt
  · have hlt : k < 6 := (List.getElem?_eq_some_iff.mp hq).1
    match k, hlt with
    | 0, _ => obtain rfl := Option.some.inj hq; exact q0
    | 1, _ => obtain rfl := Option.some.inj hq; exact q1
    | 2, _ => obtain rfl := Option.some.inj hq; exact q0
    | 3, _ => obtain rfl := Option.some.inj hq; exact q3
    | 4, _ => obtain rfl := Option.some.inj hq; exact q4
    | 5, _ => obtain rfl := Option.some.inj hq; exact q5
    | k + 6, h => exact absurd h (by omega)
  all_goals exact va_Nw.of (A := #[Value.ref b]) rfl (hts _ (by decide +kernel))
set_option maxHeartbeats 4000000 in
theorem whole_start {p : Program} {e : Env} {s : State} {m : MethodId} {below : List Frame} {meth : Method} {c : Code} (l : Launch) (hflags : l.flags = flags0) {b L : Nat} {xs : Nat → Int32} (hL : L ≤ 260) (C0 : lw_At p s m meth c b L xs) : W p l e room_1 s m #[Value.ref b] below meth c s.heap [] 0 0 (lw_Z below #[Value.ref b] s) (entryFrame m ([Value.ref b] : List Value).toArray 16) := by
  obtain ⟨hx, hc, hret, hml, hown, hts, hX, hbl, hlk, hgv⟩ := C0
  have htg : ∀ w ∈ tg, w.before #[Value.ref b] s = true := fun w hw => hts w (List.mem_filter.mp hw).1
  obtain ⟨D, DA, hK, hN⟩ := known hts
  have F : Fx (p, l, e, room_1, s, m, #[Value.ref b], below, meth, c, s.heap.size, D, DA, lw_Z below #[Value.ref b] s) RL cL_law 16 10 600000 7302250 := ⟨hx, hc, hml, hown, htg, hK, hN, Nat.le_refl _, hlk, by decide, by decide, by decide, by decide⟩
  have S : SY (p, l, e, room_1, s, m, #[Value.ref b], below, meth, c, s.heap.size, D, DA, lw_Z below #[Value.ref b] s) b L xs := ⟨⟨hX, hbl, hL⟩, hbl⟩
  have hend : ∀ (c0 pc : Nat) {lv : List (Option AV)} {A : AbS}, decode cL_law pc = .ok (.ireturn, 1) → GE b (p, l, e, room_1, s, m, #[Value.ref b], below, meth, c, s.heap.size, D, DA, lw_Z below #[Value.ref b] s) c0 pc lv [.inl 1] A := by
    intro c0 pc lv A hdg kc ks n0 q h1 h2 Ly I P h3 hA hq H locs ls hz hP hS hLr h0
    exact va_forget hS.2.2 (W.widen (by omega) (by omega) (lw_ret hx hc hret hlk hdg))
  have body := bL_law F S hend (law_ok (clF L xs))
  have main : GL b (p, l, e, room_1, s, m, #[Value.ref b], below, meth, c, s.heap.size, D, DA, lw_Z below #[Value.ref b] s) 16 0 0 0 (fun _ => .inl 0) 0 [none, none, none, none, none, none, none, none, none, none, none, none, none, none, none, none] [] (fun _ _ => 0) (fun _ _ => none) := by
    refine tL_new F dL_law_0 lnL_10 (by decide) (by decide) ?_
    refine tL_dup F dL_law_3 ?_
    refine tL_callI (av := []) F dL_law_4 (fun l s0 D DA => c_X8_init upL_a l s0 D DA) rfl lkL_96 okX8_init rfl (Nat.le_of_ble_eq_true rfl) (by decide) (by decide) (by decide) (fun _ _ _ _ _ h => h.2.1) (fun r1 n1 Ly1 I1 P1 h1 => ?_)
    obtain rfl : r1 = none := h1.1
    obtain rfl : n1 = 134 := h1.2.1
    refine tL_astore_n F dL_law_7 (by decide) (by decide) ?_
    exact body 134 4451 134 (fun _ _ => 0) (by decide) (by decide) Ly1 I1 P1 (Nat.le_refl _) (inv0 h1) (fun i hi => absurd hi (Nat.not_lt_zero i))
  have hl := lv_entry [Value.ref b] (n := 16) (Nat.le_of_ble_eq_true rfl)
  refine W.eq (lg_entry_eq m [Value.ref b] 16) (main s.heap [] _ rfl (fun k q hq => by cases hq) va_S.rf ⟨hl.1, hl.2.1, fun i v hi => ?_⟩ rfl)
  match i, hi with
  | 0, hi => cases hi
  | 1, hi => cases hi
  | 2, hi => cases hi
  | 3, hi => cases hi
  | 4, hi => cases hi
  | 5, hi => cases hi
  | 6, hi => cases hi
  | 7, hi => cases hi
  | 8, hi => cases hi
  | 9, hi => cases hi
  | 10, hi => cases hi
  | 11, hi => cases hi
  | 12, hi => cases hi
  | 13, hi => cases hi
  | 14, hi => cases hi
  | 15, hi => cases hi
  | i + 16, hi => cases hi
