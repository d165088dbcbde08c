/-! the class's calls as the law sees them -/
theorem ac_reset {A : AbS} (x y : Int32) : AC mX8_reset [.inl x, .inl y] A (aReset A x y).1 (aReset A x y).2 := fun n Ly I P hA => by
  obtain ⟨I1, P1, e, g1, g2, g3⟩ := k_reset hA.2.2.1 hA.2.2.2 x y
  exact ⟨I1, P1, fun l s0 D DA => c_X8_reset hA.sh e l s0 D DA, ⟨hA.1, hA.2.1, g1, g2⟩, g3⟩
theorem ac_put {A : AbS} (x y v : Int32) : AC mX8_put [.inl x, .inl y, .inl v] A (aPut A x y v).1 (aPut A x y v).2 := fun n Ly I P hA => by
  obtain ⟨I1, P1, e, g1, g2, g3⟩ := k_put hA.2.2.1 hA.2.2.2 x y v
  exact ⟨I1, P1, fun l s0 D DA => c_X8_put hA.sh e l s0 D DA, ⟨hA.1, hA.2.1, g1, g2⟩, g3⟩
theorem ac_strew {A : AbS} (x y z : Int32) : AC mX8_strew [.inl x, .inl y, .inl z] A (aStrew A x y z).1 (aStrew A x y z).2 := fun n Ly I P hA => by
  obtain ⟨I1, P1, e, g1, g2, g3⟩ := k_strew hA.2.2.1 hA.2.2.2 x y z
  exact ⟨I1, P1, fun l s0 D DA => c_X8_strew hA.sh e l s0 D DA, ⟨hA.1, hA.2.1, g1, g2⟩, g3⟩
theorem ac_addWalker {A : AbS} (x y z s p : Int32) : AC mX8_addWalker [.inl x, .inl y, .inl z, .inl s, .inl p] A (aAddWalker A x y z s p).1 (aAddWalker A x y z s p).2 := fun n Ly I P hA => by
  obtain ⟨I1, P1, e, g1, g2, g3⟩ := k_addWalker hA.2.2.1 hA.2.2.2 x y z s p
  exact ⟨I1, P1, fun l s0 D DA => c_X8_addWalker hA.sh e l s0 D DA, ⟨hA.1, hA.2.1, g1, g2⟩, g3⟩
theorem ac_setSort {A : AbS} (x v : Int32) : AC mX8_setSort [.inl x, .inl v] A (aSetSort A x v).1 (aSetSort A x v).2 := fun n Ly I P hA => by
  obtain ⟨I1, P1, e, g1, g2, g3⟩ := k_setSort hA.2.2.1 hA.2.2.2 x v
  exact ⟨I1, P1, fun l s0 D DA => c_X8_setSort hA.sh e l s0 D DA, ⟨hA.1, hA.2.1, g1, g2⟩, g3⟩
theorem ac_empty {A : AbS} (x : Int32) : AC mX8_empty [.inl x] A (aEmpty A x).1 (aEmpty A x).2 := fun n Ly I P hA => by
  obtain ⟨I1, P1, e, g1, g2, g3⟩ := k_empty hA.2.2.1 hA.2.2.2 x
  exact ⟨I1, P1, fun l s0 D DA => c_X8_empty hA.sh e l s0 D DA, ⟨hA.1, hA.2.1, g1, g2⟩, g3⟩
theorem ac_addTurn {A : AbS} (v : Int32) : AC mX8_addTurn [.inl v] A (aAddTurn A v).1 (aAddTurn A v).2 := fun n Ly I P hA => by
  obtain ⟨I1, P1, e, g1, g2, g3⟩ := k_addTurn hA.2.2.1 hA.2.2.2 v
  exact ⟨I1, P1, fun l s0 D DA => c_X8_addTurn hA.sh e l s0 D DA, ⟨hA.1, hA.2.1, g1, g2⟩, g3⟩
theorem ac_clearTurns {A : AbS} : AC mX8_clearTurns [] A (aClearTurns A).1 (aClearTurns A).2 := fun n Ly I P hA => by
  obtain ⟨I1, P1, e, g1, g2, g3⟩ := k_clearTurns hA.2.2.1 hA.2.2.2
  exact ⟨I1, P1, fun l s0 D DA => c_X8_clearTurns hA.sh e l s0 D DA, ⟨hA.1, hA.2.1, g1, g2⟩, g3⟩
theorem ac_walk {A : AbS} (x v : Int32) : AC mX8_walk [.inl x, .inl v] A (aWalk A x v).1 (aWalk A x v).2 := fun n Ly I P hA => by
  obtain ⟨I1, P1, e, g1, g2, g3⟩ := k_walk hA.2.2.1 hA.2.2.2 x v
  exact ⟨I1, P1, fun l s0 D DA => c_X8_walk hA.sh e l s0 D DA, ⟨hA.1, hA.2.1, g1, g2⟩, g3⟩
theorem ac_rounds {A : AbS} (v : Int32) : AC mX8_rounds [.inl v] A (aRounds A v).1 (aRounds A v).2 := fun n Ly I P hA => by
  obtain ⟨I1, P1, e, g1, g2, g3⟩ := k_rounds hA.2.2.1 hA.2.2.2 v
  exact ⟨I1, P1, fun l s0 D DA => c_X8_rounds hA.sh e l s0 D DA, ⟨hA.1, hA.2.1, g1, g2⟩, g3⟩
theorem ac_run {A : AbS} : AC mX8_run [] A (aRun A).1 (aRun A).2 := fun n Ly I P hA => by
  obtain ⟨I1, P1, e, g1, g2, g3⟩ := k_run hA.2.2.1 hA.2.2.2
  exact ⟨I1, P1, fun l s0 D DA => c_X8_run hA.sh e l s0 D DA, ⟨hA.1, hA.2.1, g1, g2⟩, g3⟩
theorem ac_type {A : AbS} (x : Int32) (hx : bC x = true) : AC mX8_type [.inl x] A (aType A x).1 (aType A x).2 := fun n Ly I P hA => by
  obtain ⟨I1, e, g1, g2, g3⟩ := k_type hA.2.2.1 hA.2.2.2 x hx
  exact ⟨I1, P, fun l s0 D DA => c_X8_type hA.sh e l s0 D DA, ⟨hA.1, hA.2.1, g1, g2⟩, g3⟩
theorem ac_clearText {A : AbS}  : AC mX8_clearText [] A (aClearText A).1 (aClearText A).2 := fun n Ly I P hA => by
  obtain ⟨I1, e, g1, g2, g3⟩ := k_clearText hA.2.2.1 hA.2.2.2 
  exact ⟨I1, P, fun l s0 D DA => c_X8_clearText hA.sh e l s0 D DA, ⟨hA.1, hA.2.1, g1, g2⟩, g3⟩
theorem ac_undo {A : AbS}  : AC mX8_undo [] A (aUndo A).1 (aUndo A).2 := fun n Ly I P hA => by
  obtain ⟨I1, e, g1, g2, g3⟩ := k_undo hA.2.2.1 hA.2.2.2 
  exact ⟨I1, P, fun l s0 D DA => c_X8_undo hA.sh e l s0 D DA, ⟨hA.1, hA.2.1, g1, g2⟩, g3⟩
theorem ac_count {A : AbS} (x : Int32) : AC mX8_count [.inl x] A (qCount A x) A := fun n Ly I P hA => by
  obtain ⟨I1, e, g1, g2, g3⟩ := k_count hA.2.2.1 hA.2.2.2 x
  exact ⟨I1, P, fun l s0 D DA => c_X8_count hA.sh e l s0 D DA, ⟨hA.1, hA.2.1, g1, g2⟩, g3⟩
theorem ac_heapOf {A : AbS} (x y : Int32) : AC mX8_heapOf [.inl x, .inl y] A (qHeapOf A x y) A := fun n Ly I P hA => by
  obtain ⟨I1, e, g1, g2, g3⟩ := k_heapOf hA.2.2.1 hA.2.2.2 x y
  exact ⟨I1, P, fun l s0 D DA => c_X8_heapOf hA.sh e l s0 D DA, ⟨hA.1, hA.2.1, g1, g2⟩, g3⟩
theorem ac_heap {A : AbS} (x y : Int32) : AC mX8_heap [.inl x, .inl y] A (qHeap A x y) A := fun n Ly I P hA => by
  obtain ⟨I1, e, g1, g2, g3⟩ := k_heap hA.2.2.1 hA.2.2.2 x y
  exact ⟨I1, P, fun l s0 D DA => c_X8_heap hA.sh e l s0 D DA, ⟨hA.1, hA.2.1, g1, g2⟩, g3⟩
theorem ac_roundsUntil {A : AbS} (x : Int32) : AC mX8_roundsUntil [.inl x] A (qUntil A x) A := fun n Ly I P hA => by
  obtain ⟨I1, e, g1, g2, g3⟩ := k_roundsUntil hA.2.2.1 hA.2.2.2 x
  exact ⟨I1, P, fun l s0 D DA => c_X8_roundsUntil hA.sh e l s0 D DA, ⟨hA.1, hA.2.1, g1, g2⟩, g3⟩
theorem ac_chips {A : AbS} (x y : Int32) : AC mX8_chips [.inl x, .inl y] A (qChips A x y) A := fun n Ly I P hA => ⟨I, P, fun l s0 D DA => c_X8_chips hA.sh (e_chips hA.2.2.1 hA.2.2.2 x y) l s0 D DA, hA, fun _ _ => rfl⟩
theorem ac_walker {A : AbS} (x y : Int32) : AC mX8_walker [.inl x, .inl y] A (qWalker A x y) A := fun n Ly I P hA => ⟨I, P, fun l s0 D DA => c_X8_walker hA.sh (e_walker hA.2.2.1 hA.2.2.2 x y) l s0 D DA, hA, fun _ _ => rfl⟩
theorem ac_turn {A : AbS} (x : Int32) : AC mX8_turn [.inl x] A (qTurn A x) A := fun n Ly I P hA => ⟨I, P, fun l s0 D DA => c_X8_turn hA.sh (e_turn hA.2.2.1 hA.2.2.2 x) l s0 D DA, hA, fun _ _ => rfl⟩
theorem ac_keep {A : AbS} : AC mX8_keep [.inl 2] A (-1) A := fun n Ly I P hA => ⟨I, P, fun l s0 D DA => c_X8_keep hA.sh k_keep2 l s0 D DA, hA, fun _ _ => rfl⟩
theorem ac_restore {A : AbS} : AC mX8_restore [.inl 2] A (-1) A := fun n Ly I P hA => ⟨I, P, fun l s0 D DA => c_X8_restore hA.sh k_restore2 l s0 D DA, hA, fun _ _ => rfl⟩
theorem kcL_7 : Cond.constant RL 7 8950007 ∈ tg := by decide +kernel
theorem kcL_8 : Cond.constant RL 8 2147483647 ∈ tg := by decide +kernel
