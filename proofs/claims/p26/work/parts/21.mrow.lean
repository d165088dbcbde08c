/-! the reference's steps upon its row -/
theorem add0 (n : Nat) : nI n + 0 = nI n := by
  rw [show (0 : Int32) = nI 0 from rfl, nI_add]
  rfl
theorem wi_e (w f : Nat) : (265 : Int32) + 9 * nI w + nI f = nI (wI w f) := by
  rw [show (265 : Int32) = nI 265 from rfl, show (9 : Int32) = nI 9 from rfl, pk_mul, nI_add, nI_add]
  rfl
theorem e9 (c : Nat) : (9 : Int32) + nI c = nI (9 + c) := nI_add 9 c
theorem leN {a b : Nat} (ha : a < 2 ^ 31) (hb : b < 2 ^ 31) : (nI a ≤ nI b) ↔ a ≤ b := nI_leI ha hb
theorem le0N {n : Nat} (h : n < 2 ^ 31) : (nI n ≤ (0 : Int32)) ↔ n ≤ 0 := nI_leI (b := 0) h (by omega)
theorem eqN {a b : Nat} (ha : a < 2 ^ 31) (hb : b < 2 ^ 31) : (nI a = nI b) ↔ a = b := nI_eq ha hb