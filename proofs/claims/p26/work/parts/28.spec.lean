/-! what the calls answer, and what they make of the account: in the account's words alone -/
def ce (x y : Int32) : Nat := 16 * x.toNatClampNeg + y.toNatClampNeg
abbrev okW (W : Nat) (x : Int32) : Prop := 0 ≤ x.toInt ∧ x.toInt < W
abbrev rgX (lo hi : Nat) (x : Int32) : Prop := nI lo ≤ x ∧ x ≤ nI hi
def Rs (f : Option (Int32 × II × PP)) (I : II) (x : Int32 × AbS) : Prop := ∃ I1 P1, f = some (x.1, I1, P1) ∧ GI x.2 ∧ CI I1 P1 x.2 ∧ FrC I I1
def Rt (f : Option (Int32 × II)) (I : II) (P : PP) (x : Int32 × AbS) : Prop := ∃ I1, f = some (x.1, I1) ∧ GI x.2 ∧ CI I1 P x.2 ∧ FrC I I1
noncomputable def qChips (A : AbS) (x y : Int32) : Int32 := if okC (A.1 0) (A.1 1) x y then nI (gR A.1 (ce x y)) else -1
noncomputable def qHeapOf (A : AbS) (x y : Int32) : Int32 := if okC (A.1 0) (A.1 1) x y then (if gR A.1 (ce x y) = 0 then -5 else nI (Plc (gR A.1) (labF (gR A.1) (ce x y)))) else -1
noncomputable def qWalker (A : AbS) (x y : Int32) : Int32 := if okW (A.1 2) x then (if rgX 0 8 y then nI (A.1 (wI x.toNatClampNeg y.toNatClampNeg)) else -2) else -1
noncomputable def qTurn (A : AbS) (x : Int32) : Int32 := if x < 0 then -2 else if x.toInt < A.1 3 then nI (A.1 (337 + x.toNatClampNeg)) else -5
noncomputable def qCount (A : AbS) (x : Int32) : Int32 := if x = 0 then nI (A.1 0) else if x = 1 then nI (A.1 1) else if x = 2 then nI (A.1 2) else if x = 3 then nI (sm (gR A.1) 256) else if x = 4 then nI (sm (fun w => A.1 (wI w 3)) (A.1 2)) else if x = 5 then nI (mF (gR A.1)) else if x = 6 then nI (A.1 6) else if x = 7 then nI (A.1 7) else if x = 8 then nI (sm (fun w => A.1 (wI w 6)) (A.1 2)) else if x = 9 then nI (A.1 4) else if x = 10 then nI (A.1 3) else if x = 11 then nI A.2.1.1 else if x = 12 then nI A.2.2.2.1 else -2
noncomputable def hpAt (g : Nat → Nat) (p : Nat) : Nat := @dite Nat (∃ h, h < mF g ∧ Plc g h = p) (Classical.propDecidable _) (fun h => h.choose) (fun _ => 0)
noncomputable def hpV (g : Nat → Nat) (h : Nat) (y : Int32) : Int32 := if y = 0 then nI (szF g h) else if y = 1 then nI (cnF g h) else if y = 2 then nI (rtAt g h / 16) else if y = 3 then nI (rtAt g h % 16) else nI (moF g h)
noncomputable def qHeap (A : AbS) (x y : Int32) : Int32 := if x < 0 then -2 else if rgX 0 4 y then (if x.toInt < mF (gR A.1) then hpV (gR A.1) (hpAt (gR A.1) x.toNatClampNeg) y else -5) else -2
noncomputable def unR (ρ : Nat → Nat) (t : Nat) : Nat → Nat → Int32
  | 0, _ => -5
  | n + 1, k => if mF (gR (rds ρ k)) ≤ t then nI k else unR ρ t n (k + 1)
noncomputable def qUntil (A : AbS) (x : Int32) : Int32 := if rgX 0 256 x then (if mF (gR A.1) ≤ x.toNatClampNeg then 0 else if A.1 2 = 0 then -5 else unR A.1 x.toNatClampNeg 200 1) else -2
def ctR (ρ : Nat → Nat) : Nat → Nat := stR (stR (stR (stR ρ 337 0) 3 1) 5 1) 4 0
noncomputable def aReset (A : AbS) (x y : Int32) : Int32 × AbS := if rgX 2 16 x ∧ rgX 2 16 y then (x * y, neA A (rsK A.1 x.toNatClampNeg y.toNatClampNeg 256)) else (-2, A)
noncomputable def aPut (A : AbS) (x y v : Int32) : Int32 × AbS := if okC (A.1 0) (A.1 1) x y then (if rgX 0 99 v then (nI (gR A.1 (ce x y)), neA A (stR A.1 (9 + ce x y) v.toNatClampNeg)) else (-2, A)) else (-1, A)
noncomputable def aStrew (A : AbS) (x y z : Int32) : Int32 × AbS := if rgX 0 9 x ∧ rgX 0 9 y ∧ rgX 1 20 z then (if caR A.1 x.toNatClampNeg y.toNatClampNeg z.toNatClampNeg (A.1 0) = 0 then (-5, A) else (nI (caR A.1 x.toNatClampNeg y.toNatClampNeg z.toNatClampNeg (A.1 0)), neA A (alR A.1 x.toNatClampNeg y.toNatClampNeg z.toNatClampNeg (A.1 0)).1)) else (-2, A)
noncomputable def aAddWalker (A : AbS) (x y z s p : Int32) : Int32 × AbS := if okC (A.1 0) (A.1 1) x y then (if rgX 0 3 z ∧ rgX 0 2 s ∧ rgX 1 9 p then (if A.1 2 < 8 then (nI (A.1 2), neA A (awR A.1 x.toNatClampNeg y.toNatClampNeg z.toNatClampNeg s.toNatClampNeg p.toNatClampNeg)) else (-3, A)) else (-2, A)) else (-1, A)
noncomputable def aSetSort (A : AbS) (x v : Int32) : Int32 × AbS := if okW (A.1 2) x then (if rgX 0 2 v then (nI (A.1 (wI x.toNatClampNeg 5)), neA A (stR A.1 (wI x.toNatClampNeg 5) v.toNatClampNeg)) else (-2, A)) else (-1, A)
noncomputable def aEmpty (A : AbS) (x : Int32) : Int32 × AbS := if okW (A.1 2) x then (if 99 < gR A.1 (cw A.1 x.toNatClampNeg) + A.1 (wI x.toNatClampNeg 3) then (-4, A) else if A.1 (wI x.toNatClampNeg 3) = 0 then (-5, A) else (nI (gR A.1 (cw A.1 x.toNatClampNeg) + A.1 (wI x.toNatClampNeg 3)), neA A (drR A.1 x.toNatClampNeg (A.1 (wI x.toNatClampNeg 3))))) else (-1, A)
def atS (ρ : Nat → Nat) : Nat := if ρ 5 = 0 then ρ 3 else 0
noncomputable def aAddTurn (A : AbS) (v : Int32) : Int32 × AbS := if rgX 0 9 v then (if A.1 3 < 30 then (nI (atS A.1 + 1), neA A (atR A.1 (atS A.1) v.toNatClampNeg)) else (-3, A)) else (-2, A)
noncomputable def aClearTurns (A : AbS) : Int32 × AbS := (nI (A.1 3), neA A (ctR A.1))
noncomputable def aWalk (A : AbS) (x v : Int32) : Int32 × AbS := if okW (A.1 2) x then (if rgX 1 100 v then (nI (stps A.1 x.toNatClampNeg v.toNatClampNeg (wI x.toNatClampNeg 3)), neA A (stps A.1 x.toNatClampNeg v.toNatClampNeg)) else (-2, A)) else (-1, A)
noncomputable def aRounds (A : AbS) (v : Int32) : Int32 × AbS := if rgX 1 50 v then (if A.1 2 = 0 then (-5, A) else (nI (mF (gR (rds A.1 v.toNatClampNeg))), neA A (rds A.1 v.toNatClampNeg))) else (-2, A)
def txA (A : AbS) (n : Nat) (tx : Nat → Int32) : AbS := (A.1, A.2.1, A.2.2.1, (n, tx))
def aType (A : AbS) (x : Int32) : Int32 × AbS := if A.2.2.2.1 < 40 then (nI (A.2.2.2.1 + 1), txA A (A.2.2.2.1 + 1) (fun j => if j = A.2.2.2.1 then x else A.2.2.2.2 j)) else (-3, A)
def aClearText (A : AbS) : Int32 × AbS := (nI A.2.2.2.1, txA A 0 A.2.2.2.2)
def aUndo (A : AbS) : Int32 × AbS := if A.2.1.1 = 0 then (-5, A) else (nI (A.2.1.1 - 1), (A.2.1.2 (A.2.1.1 - 1), (A.2.1.1 - 1, A.2.1.2), A.2.2))
/-! the texts -/
abbrev LTR (W : Nat) (x : Int32) : Prop := x = 114 ∨ x = 35 ∨ (0 < W ∧ (x = 110 ∨ x = 101 ∨ x = 115 ∨ x = 119 ∨ x = 103 ∨ x = 100))
abbrev isDg (x : Int32) : Prop := ¬ x < 48 ∧ ¬ 57 < x
def dgV (x : Int32) : Nat := (x - 48).toNatClampNeg
/-- the reading of one character: how many orders, whether a walker is due, the letters, the numbers -/
abbrev RdS := Nat × Bool × (Nat → Int32) × (Nat → Nat)
def rd1 (W : Nat) (s : RdS) (x : Int32) : Option RdS :=
  if s.2.1 = true then (if isDg x ∧ dgV x < W then some (s.1, false, s.2.2.1, fun j => if j + 1 = s.1 then dgV x else s.2.2.2 j) else none)
  else if isDg x then (if 0 < s.1 ∧ s.2.2.1 (s.1 - 1) ≠ 35 ∧ 1 ≤ s.2.2.2 (s.1 - 1) * 10 + dgV x ∧ s.2.2.2 (s.1 - 1) * 10 + dgV x ≤ 50 then some (s.1, false, s.2.2.1, fun j => if j + 1 = s.1 then s.2.2.2 (s.1 - 1) * 10 + dgV x else s.2.2.2 j) else none)
  else if LTR W x then some (s.1 + 1, decide (x = 35), (fun j => if j = s.1 then x else s.2.2.1 j), fun j => if j = s.1 then 0 else s.2.2.2 j) else none
/-- n characters from p on: the fault, or what was read -/
def rdN (W : Nat) (tx : Nat → Int32) : Nat → Nat → RdS → Nat ⊕ RdS
  | 0, _, s => .inr s
  | n + 1, p, s => match rd1 W s (tx p) with
    | none => .inl p
    | some t => rdN W tx n (p + 1) t
def rd0 : RdS := (0, false, (fun _ => 0), fun _ => 0)
def rdT (W len : Nat) (tx : Nat → Int32) : Nat ⊕ RdS := match rdN W tx len 0 rd0 with
  | .inl p => .inl p
  | .inr s => if len = 0 ∨ s.2.1 = true then .inl len else .inr s
/-- so many steps that way, as far as there is no wall -/
noncomputable def gosR (w d : Nat) : Nat → (Nat → Nat) → (Nat → Nat)
  | 0, ρ => ρ
  | n + 1, ρ => if Fre ρ (cw ρ w) d then gosR w d n (goR (stR ρ (wI w 2) d) w) else ρ
def dirL (x : Int32) : Nat := if x = 110 then 0 else if x = 101 then 1 else if x = 115 then 2 else 3
noncomputable def obR (ρ : Nat → Nat) (w : Nat) (x : Int32) (m : Nat) : Nat → Nat := if x = 103 then pkR ρ w (min m (min (gR ρ (cw ρ w)) (ρ (wI w 4) - ρ (wI w 3)))) else if x = 100 then drR ρ w (min m (min (ρ (wI w 3)) (99 - gR ρ (cw ρ w)))) else gosR w (dirL x) m ρ
/-- the orders from j on, n of them, with the present walker w -/
noncomputable def exN (lt : Nat → Int32) (nu : Nat → Nat) : Nat → Nat → Nat → (Nat → Nat) → (Nat → Nat)
  | 0, _, _, ρ => ρ
  | n + 1, j, w, ρ => if lt j = 35 then exN lt nu n (j + 1) (nu j) ρ else if lt j = 114 then exN lt nu n (j + 1) w (rds ρ (max (nu j) 1)) else exN lt nu n (j + 1) w (if w < ρ 2 then obR ρ w (lt j) (max (nu j) 1) else ρ)
noncomputable def aRun (A : AbS) : Int32 × AbS := match rdT (A.1 2) A.2.2.2.1 A.2.2.2.2 with
  | .inl p => (-100 - nI p, A)
  | .inr s => (nI (sm (fun w => exN s.2.2.1 s.2.2.2 s.1 0 0 A.1 (wI w 6)) (A.1 2)) - nI (sm (fun w => A.1 (wI w 6)) (A.1 2)), neA A (exN s.2.2.1 s.2.2.2 s.1 0 0 A.1))
