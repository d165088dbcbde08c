/-! the law itself behind its first call -/
noncomputable def hL_law_J891 (bk : Int32 → Int32 → AbS → Option Int32) (ct : AbS → Option Int32) (cl : (Int32 → Int32)) (A : AbS) (x2 : Int32) (x3 : Int32) (x4 : Int32) (x5 : Int32) (x11 : Int32) : Option Int32 := (if x11 = 0 then some 0 else (hL_heaps A).bind fun v26 => (if v26 = 0 then some 0 else (hL_walkers A).bind fun v28 => (if ¬ v28 = 0 then bk x4 (x5 + 1) A else some 0)))
noncomputable def hL_law_J889 (bk : Int32 → Int32 → AbS → Option Int32) (ct : AbS → Option Int32) (cl : (Int32 → Int32)) (A : AbS) (x2 : Int32) (x3 : Int32) (x4 : Int32) (x5 : Int32) (s0 : Int32) : Option Int32 := hL_law_J891 bk ct cl A x2 x3 x4 x5 s0
noncomputable def hL_law_J851 (bk : Int32 → Int32 → AbS → Option Int32) (ct : AbS → Option Int32) (cl : (Int32 → Int32)) (A : AbS) (x2 : Int32) (x3 : Int32) (x4 : Int32) (x5 : Int32) (x7 : Int32) (x8 : Int32) (x9 : Int32) (x11 : Int32) : Option Int32 := (if ¬ x8 = 12 then hL_law_J891 bk ct cl A x2 x3 x4 x5 x11 else (if x9 ≤ 0 then hL_law_J891 bk ct cl A x2 x3 x4 x5 x11 else (hL_low A x7 12).bind fun v31 => (some (aRounds A (1 + v31))).bind fun v32 => (if ¬ v32.1 = (qCount v32.2 5) then hL_law_J889 bk ct cl v32.2 x2 x3 x4 x5 0 else hL_law_J889 bk ct cl v32.2 x2 x3 x4 x5 1)))
noncomputable def hL_law_J846 (bk : Int32 → Int32 → AbS → Option Int32) (ct : AbS → Option Int32) (cl : (Int32 → Int32)) (A : AbS) (x2 : Int32) (x3 : Int32) (x4 : Int32) (x5 : Int32) (s0 : Int32) : Option Int32 := hL_law_J891 bk ct cl A x2 x3 x4 x5 s0
noncomputable def hL_law_J761 (bk : Int32 → Int32 → AbS → Option Int32) (ct : AbS → Option Int32) (cl : (Int32 → Int32)) (A : AbS) (x2 : Int32) (x3 : Int32) (x4 : Int32) (x5 : Int32) (x6 : Int32) (x7 : Int32) (x8 : Int32) (x9 : Int32) (x10 : Int32) (x11 : Int32) : Option Int32 := (if ¬ x8 = 9 then (if ¬ x8 = 10 then (if ¬ x8 = 11 then hL_law_J851 bk ct cl A x2 x3 x4 x5 x7 x8 x9 x11 else (if x9 ≤ 0 then hL_law_J851 bk ct cl A x2 x3 x4 x5 x7 x8 x9 x11 else (hL_low A x7 30).bind fun v35 => (some (aWalk A x10 (1 + v35))).bind fun v36 => (if ¬ v36.1 = (qWalker v36.2 x10 3) then hL_law_J846 bk ct cl v36.2 x2 x3 x4 x5 0 else hL_law_J846 bk ct cl v36.2 x2 x3 x4 x5 1))) else (hL_low A x7 8).bind fun v38 => (hL_until A v38).bind fun v39 => hL_law_J891 bk ct cl v39.2 x2 x3 x4 x5 v39.1) else (hL_plans A x6 x7).bind fun v40 => hL_law_J891 bk ct cl v40.2 x2 x3 x4 x5 v40.1)
noncomputable def hL_law_L725 : Nat → (Int32 → AbS → Option Int32) → Int32 → Int32 → Int32 → Int32 → Int32 → (Int32 → Int32) → Int32 → Int32 → AbS → Option Int32
  | 0, _, _, _, _, _, _, _, _, _, _ => none
  | k + 1, ct, x2, x3, x4, x5, x10, cl, x11, x12, A => (if 3 ≤ x12 then ct x11 A else (if x11 = 0 then hL_law_L725 k ct x2 x3 x4 x5 x10 cl 0 (x12 + 1) A else (hL_steps A x10).bind fun v44 => (if v44.1 = 0 then hL_law_L725 k ct x2 x3 x4 x5 x10 cl 0 (x12 + 1) v44.2 else hL_law_L725 k ct x2 x3 x4 x5 x10 cl 1 (x12 + 1) v44.2)))
noncomputable def hL_law_J710 (bk : Int32 → Int32 → AbS → Option Int32) (ct : AbS → Option Int32) (cl : (Int32 → Int32)) (A : AbS) (x2 : Int32) (x3 : Int32) (x4 : Int32) (x5 : Int32) (x6 : Int32) (x7 : Int32) (x8 : Int32) (x9 : Int32) (x10 : Int32) (x11 : Int32) : Option Int32 := (if 9 ≤ x8 then hL_law_J761 bk ct cl A x2 x3 x4 x5 x6 x7 x8 x9 x10 x11 else (if x9 ≤ 0 then hL_law_J761 bk ct cl A x2 x3 x4 x5 x6 x7 x8 x9 x10 x11 else hL_law_L725 2000 (fun z46 A47 => hL_law_J891 bk ct cl A47 x2 x3 x4 x5 z46) x2 x3 x4 x5 x10 cl x11 0 A))
noncomputable def hL_law_J705 (bk : Int32 → Int32 → AbS → Option Int32) (ct : AbS → Option Int32) (cl : (Int32 → Int32)) (A : AbS) (x2 : Int32) (x3 : Int32) (x4 : Int32) (x5 : Int32) (s0 : Int32) : Option Int32 := hL_law_J891 bk ct cl A x2 x3 x4 x5 s0
noncomputable def hL_law_J697 (bk : Int32 → Int32 → AbS → Option Int32) (ct : AbS → Option Int32) (cl : (Int32 → Int32)) (A : AbS) (x2 : Int32) (x3 : Int32) (x4 : Int32) (x5 : Int32) (s0 : Int32) (s1 : Int32) : Option Int32 := (if ¬ s0 = s1 then hL_law_J705 bk ct cl A x2 x3 x4 x5 0 else hL_law_J705 bk ct cl A x2 x3 x4 x5 1)
noncomputable def hL_law_J621 (bk : Int32 → Int32 → AbS → Option Int32) (ct : AbS → Option Int32) (cl : (Int32 → Int32)) (A : AbS) (x2 : Int32) (x3 : Int32) (x4 : Int32) (x5 : Int32) (x6 : Int32) (x7 : Int32) (x8 : Int32) (x9 : Int32) (x10 : Int32) (x11 : Int32) : Option Int32 := (if ¬ x8 = 5 then hL_law_J710 bk ct cl A x2 x3 x4 x5 x6 x7 x8 x9 x10 x11 else (if x9 ≤ 0 then hL_law_J710 bk ct cl A x2 x3 x4 x5 x6 x7 x8 x9 x10 x11 else (some (aEmpty A x10)).bind fun v49 => (if ((qWalker A x10 3) + (qChips A (qWalker A x10 0) (qWalker A x10 1))) ≤ 99 then (if ¬ (qWalker A x10 3) = 0 then hL_law_J697 bk ct cl v49.2 x2 x3 x4 x5 v49.1 ((qWalker A x10 3) + (qChips A (qWalker A x10 0) (qWalker A x10 1))) else hL_law_J697 bk ct cl v49.2 x2 x3 x4 x5 v49.1 (-5)) else hL_law_J697 bk ct cl v49.2 x2 x3 x4 x5 v49.1 (-4))))
noncomputable def hL_law_J616 (bk : Int32 → Int32 → AbS → Option Int32) (ct : AbS → Option Int32) (cl : (Int32 → Int32)) (A : AbS) (x2 : Int32) (x3 : Int32) (x4 : Int32) (x5 : Int32) (s0 : Int32) : Option Int32 := hL_law_J891 bk ct cl A x2 x3 x4 x5 s0
noncomputable def hL_law_J615 (bk : Int32 → Int32 → AbS → Option Int32) (ct : AbS → Option Int32) (cl : (Int32 → Int32)) (A : AbS) (x2 : Int32) (x3 : Int32) (x4 : Int32) (x5 : Int32) : Option Int32 := hL_law_J616 bk ct cl A x2 x3 x4 x5 0
noncomputable def hL_law_J553 (bk : Int32 → Int32 → AbS → Option Int32) (ct : AbS → Option Int32) (cl : (Int32 → Int32)) (A : AbS) (x2 : Int32) (x3 : Int32) (x5 : Int32) (x11 : Int32) (s0 : Int32) : Option Int32 := hL_law_J891 bk ct cl A x2 x3 s0 x5 x11
noncomputable def hL_law_J535 (bk : Int32 → Int32 → AbS → Option Int32) (ct : AbS → Option Int32) (cl : (Int32 → Int32)) (A : AbS) (x2 : Int32) (x3 : Int32) (x4 : Int32) (x5 : Int32) (s0 : Int32) : Option Int32 := (if ¬ x4 = 30 then hL_law_J553 bk ct cl A x2 x3 x5 s0 (x4 + 1) else hL_law_J553 bk ct cl A x2 x3 x5 s0 30)
noncomputable def hL_law_J534 (bk : Int32 → Int32 → AbS → Option Int32) (ct : AbS → Option Int32) (cl : (Int32 → Int32)) (A : AbS) (x2 : Int32) (x3 : Int32) (x4 : Int32) (x5 : Int32) : Option Int32 := hL_law_J535 bk ct cl A x2 x3 x4 x5 0
noncomputable def hL_law_J530 (bk : Int32 → Int32 → AbS → Option Int32) (ct : AbS → Option Int32) (cl : (Int32 → Int32)) (A : AbS) (x2 : Int32) (x3 : Int32) (x4 : Int32) (x5 : Int32) : Option Int32 := hL_law_J535 bk ct cl A x2 x3 x4 x5 1
noncomputable def hL_law_J500 (bk : Int32 → Int32 → AbS → Option Int32) (ct : AbS → Option Int32) (cl : (Int32 → Int32)) (A : AbS) (x2 : Int32) (x3 : Int32) (x4 : Int32) (x5 : Int32) (x12 : Int32) (s0 : Int32) (s1 : Int32) : Option Int32 := (if ¬ s0 = s1 then hL_law_J534 bk ct cl A x2 x3 x4 x5 else (if x4 = 30 then hL_law_J530 bk ct cl A x2 x3 x4 x5 else (if ¬ (qTurn A x4) = x12 then hL_law_J534 bk ct cl A x2 x3 x4 x5 else (if ¬ (qCount A 9) = 0 then hL_law_J534 bk ct cl A x2 x3 x4 x5 else hL_law_J530 bk ct cl A x2 x3 x4 x5))))
noncomputable def hL_law_J461 (bk : Int32 → Int32 → AbS → Option Int32) (ct : AbS → Option Int32) (cl : (Int32 → Int32)) (A : AbS) (x2 : Int32) (x3 : Int32) (x5 : Int32) (s0 : Int32) : Option Int32 := hL_law_J891 bk ct cl A x2 x3 0 x5 s0
noncomputable def hL_law_J460 (bk : Int32 → Int32 → AbS → Option Int32) (ct : AbS → Option Int32) (cl : (Int32 → Int32)) (A : AbS) (x2 : Int32) (x3 : Int32) (x5 : Int32) : Option Int32 := hL_law_J461 bk ct cl A x2 x3 x5 0
noncomputable def hL_law_J435 (bk : Int32 → Int32 → AbS → Option Int32) (ct : AbS → Option Int32) (cl : (Int32 → Int32)) (A : AbS) (x2 : Int32) (x3 : Int32) (x5 : Int32) (s0 : Int32) (s1 : Int32) : Option Int32 := (if ¬ s0 = s1 then hL_law_J460 bk ct cl A x2 x3 x5 else (if ¬ (qCount A 10) = 1 then hL_law_J460 bk ct cl A x2 x3 x5 else (if ¬ (qTurn A 0) = 0 then hL_law_J460 bk ct cl A x2 x3 x5 else hL_law_J461 bk ct cl A x2 x3 x5 1)))
noncomputable def hL_law_J401 (bk : Int32 → Int32 → AbS → Option Int32) (ct : AbS → Option Int32) (cl : (Int32 → Int32)) (A : AbS) (x2 : Int32) (x3 : Int32) (x4 : Int32) (x5 : Int32) (s0 : Int32) : Option Int32 := hL_law_J891 bk ct cl A x2 x3 x4 x5 s0
noncomputable def hL_law_J396 (bk : Int32 → Int32 → AbS → Option Int32) (ct : AbS → Option Int32) (cl : (Int32 → Int32)) (A : AbS) (x2 : Int32) (x3 : Int32) (x4 : Int32) (x5 : Int32) : Option Int32 := hL_law_J401 bk ct cl A x2 x3 x4 x5 1
noncomputable def hL_law_J400 (bk : Int32 → Int32 → AbS → Option Int32) (ct : AbS → Option Int32) (cl : (Int32 → Int32)) (A : AbS) (x2 : Int32) (x3 : Int32) (x4 : Int32) (x5 : Int32) : Option Int32 := hL_law_J401 bk ct cl A x2 x3 x4 x5 0
noncomputable def hL_law_J322 (bk : Int32 → Int32 → AbS → Option Int32) (ct : AbS → Option Int32) (cl : (Int32 → Int32)) (A : AbS) (x2 : Int32) (x3 : Int32) (x4 : Int32) (x5 : Int32) (s0 : Int32) : Option Int32 := hL_law_J891 bk ct cl A x2 x3 x4 x5 s0
noncomputable def hL_law_J321 (bk : Int32 → Int32 → AbS → Option Int32) (ct : AbS → Option Int32) (cl : (Int32 → Int32)) (A : AbS) (x2 : Int32) (x3 : Int32) (x4 : Int32) (x5 : Int32) : Option Int32 := hL_law_J322 bk ct cl A x2 x3 x4 x5 0
noncomputable def hL_law_J287 (bk : Int32 → Int32 → AbS → Option Int32) (ct : AbS → Option Int32) (cl : (Int32 → Int32)) (A : AbS) (x2 : Int32) (x3 : Int32) (x4 : Int32) (x5 : Int32) (x12 : Int32) (x13 : Int32) (x14 : Int32) (s0 : Int32) : Option Int32 := (some (aPut A x12 x13 s0)).bind fun v84 => (if ¬ v84.1 = x14 then hL_law_J321 bk ct cl v84.2 x2 x3 x4 x5 else (if ¬ (qChips v84.2 x12 x13) = s0 then hL_law_J321 bk ct cl v84.2 x2 x3 x4 x5 else hL_law_J322 bk ct cl v84.2 x2 x3 x4 x5 1))
noncomputable def hL_law_J220 (bk : Int32 → Int32 → AbS → Option Int32) (ct : AbS → Option Int32) (cl : (Int32 → Int32)) (A : AbS) (x2 : Int32) (x3 : Int32) (x4 : Int32) (x5 : Int32) (s0 : Int32) : Option Int32 := hL_law_J891 bk ct cl A x2 x3 x4 x5 s0
noncomputable def hL_law_J212 (bk : Int32 → Int32 → AbS → Option Int32) (ct : AbS → Option Int32) (cl : (Int32 → Int32)) (A : AbS) (x2 : Int32) (x3 : Int32) (x4 : Int32) (x5 : Int32) (s0 : Int32) (s1 : Int32) : Option Int32 := (if ¬ s0 = s1 then hL_law_J220 bk ct cl A x2 x3 x4 x5 0 else hL_law_J220 bk ct cl A x2 x3 x4 x5 1)
noncomputable def hL_law_J144 (bk : Int32 → Int32 → AbS → Option Int32) (ct : AbS → Option Int32) (cl : (Int32 → Int32)) (A : AbS) (x2 : Int32) (x3 : Int32) (x4 : Int32) (x5 : Int32) (x6 : Int32) (x7 : Int32) (x8 : Int32) (x9 : Int32) (s0 : Int32) : Option Int32 := (if ¬ x8 = 0 then (if ¬ x8 = 1 then (if ¬ x8 = 2 then (if ¬ x8 = 3 then (if ¬ x8 = 4 then hL_law_J621 bk ct cl A x2 x3 x4 x5 x6 x7 x8 x9 s0 1 else (if x9 ≤ 0 then hL_law_J621 bk ct cl A x2 x3 x4 x5 x6 x7 x8 x9 s0 1 else (hL_low A x6 3).bind fun v54 => (some (aSetSort A s0 v54)).bind fun v55 => (if ¬ v55.1 = (qWalker A s0 5) then hL_law_J615 bk ct cl v55.2 x2 x3 x4 x5 else (hL_low v55.2 x6 3).bind fun v57 => (if ¬ (qWalker v55.2 s0 5) = v57 then hL_law_J615 bk ct cl v55.2 x2 x3 x4 x5 else hL_law_J616 bk ct cl v55.2 x2 x3 x4 x5 1)))) else (if ¬ (x6 &&& 7) = 0 then (hL_low A x7 10).bind fun v60 => (some (aAddTurn A v60)).bind fun v61 => (if ¬ x4 = 30 then hL_law_J500 bk ct cl v61.2 x2 x3 x4 x5 v60 v61.1 (x4 + 1) else hL_law_J500 bk ct cl v61.2 x2 x3 x4 x5 v60 v61.1 (-3)) else (some (aClearTurns A)).bind fun v68 => (if ¬ x4 = 0 then hL_law_J435 bk ct cl v68.2 x2 x3 x5 v68.1 x4 else hL_law_J435 bk ct cl v68.2 x2 x3 x5 v68.1 1))) else (hL_low A x6 10).bind fun v73 => (hL_low A x7 10).bind fun v74 => (hL_low A (x7 >>> (5 &&& 31)) 12).bind fun v75 => (some (aStrew A v73 v74 (1 + v75))).bind fun v76 => (if v76.1 = (-5) then hL_law_J396 bk ct cl v76.2 x2 x3 x4 x5 else (if v76.1 ≤ 0 then hL_law_J400 bk ct cl v76.2 x2 x3 x4 x5 else (if ¬ (qCount v76.2 3) = ((qCount A 3) + v76.1) then hL_law_J400 bk ct cl v76.2 x2 x3 x4 x5 else hL_law_J396 bk ct cl v76.2 x2 x3 x4 x5)))) else (hL_low A x6 x2).bind fun v80 => (hL_low A x7 x3).bind fun v81 => (if ¬ (x7 &&& 64) = 0 then (hL_low A (x7 >>> (7 &&& 31)) 100).bind fun v83 => hL_law_J287 bk ct cl A x2 x3 x4 x5 v80 v81 (qChips A v80 v81) v83 else (hL_low A (x7 >>> (7 &&& 31)) 4).bind fun v87 => hL_law_J287 bk ct cl A x2 x3 x4 x5 v80 v81 (qChips A v80 v81) v87)) else (hL_low A x6 x2).bind fun v88 => (hL_low A x7 x3).bind fun v89 => (hL_low A (x7 >>> (3 &&& 31)) 4).bind fun v90 => (hL_low A (x7 >>> (5 &&& 31)) 3).bind fun v91 => (hL_low A (x7 >>> (8 &&& 31)) 9).bind fun v92 => (some (aAddWalker A v88 v89 v90 v91 (1 + v92))).bind fun v93 => (if ¬ x9 = 8 then hL_law_J212 bk ct cl v93.2 x2 x3 x4 x5 v93.1 x9 else hL_law_J212 bk ct cl v93.2 x2 x3 x4 x5 v93.1 (-3)))
noncomputable def hL_law_J113 (bk : Int32 → Int32 → AbS → Option Int32) (ct : AbS → Option Int32) (cl : (Int32 → Int32)) (A : AbS) (x2 : Int32) (x3 : Int32) (x4 : Int32) (x5 : Int32) (x6 : Int32) (x7 : Int32) (s0 : Int32) : Option Int32 := (if ¬ (qCount A 2) = 0 then (hL_low A x7 (qCount A 2)).bind fun v13 => hL_law_J144 bk ct cl A x2 x3 x4 x5 (x6 >>> (4 &&& 31)) x7 s0 (qCount A 2) v13 else hL_law_J144 bk ct cl A x2 x3 x4 x5 (x6 >>> (4 &&& 31)) x7 s0 (qCount A 2) 0)
noncomputable def hL_law_L64 : Nat → (AbS → Option Int32) → Int32 → Int32 → (Int32 → Int32) → Int32 → Int32 → AbS → Option Int32
  | 0, _, _, _, _, _, _, _ => none
  | k + 1, ct, x2, x3, cl, x4, x5, A => (if 40 ≤ x5 then ct A else ck (decide (0 ≤ (2 + (2 * x5)))) (ck (decide (0 ≤ (3 + (2 * x5)))) ((if 3 ≤ x5 then (hL_low A (cl (2 + (2 * x5))) 13).bind fun v11 => hL_law_J113 (hL_law_L64 k ct x2 x3 cl) ct cl A x2 x3 x4 x5 (cl (2 + (2 * x5))) (cl (3 + (2 * x5))) v11 else hL_law_J113 (hL_law_L64 k ct x2 x3 cl) ct cl A x2 x3 x4 x5 (cl (2 + (2 * x5))) (cl (3 + (2 * x5))) x5))))
noncomputable def hL_law (cl : Int32 → Int32) (A : AbS) : Option Int32 := (hL_low A (cl 0) 6).bind fun v1 => (hL_low A (cl 1) 6).bind fun v2 => (some (aReset A (2 + v1) (2 + v2))).bind fun v3 => (if ¬ v3.1 = ((2 + v1) * (2 + v2)) then some 0 else (some (aRounds v3.2 1)).bind fun v5 => (if v5.1 = (-5) then hL_law_L64 2000 (fun A96 => (hL_errors A96).bind fun v97 => some v97.1) (2 + v1) (2 + v2) cl 0 0 v5.2 else some 0))
set_option maxRecDepth 100000 in
set_option maxHeartbeats 4000000 in
theorem lL_law_J891 {b0 L : Nat} {xs : Nat → Int32} {X : Cx} {k : Nat} {r : Int32} (F : Fx X RL cL_law 16 10 600000 7302250) (HS : SY X b0 L xs) (hend : ∀ (c pc : Nat) {lv : List (Option AV)} {A : AbS}, decode cL_law pc = .ok (.ireturn, 1) → GE b0 X c pc lv [.inl r] A) {A : AbS} {x2 : Int32} {x3 : Int32} {x4 : Int32} {x5 : Int32} {x11 : Int32} {bk : Int32 → Int32 → AbS → Option Int32} {ct : AbS → Option Int32} (hbk : ∀ (y4 : Int32) (y5 : Int32) (A : AbS), bk y4 y5 A = some r → GE b0 X k 64 [none, some (.inr (some 0)), some (.inl x2), some (.inl x3), some (.inl y4), some (.inl y5), none, none, none, none, none, none, none, none, none, none] [] A) (hct : ∀  (A : AbS) (c : Nat), ct  A = some r → GE b0 X c 918 [none, some (.inr (some 0)), none, none, none, none, none, none, none, none, none, none, none, none, none, none] [] A) (h : hL_law_J891 bk ct (clF L xs) A x2 x3 x4 x5 x11 = some r) : GE b0 X (k + 1) 891 [none, some (.inr (some 0)), some (.inl x2), some (.inl x3), some (.inl x4), some (.inl x5), none, none, none, none, none, some (.inl x11), none, none, none, none] [] A := by
  unfold hL_law_J891 at h
  refine ge_iload F dL_law_891 rfl ?_
  refine ge_if_eq (tgt := 910) F dL_law_893 (by decide) (fun c25 => ?_) (fun c25 => ?_)
  · have h := if_t c25 h
    refine ge_iconst (v := 0) F dL_law_910 (by decide) ?_
    have h := Option.some.inj h
    subst h
    exact hend _ _ dL_law_911
  · have h := if_f c25 h
    refine ge_aload_n F dL_law_896 rfl ?_
    obtain ⟨v26, hv26, h⟩ := bd_i h
    refine ge_callLH F dL_law_897 (al_heaps hv26) lkL_115 okL_heaps rfl (Nat.le_of_ble_eq_true rfl) (by decide) ?_
    refine ge_if_eq (tgt := 910) F dL_law_900 (by decide) (fun c27 => ?_) (fun c27 => ?_)
    · have h := if_t c27 h
      refine ge_iconst (v := 0) F dL_law_910 (by decide) ?_
      have h := Option.some.inj h
      subst h
      exact hend _ _ dL_law_911
    · have h := if_f c27 h
      refine ge_aload_n F dL_law_903 rfl ?_
      obtain ⟨v28, hv28, h⟩ := bd_i h
      refine ge_callL0 F dL_law_904 (al_walkers hv28) lkL_119 okL_walkers rfl (Nat.le_of_ble_eq_true rfl) (by decide) ?_
      refine ge_if_ne (tgt := 912) F dL_law_907 (by decide) (fun c29 => ?_) (fun c29 => ?_)
      · have h := if_t c29 h
        refine ge_inc (z := 1) F dL_law_912 rfl (by decide) (by decide) (by decide) ?_
        refine ge_goto (tgt := 64) F dL_law_915 (by decide) ?_
        exact GE.weak (by exact ⟨rfl, ⟨rfl, ⟨rfl, ⟨rfl, ⟨rfl, trivial⟩⟩⟩⟩⟩) (hbk _ _ _ h)
      · have h := if_f (not_not_intro c29) h
        refine ge_iconst (v := 0) F dL_law_910 (by decide) ?_
        have h := Option.some.inj h
        subst h
        exact hend _ _ dL_law_911
set_option maxRecDepth 100000 in
set_option maxHeartbeats 4000000 in
theorem lL_law_J889 {b0 L : Nat} {xs : Nat → Int32} {X : Cx} {k : Nat} {r : Int32} (F : Fx X RL cL_law 16 10 600000 7302250) (HS : SY X b0 L xs) (hend : ∀ (c pc : Nat) {lv : List (Option AV)} {A : AbS}, decode cL_law pc = .ok (.ireturn, 1) → GE b0 X c pc lv [.inl r] A) {A : AbS} {x2 : Int32} {x3 : Int32} {x4 : Int32} {x5 : Int32} {s0 : Int32} {bk : Int32 → Int32 → AbS → Option Int32} {ct : AbS → Option Int32} (hbk : ∀ (y4 : Int32) (y5 : Int32) (A : AbS), bk y4 y5 A = some r → GE b0 X k 64 [none, some (.inr (some 0)), some (.inl x2), some (.inl x3), some (.inl y4), some (.inl y5), none, none, none, none, none, none, none, none, none, none] [] A) (hct : ∀  (A : AbS) (c : Nat), ct  A = some r → GE b0 X c 918 [none, some (.inr (some 0)), none, none, none, none, none, none, none, none, none, none, none, none, none, none] [] A) (h : hL_law_J889 bk ct (clF L xs) A x2 x3 x4 x5 s0 = some r) : GE b0 X (k + 1) 889 [none, some (.inr (some 0)), some (.inl x2), some (.inl x3), some (.inl x4), some (.inl x5), none, none, none, none, none, none, none, none, none, none] [.inl s0] A := by
  unfold hL_law_J889 at h
  refine ge_istore F dL_law_889 (by decide) (by decide) ?_
  exact GE.weak (by exact ⟨rfl, ⟨rfl, ⟨rfl, ⟨rfl, ⟨rfl, ⟨rfl, trivial⟩⟩⟩⟩⟩⟩) (lL_law_J891 F HS hend (fun y0 y1 y2 h => hbk y0 y1 y2 h) hct h)
set_option maxRecDepth 100000 in
set_option maxHeartbeats 4000000 in
theorem lL_law_J851 {b0 L : Nat} {xs : Nat → Int32} {X : Cx} {k : Nat} {r : Int32} (F : Fx X RL cL_law 16 10 600000 7302250) (HS : SY X b0 L xs) (hend : ∀ (c pc : Nat) {lv : List (Option AV)} {A : AbS}, decode cL_law pc = .ok (.ireturn, 1) → GE b0 X c pc lv [.inl r] A) {A : AbS} {x2 : Int32} {x3 : Int32} {x4 : Int32} {x5 : Int32} {x7 : Int32} {x8 : Int32} {x9 : Int32} {x11 : Int32} {bk : Int32 → Int32 → AbS → Option Int32} {ct : AbS → Option Int32} (hbk : ∀ (y4 : Int32) (y5 : Int32) (A : AbS), bk y4 y5 A = some r → GE b0 X k 64 [none, some (.inr (some 0)), some (.inl x2), some (.inl x3), some (.inl y4), some (.inl y5), none, none, none, none, none, none, none, none, none, none] [] A) (hct : ∀  (A : AbS) (c : Nat), ct  A = some r → GE b0 X c 918 [none, some (.inr (some 0)), none, none, none, none, none, none, none, none, none, none, none, none, none, none] [] A) (h : hL_law_J851 bk ct (clF L xs) A x2 x3 x4 x5 x7 x8 x9 x11 = some r) : GE b0 X (k + 1) 851 [none, some (.inr (some 0)), some (.inl x2), some (.inl x3), some (.inl x4), some (.inl x5), none, some (.inl x7), some (.inl x8), some (.inl x9), none, some (.inl x11), none, none, none, none] [] A := by
  unfold hL_law_J851 at h
  refine ge_iload F dL_law_851 rfl ?_
  refine ge_bipush (v := 12) F dL_law_853 (by decide) ?_
  refine ge_icmp_ne (tgt := 891) F dL_law_855 (by decide) (fun c24 => ?_) (fun c24 => ?_)
  · have h := if_t c24 h
    exact GE.weak (by exact ⟨rfl, ⟨rfl, ⟨rfl, ⟨rfl, ⟨rfl, ⟨rfl, trivial⟩⟩⟩⟩⟩⟩) (lL_law_J891 F HS hend (fun y0 y1 y2 h => hbk y0 y1 y2 h) hct h)
  · have h := if_f (not_not_intro c24) h
    refine ge_iload F dL_law_858 rfl ?_
    refine ge_if_le (tgt := 891) F dL_law_860 (by decide) (fun c30 => ?_) (fun c30 => ?_)
    · have h := if_t c30 h
      exact GE.weak (by exact ⟨rfl, ⟨rfl, ⟨rfl, ⟨rfl, ⟨rfl, ⟨rfl, trivial⟩⟩⟩⟩⟩⟩) (lL_law_J891 F HS hend (fun y0 y1 y2 h => hbk y0 y1 y2 h) hct h)
    · have h := if_f c30 h
      refine ge_aload_n F dL_law_863 rfl ?_
      refine ge_iconst (v := 1) F dL_law_864 (by decide) ?_
      refine ge_iload F dL_law_865 rfl ?_
      refine ge_bipush (v := 12) F dL_law_867 (by decide) ?_
      obtain ⟨v31, hv31, h⟩ := bd_i h
      refine ge_callL0 F dL_law_869 (al_low hv31) lkL_51 okL_low rfl (Nat.le_of_ble_eq_true rfl) (by decide) ?_
      refine ge_iadd F dL_law_872 ?_
      have h := bd_s h
      refine ge_call F dL_law_873 (ac_rounds _) lkL_64 okX8_rounds rfl rfl (Nat.le_of_ble_eq_true rfl) (by decide) ?_
      refine ge_aload_n F dL_law_876 rfl ?_
      refine ge_iconst (v := 5) F dL_law_877 (by decide) ?_
      refine ge_call F dL_law_878 (ac_count _) lkL_9 okX8_count rfl rfl (Nat.le_of_ble_eq_true rfl) (by decide) ?_
      refine ge_icmp_ne (tgt := 888) F dL_law_881 (by decide) (fun c33 => ?_) (fun c33 => ?_)
      · have h := if_t c33 h
        refine ge_iconst (v := 0) F dL_law_888 (by decide) ?_
        exact GE.weak (by exact ⟨rfl, ⟨rfl, ⟨rfl, ⟨rfl, ⟨rfl, trivial⟩⟩⟩⟩⟩) (lL_law_J889 F HS hend (fun y0 y1 y2 h => hbk y0 y1 y2 h) hct h)
      · have h := if_f (not_not_intro c33) h
        refine ge_iconst (v := 1) F dL_law_884 (by decide) ?_
        refine ge_goto (tgt := 889) F dL_law_885 (by decide) ?_
        exact GE.weak (by exact ⟨rfl, ⟨rfl, ⟨rfl, ⟨rfl, ⟨rfl, trivial⟩⟩⟩⟩⟩) (lL_law_J889 F HS hend (fun y0 y1 y2 h => hbk y0 y1 y2 h) hct h)
set_option maxRecDepth 100000 in
set_option maxHeartbeats 4000000 in
theorem lL_law_J846 {b0 L : Nat} {xs : Nat → Int32} {X : Cx} {k : Nat} {r : Int32} (F : Fx X RL cL_law 16 10 600000 7302250) (HS : SY X b0 L xs) (hend : ∀ (c pc : Nat) {lv : List (Option AV)} {A : AbS}, decode cL_law pc = .ok (.ireturn, 1) → GE b0 X c pc lv [.inl r] A) {A : AbS} {x2 : Int32} {x3 : Int32} {x4 : Int32} {x5 : Int32} {s0 : Int32} {bk : Int32 → Int32 → AbS → Option Int32} {ct : AbS → Option Int32} (hbk : ∀ (y4 : Int32) (y5 : Int32) (A : AbS), bk y4 y5 A = some r → GE b0 X k 64 [none, some (.inr (some 0)), some (.inl x2), some (.inl x3), some (.inl y4), some (.inl y5), none, none, none, none, none, none, none, none, none, none] [] A) (hct : ∀  (A : AbS) (c : Nat), ct  A = some r → GE b0 X c 918 [none, some (.inr (some 0)), none, none, none, none, none, none, none, none, none, none, none, none, none, none] [] A) (h : hL_law_J846 bk ct (clF L xs) A x2 x3 x4 x5 s0 = some r) : GE b0 X (k + 1) 846 [none, some (.inr (some 0)), some (.inl x2), some (.inl x3), some (.inl x4), some (.inl x5), none, none, none, none, none, none, none, none, none, none] [.inl s0] A := by
  unfold hL_law_J846 at h
  refine ge_istore F dL_law_846 (by decide) (by decide) ?_
  refine ge_goto (tgt := 891) F dL_law_848 (by decide) ?_
  exact GE.weak (by exact ⟨rfl, ⟨rfl, ⟨rfl, ⟨rfl, ⟨rfl, ⟨rfl, trivial⟩⟩⟩⟩⟩⟩) (lL_law_J891 F HS hend (fun y0 y1 y2 h => hbk y0 y1 y2 h) hct h)
set_option maxRecDepth 100000 in
set_option maxHeartbeats 4000000 in
theorem lL_law_J761 {b0 L : Nat} {xs : Nat → Int32} {X : Cx} {k : Nat} {r : Int32} (F : Fx X RL cL_law 16 10 600000 7302250) (HS : SY X b0 L xs) (hend : ∀ (c pc : Nat) {lv : List (Option AV)} {A : AbS}, decode cL_law pc = .ok (.ireturn, 1) → GE b0 X c pc lv [.inl r] A) {A : AbS} {x2 : Int32} {x3 : Int32} {x4 : Int32} {x5 : Int32} {x6 : Int32} {x7 : Int32} {x8 : Int32} {x9 : Int32} {x10 : Int32} {x11 : Int32} {bk : Int32 → Int32 → AbS → Option Int32} {ct : AbS → Option Int32} (hbk : ∀ (y4 : Int32) (y5 : Int32) (A : AbS), bk y4 y5 A = some r → GE b0 X k 64 [none, some (.inr (some 0)), some (.inl x2), some (.inl x3), some (.inl y4), some (.inl y5), none, none, none, none, none, none, none, none, none, none] [] A) (hct : ∀  (A : AbS) (c : Nat), ct  A = some r → GE b0 X c 918 [none, some (.inr (some 0)), none, none, none, none, none, none, none, none, none, none, none, none, none, none] [] A) (h : hL_law_J761 bk ct (clF L xs) A x2 x3 x4 x5 x6 x7 x8 x9 x10 x11 = some r) : GE b0 X (k + 1) 761 [none, some (.inr (some 0)), some (.inl x2), some (.inl x3), some (.inl x4), some (.inl x5), some (.inl x6), some (.inl x7), some (.inl x8), some (.inl x9), some (.inl x10), some (.inl x11), none, none, none, none] [] A := by
  unfold hL_law_J761 at h
  refine ge_iload F dL_law_761 rfl ?_
  refine ge_bipush (v := 9) F dL_law_763 (by decide) ?_
  refine ge_icmp_ne (tgt := 781) F dL_law_765 (by decide) (fun c21 => ?_) (fun c21 => ?_)
  · have h := if_t c21 h
    refine ge_iload F dL_law_781 rfl ?_
    refine ge_bipush (v := 10) F dL_law_783 (by decide) ?_
    refine ge_icmp_ne (tgt := 804) F dL_law_785 (by decide) (fun c22 => ?_) (fun c22 => ?_)
    · have h := if_t c22 h
      refine ge_iload F dL_law_804 rfl ?_
      refine ge_bipush (v := 11) F dL_law_806 (by decide) ?_
      refine ge_icmp_ne (tgt := 851) F dL_law_808 (by decide) (fun c23 => ?_) (fun c23 => ?_)
      · have h := if_t c23 h
        exact GE.weak (by exact ⟨rfl, ⟨rfl, ⟨rfl, ⟨rfl, ⟨rfl, ⟨rfl, ⟨rfl, ⟨rfl, ⟨rfl, trivial⟩⟩⟩⟩⟩⟩⟩⟩⟩) (lL_law_J851 F HS hend (fun y0 y1 y2 h => hbk y0 y1 y2 h) hct h)
      · have h := if_f (not_not_intro c23) h
        refine ge_iload F dL_law_811 rfl ?_
        refine ge_if_le (tgt := 851) F dL_law_813 (by decide) (fun c34 => ?_) (fun c34 => ?_)
        · have h := if_t c34 h
          exact GE.weak (by exact ⟨rfl, ⟨rfl, ⟨rfl, ⟨rfl, ⟨rfl, ⟨rfl, ⟨rfl, ⟨rfl, ⟨rfl, trivial⟩⟩⟩⟩⟩⟩⟩⟩⟩) (lL_law_J851 F HS hend (fun y0 y1 y2 h => hbk y0 y1 y2 h) hct h)
        · have h := if_f c34 h
          refine ge_aload_n F dL_law_816 rfl ?_
          refine ge_iload F dL_law_817 rfl ?_
          refine ge_iconst (v := 1) F dL_law_819 (by decide) ?_
          refine ge_iload F dL_law_820 rfl ?_
          refine ge_bipush (v := 30) F dL_law_822 (by decide) ?_
          obtain ⟨v35, hv35, h⟩ := bd_i h
          refine ge_callL0 F dL_law_824 (al_low hv35) lkL_51 okL_low rfl (Nat.le_of_ble_eq_true rfl) (by decide) ?_
          refine ge_iadd F dL_law_827 ?_
          have h := bd_s h
          refine ge_call F dL_law_828 (ac_walk _ _) lkL_41 okX8_walk rfl rfl (Nat.le_of_ble_eq_true rfl) (by decide) ?_
          refine ge_aload_n F dL_law_831 rfl ?_
          refine ge_iload F dL_law_832 rfl ?_
          refine ge_iconst (v := 3) F dL_law_834 (by decide) ?_
          refine ge_call F dL_law_835 (ac_walker _ _) lkL_25 okX8_walker rfl rfl (Nat.le_of_ble_eq_true rfl) (by decide) ?_
          refine ge_icmp_ne (tgt := 845) F dL_law_838 (by decide) (fun c37 => ?_) (fun c37 => ?_)
          · have h := if_t c37 h
            refine ge_iconst (v := 0) F dL_law_845 (by decide) ?_
            exact GE.weak (by exact ⟨rfl, ⟨rfl, ⟨rfl, ⟨rfl, ⟨rfl, trivial⟩⟩⟩⟩⟩) (lL_law_J846 F HS hend (fun y0 y1 y2 h => hbk y0 y1 y2 h) hct h)
          · have h := if_f (not_not_intro c37) h
            refine ge_iconst (v := 1) F dL_law_841 (by decide) ?_
            refine ge_goto (tgt := 846) F dL_law_842 (by decide) ?_
            exact GE.weak (by exact ⟨rfl, ⟨rfl, ⟨rfl, ⟨rfl, ⟨rfl, trivial⟩⟩⟩⟩⟩) (lL_law_J846 F HS hend (fun y0 y1 y2 h => hbk y0 y1 y2 h) hct h)
    · have h := if_f (not_not_intro c22) h
      refine ge_aload_n F dL_law_788 rfl ?_
      refine ge_iload F dL_law_789 rfl ?_
      refine ge_bipush (v := 8) F dL_law_791 (by decide) ?_
      obtain ⟨v38, hv38, h⟩ := bd_i h
      refine ge_callL0 F dL_law_793 (al_low hv38) lkL_51 okL_low rfl (Nat.le_of_ble_eq_true rfl) (by decide) ?_
      obtain ⟨v39, hv39, h⟩ := bd_i h
      refine ge_callL0 F dL_law_796 (al_until hv39) lkL_112 okL_until rfl (Nat.le_of_ble_eq_true rfl) (by decide) ?_
      refine ge_istore F dL_law_799 (by decide) (by decide) ?_
      refine ge_goto (tgt := 891) F dL_law_801 (by decide) ?_
      exact GE.weak (by exact ⟨rfl, ⟨rfl, ⟨rfl, ⟨rfl, ⟨rfl, ⟨rfl, trivial⟩⟩⟩⟩⟩⟩) (lL_law_J891 F HS hend (fun y0 y1 y2 h => hbk y0 y1 y2 h) hct h)
  · have h := if_f (not_not_intro c21) h
    refine ge_aload_n F dL_law_768 rfl ?_
    refine ge_iload F dL_law_769 rfl ?_
    refine ge_iload F dL_law_771 rfl ?_
    obtain ⟨v40, hv40, h⟩ := bd_i h
    refine ge_callL0 F dL_law_773 (al_plans hv40) lkL_108 okL_plans rfl (Nat.le_of_ble_eq_true rfl) (by decide) ?_
    refine ge_istore F dL_law_776 (by decide) (by decide) ?_
    refine ge_goto (tgt := 891) F dL_law_778 (by decide) ?_
    exact GE.weak (by exact ⟨rfl, ⟨rfl, ⟨rfl, ⟨rfl, ⟨rfl, ⟨rfl, trivial⟩⟩⟩⟩⟩⟩) (lL_law_J891 F HS hend (fun y0 y1 y2 h => hbk y0 y1 y2 h) hct h)
set_option maxRecDepth 100000 in
set_option maxHeartbeats 4000000 in
theorem lL_law_L725 {b0 L : Nat} {xs : Nat → Int32} {X : Cx} {c : Nat} {r : Int32} (F : Fx X RL cL_law 16 10 600000 7302250) (HS : SY X b0 L xs) (hend : ∀ (c pc : Nat) {lv : List (Option AV)} {A : AbS}, decode cL_law pc = .ok (.ireturn, 1) → GE b0 X c pc lv [.inl r] A) {x2 : Int32} {x3 : Int32} {x4 : Int32} {x5 : Int32} {x10 : Int32} {ct : Int32 → AbS → Option Int32} (hct : ∀ (x11 : Int32) (A : AbS), ct x11 A = some r → GE b0 X c 758 [none, some (.inr (some 0)), some (.inl x2), some (.inl x3), some (.inl x4), some (.inl x5), none, none, none, none, none, some (.inl x11), none, none, none, none] [] A) : ∀ (k : Nat) (x11 : Int32) (x12 : Int32) (A : AbS), hL_law_L725 k ct x2 x3 x4 x5 x10 (clF L xs) x11 x12 A = some r → GE b0 X c 725 [none, some (.inr (some 0)), some (.inl x2), some (.inl x3), some (.inl x4), some (.inl x5), none, none, none, none, some (.inl x10), some (.inl x11), some (.inl x12), none, none, none] [] A := by
  intro k
  induction k with
  | zero =>
    intro x11 x12 A h
    cases h
  | succ k ih =>
    intro x11 x12 A h
    rw [hL_law_L725] at h
    refine ge_iload F dL_law_725 rfl ?_
    refine ge_iconst (v := 3) F dL_law_727 (by decide) ?_
    refine ge_icmp_ge (tgt := 758) F dL_law_728 (by decide) (fun c42 => ?_) (fun c42 => ?_)
    · have h := if_t c42 h
      exact GE.weak (by exact ⟨rfl, ⟨rfl, ⟨rfl, ⟨rfl, ⟨rfl, ⟨rfl, trivial⟩⟩⟩⟩⟩⟩) (hct _ _ h)
    · have h := if_f c42 h
      refine ge_iload F dL_law_731 rfl ?_
      refine ge_if_eq (tgt := 749) F dL_law_733 (by decide) (fun c43 => ?_) (fun c43 => ?_)
      · have h := if_t c43 h
        refine ge_iconst (v := 0) F dL_law_749 (by decide) ?_
        refine ge_istore F dL_law_750 (by decide) (by decide) ?_
        refine ge_inc (z := 1) F dL_law_752 rfl (by decide) (by decide) (by decide) ?_
        refine ge_goto (tgt := 725) F dL_law_755 (by decide) ?_
        exact GE.weak (by exact ⟨rfl, ⟨rfl, ⟨rfl, ⟨rfl, ⟨rfl, ⟨rfl, ⟨rfl, ⟨rfl, trivial⟩⟩⟩⟩⟩⟩⟩⟩) (ih _ _ _ h)
      · have h := if_f c43 h
        refine ge_aload_n F dL_law_736 rfl ?_
        refine ge_iload F dL_law_737 rfl ?_
        obtain ⟨v44, hv44, h⟩ := bd_i h
        refine ge_callL0 F dL_law_739 (al_steps hv44) lkL_104 okL_steps rfl (Nat.le_of_ble_eq_true rfl) (by decide) ?_
        refine ge_if_eq (tgt := 749) F dL_law_742 (by decide) (fun c45 => ?_) (fun c45 => ?_)
        · have h := if_t c45 h
          refine ge_iconst (v := 0) F dL_law_749 (by decide) ?_
          refine ge_istore F dL_law_750 (by decide) (by decide) ?_
          refine ge_inc (z := 1) F dL_law_752 rfl (by decide) (by decide) (by decide) ?_
          refine ge_goto (tgt := 725) F dL_law_755 (by decide) ?_
          exact GE.weak (by exact ⟨rfl, ⟨rfl, ⟨rfl, ⟨rfl, ⟨rfl, ⟨rfl, ⟨rfl, ⟨rfl, trivial⟩⟩⟩⟩⟩⟩⟩⟩) (ih _ _ _ h)
        · have h := if_f c45 h
          refine ge_iconst (v := 1) F dL_law_745 (by decide) ?_
          refine ge_goto (tgt := 750) F dL_law_746 (by decide) ?_
          refine ge_istore F dL_law_750 (by decide) (by decide) ?_
          refine ge_inc (z := 1) F dL_law_752 rfl (by decide) (by decide) (by decide) ?_
          refine ge_goto (tgt := 725) F dL_law_755 (by decide) ?_
          exact GE.weak (by exact ⟨rfl, ⟨rfl, ⟨rfl, ⟨rfl, ⟨rfl, ⟨rfl, ⟨rfl, ⟨rfl, trivial⟩⟩⟩⟩⟩⟩⟩⟩) (ih _ _ _ h)
set_option maxRecDepth 100000 in
set_option maxHeartbeats 4000000 in
theorem lL_law_J710 {b0 L : Nat} {xs : Nat → Int32} {X : Cx} {k : Nat} {r : Int32} (F : Fx X RL cL_law 16 10 600000 7302250) (HS : SY X b0 L xs) (hend : ∀ (c pc : Nat) {lv : List (Option AV)} {A : AbS}, decode cL_law pc = .ok (.ireturn, 1) → GE b0 X c pc lv [.inl r] A) {A : AbS} {x2 : Int32} {x3 : Int32} {x4 : Int32} {x5 : Int32} {x6 : Int32} {x7 : Int32} {x8 : Int32} {x9 : Int32} {x10 : Int32} {x11 : Int32} {bk : Int32 → Int32 → AbS → Option Int32} {ct : AbS → Option Int32} (hbk : ∀ (y4 : Int32) (y5 : Int32) (A : AbS), bk y4 y5 A = some r → GE b0 X k 64 [none, some (.inr (some 0)), some (.inl x2), some (.inl x3), some (.inl y4), some (.inl y5), none, none, none, none, none, none, none, none, none, none] [] A) (hct : ∀  (A : AbS) (c : Nat), ct  A = some r → GE b0 X c 918 [none, some (.inr (some 0)), none, none, none, none, none, none, none, none, none, none, none, none, none, none] [] A) (h : hL_law_J710 bk ct (clF L xs) A x2 x3 x4 x5 x6 x7 x8 x9 x10 x11 = some r) : GE b0 X (k + 1) 710 [none, some (.inr (some 0)), some (.inl x2), some (.inl x3), some (.inl x4), some (.inl x5), some (.inl x6), some (.inl x7), some (.inl x8), some (.inl x9), some (.inl x10), some (.inl x11), none, none, none, none] [] A := by
  unfold hL_law_J710 at h
  refine ge_iload F dL_law_710 rfl ?_
  refine ge_bipush (v := 9) F dL_law_712 (by decide) ?_
  refine ge_icmp_ge (tgt := 761) F dL_law_714 (by decide) (fun c20 => ?_) (fun c20 => ?_)
  · have h := if_t c20 h
    exact GE.weak (by exact ⟨rfl, ⟨rfl, ⟨rfl, ⟨rfl, ⟨rfl, ⟨rfl, ⟨rfl, ⟨rfl, ⟨rfl, ⟨rfl, ⟨rfl, trivial⟩⟩⟩⟩⟩⟩⟩⟩⟩⟩⟩) (lL_law_J761 F HS hend (fun y0 y1 y2 h => hbk y0 y1 y2 h) hct h)
  · have h := if_f c20 h
    refine ge_iload F dL_law_717 rfl ?_
    refine ge_if_le (tgt := 761) F dL_law_719 (by decide) (fun c41 => ?_) (fun c41 => ?_)
    · have h := if_t c41 h
      exact GE.weak (by exact ⟨rfl, ⟨rfl, ⟨rfl, ⟨rfl, ⟨rfl, ⟨rfl, ⟨rfl, ⟨rfl, ⟨rfl, ⟨rfl, ⟨rfl, trivial⟩⟩⟩⟩⟩⟩⟩⟩⟩⟩⟩) (lL_law_J761 F HS hend (fun y0 y1 y2 h => hbk y0 y1 y2 h) hct h)
    · have h := if_f c41 h
      refine ge_iconst (v := 0) F dL_law_722 (by decide) ?_
      refine ge_istore F dL_law_723 (by decide) (by decide) ?_
      refine GE.weak (by exact ⟨rfl, ⟨rfl, ⟨rfl, ⟨rfl, ⟨rfl, ⟨rfl, ⟨rfl, ⟨rfl, trivial⟩⟩⟩⟩⟩⟩⟩⟩) (lL_law_L725 F HS hend (fun z46 A47 h => ?_) 2000 _ _ _ h)
      refine ge_goto (tgt := 891) F dL_law_758 (by decide) ?_
      exact GE.weak (by exact ⟨rfl, ⟨rfl, ⟨rfl, ⟨rfl, ⟨rfl, ⟨rfl, trivial⟩⟩⟩⟩⟩⟩) (lL_law_J891 F HS hend (fun y0 y1 y2 h => hbk y0 y1 y2 h) hct h)
set_option maxRecDepth 100000 in
set_option maxHeartbeats 4000000 in
theorem lL_law_J705 {b0 L : Nat} {xs : Nat → Int32} {X : Cx} {k : Nat} {r : Int32} (F : Fx X RL cL_law 16 10 600000 7302250) (HS : SY X b0 L xs) (hend : ∀ (c pc : Nat) {lv : List (Option AV)} {A : AbS}, decode cL_law pc = .ok (.ireturn, 1) → GE b0 X c pc lv [.inl r] A) {A : AbS} {x2 : Int32} {x3 : Int32} {x4 : Int32} {x5 : Int32} {s0 : Int32} {bk : Int32 → Int32 → AbS → Option Int32} {ct : AbS → Option Int32} (hbk : ∀ (y4 : Int32) (y5 : Int32) (A : AbS), bk y4 y5 A = some r → GE b0 X k 64 [none, some (.inr (some 0)), some (.inl x2), some (.inl x3), some (.inl y4), some (.inl y5), none, none, none, none, none, none, none, none, none, none] [] A) (hct : ∀  (A : AbS) (c : Nat), ct  A = some r → GE b0 X c 918 [none, some (.inr (some 0)), none, none, none, none, none, none, none, none, none, none, none, none, none, none] [] A) (h : hL_law_J705 bk ct (clF L xs) A x2 x3 x4 x5 s0 = some r) : GE b0 X (k + 1) 705 [none, some (.inr (some 0)), some (.inl x2), some (.inl x3), some (.inl x4), some (.inl x5), none, none, none, none, none, none, none, none, none, none] [.inl s0] A := by
  unfold hL_law_J705 at h
  refine ge_istore F dL_law_705 (by decide) (by decide) ?_
  refine ge_goto (tgt := 891) F dL_law_707 (by decide) ?_
  exact GE.weak (by exact ⟨rfl, ⟨rfl, ⟨rfl, ⟨rfl, ⟨rfl, ⟨rfl, trivial⟩⟩⟩⟩⟩⟩) (lL_law_J891 F HS hend (fun y0 y1 y2 h => hbk y0 y1 y2 h) hct h)
set_option maxRecDepth 100000 in
set_option maxHeartbeats 4000000 in
theorem lL_law_J697 {b0 L : Nat} {xs : Nat → Int32} {X : Cx} {k : Nat} {r : Int32} (F : Fx X RL cL_law 16 10 600000 7302250) (HS : SY X b0 L xs) (hend : ∀ (c pc : Nat) {lv : List (Option AV)} {A : AbS}, decode cL_law pc = .ok (.ireturn, 1) → GE b0 X c pc lv [.inl r] A) {A : AbS} {x2 : Int32} {x3 : Int32} {x4 : Int32} {x5 : Int32} {s0 : Int32} {s1 : Int32} {bk : Int32 → Int32 → AbS → Option Int32} {ct : AbS → Option Int32} (hbk : ∀ (y4 : Int32) (y5 : Int32) (A : AbS), bk y4 y5 A = some r → GE b0 X k 64 [none, some (.inr (some 0)), some (.inl x2), some (.inl x3), some (.inl y4), some (.inl y5), none, none, none, none, none, none, none, none, none, none] [] A) (hct : ∀  (A : AbS) (c : Nat), ct  A = some r → GE b0 X c 918 [none, some (.inr (some 0)), none, none, none, none, none, none, none, none, none, none, none, none, none, none] [] A) (h : hL_law_J697 bk ct (clF L xs) A x2 x3 x4 x5 s0 s1 = some r) : GE b0 X (k + 1) 697 [none, some (.inr (some 0)), some (.inl x2), some (.inl x3), some (.inl x4), some (.inl x5), none, none, none, none, none, none, none, none, none, none] [.inl s1, .inl s0] A := by
  unfold hL_law_J697 at h
  refine ge_icmp_ne (tgt := 704) F dL_law_697 (by decide) (fun c52 => ?_) (fun c52 => ?_)
  · have h := if_t c52 h
    refine ge_iconst (v := 0) F dL_law_704 (by decide) ?_
    exact GE.weak (by exact ⟨rfl, ⟨rfl, ⟨rfl, ⟨rfl, ⟨rfl, trivial⟩⟩⟩⟩⟩) (lL_law_J705 F HS hend (fun y0 y1 y2 h => hbk y0 y1 y2 h) hct h)
  · have h := if_f (not_not_intro c52) h
    refine ge_iconst (v := 1) F dL_law_700 (by decide) ?_
    refine ge_goto (tgt := 705) F dL_law_701 (by decide) ?_
    exact GE.weak (by exact ⟨rfl, ⟨rfl, ⟨rfl, ⟨rfl, ⟨rfl, trivial⟩⟩⟩⟩⟩) (lL_law_J705 F HS hend (fun y0 y1 y2 h => hbk y0 y1 y2 h) hct h)
set_option maxRecDepth 100000 in
set_option maxHeartbeats 4000000 in
theorem lL_law_J621 {b0 L : Nat} {xs : Nat → Int32} {X : Cx} {k : Nat} {r : Int32} (F : Fx X RL cL_law 16 10 600000 7302250) (HS : SY X b0 L xs) (hend : ∀ (c pc : Nat) {lv : List (Option AV)} {A : AbS}, decode cL_law pc = .ok (.ireturn, 1) → GE b0 X c pc lv [.inl r] A) {A : AbS} {x2 : Int32} {x3 : Int32} {x4 : Int32} {x5 : Int32} {x6 : Int32} {x7 : Int32} {x8 : Int32} {x9 : Int32} {x10 : Int32} {x11 : Int32} {bk : Int32 → Int32 → AbS → Option Int32} {ct : AbS → Option Int32} (hbk : ∀ (y4 : Int32) (y5 : Int32) (A : AbS), bk y4 y5 A = some r → GE b0 X k 64 [none, some (.inr (some 0)), some (.inl x2), some (.inl x3), some (.inl y4), some (.inl y5), none, none, none, none, none, none, none, none, none, none] [] A) (hct : ∀  (A : AbS) (c : Nat), ct  A = some r → GE b0 X c 918 [none, some (.inr (some 0)), none, none, none, none, none, none, none, none, none, none, none, none, none, none] [] A) (h : hL_law_J621 bk ct (clF L xs) A x2 x3 x4 x5 x6 x7 x8 x9 x10 x11 = some r) : GE b0 X (k + 1) 621 [none, some (.inr (some 0)), some (.inl x2), some (.inl x3), some (.inl x4), some (.inl x5), some (.inl x6), some (.inl x7), some (.inl x8), some (.inl x9), some (.inl x10), some (.inl x11), none, none, none, none] [] A := by
  unfold hL_law_J621 at h
  refine ge_iload F dL_law_621 rfl ?_
  refine ge_iconst (v := 5) F dL_law_623 (by decide) ?_
  refine ge_icmp_ne (tgt := 710) F dL_law_624 (by decide) (fun c19 => ?_) (fun c19 => ?_)
  · have h := if_t c19 h
    exact GE.weak (by exact ⟨rfl, ⟨rfl, ⟨rfl, ⟨rfl, ⟨rfl, ⟨rfl, ⟨rfl, ⟨rfl, ⟨rfl, ⟨rfl, ⟨rfl, trivial⟩⟩⟩⟩⟩⟩⟩⟩⟩⟩⟩) (lL_law_J710 F HS hend (fun y0 y1 y2 h => hbk y0 y1 y2 h) hct h)
  · have h := if_f (not_not_intro c19) h
    refine ge_iload F dL_law_627 rfl ?_
    refine ge_if_le (tgt := 710) F dL_law_629 (by decide) (fun c48 => ?_) (fun c48 => ?_)
    · have h := if_t c48 h
      exact GE.weak (by exact ⟨rfl, ⟨rfl, ⟨rfl, ⟨rfl, ⟨rfl, ⟨rfl, ⟨rfl, ⟨rfl, ⟨rfl, ⟨rfl, ⟨rfl, trivial⟩⟩⟩⟩⟩⟩⟩⟩⟩⟩⟩) (lL_law_J710 F HS hend (fun y0 y1 y2 h => hbk y0 y1 y2 h) hct h)
    · have h := if_f c48 h
      refine ge_aload_n F dL_law_632 rfl ?_
      refine ge_iload F dL_law_633 rfl ?_
      refine ge_iconst (v := 3) F dL_law_635 (by decide) ?_
      refine ge_call F dL_law_636 (ac_walker _ _) lkL_25 okX8_walker rfl rfl (Nat.le_of_ble_eq_true rfl) (by decide) ?_
      refine ge_istore F dL_law_639 (by decide) (by decide) ?_
      refine ge_aload_n F dL_law_641 rfl ?_
      refine ge_aload_n F dL_law_642 rfl ?_
      refine ge_iload F dL_law_643 rfl ?_
      refine ge_iconst (v := 0) F dL_law_645 (by decide) ?_
      refine ge_call F dL_law_646 (ac_walker _ _) lkL_25 okX8_walker rfl rfl (Nat.le_of_ble_eq_true rfl) (by decide) ?_
      refine ge_aload_n F dL_law_649 rfl ?_
      refine ge_iload F dL_law_650 rfl ?_
      refine ge_iconst (v := 1) F dL_law_652 (by decide) ?_
      refine ge_call F dL_law_653 (ac_walker _ _) lkL_25 okX8_walker rfl rfl (Nat.le_of_ble_eq_true rfl) (by decide) ?_
      refine ge_call F dL_law_656 (ac_chips _ _) lkL_15 okX8_chips rfl rfl (Nat.le_of_ble_eq_true rfl) (by decide) ?_
      refine ge_istore F dL_law_659 (by decide) (by decide) ?_
      refine ge_aload_n F dL_law_661 rfl ?_
      refine ge_iload F dL_law_662 rfl ?_
      have h := bd_s h
      refine ge_call F dL_law_664 (ac_empty _) lkL_84 okX8_empty rfl rfl (Nat.le_of_ble_eq_true rfl) (by decide) ?_
      refine ge_iload F dL_law_667 rfl ?_
      refine ge_iload F dL_law_669 rfl ?_
      refine ge_iadd F dL_law_671 ?_
      refine ge_bipush (v := 99) F dL_law_672 (by decide) ?_
      refine ge_icmp_le (tgt := 682) F dL_law_674 (by decide) (fun c50 => ?_) (fun c50 => ?_)
      · have h := if_t c50 h
        refine ge_iload F dL_law_682 rfl ?_
        refine ge_if_ne (tgt := 692) F dL_law_684 (by decide) (fun c51 => ?_) (fun c51 => ?_)
        · have h := if_t c51 h
          refine ge_iload F dL_law_692 rfl ?_
          refine ge_iload F dL_law_694 rfl ?_
          refine ge_iadd F dL_law_696 ?_
          exact GE.weak (by exact ⟨rfl, ⟨rfl, ⟨rfl, ⟨rfl, ⟨rfl, trivial⟩⟩⟩⟩⟩) (lL_law_J697 F HS hend (fun y0 y1 y2 h => hbk y0 y1 y2 h) hct h)
        · have h := if_f (not_not_intro c51) h
          refine ge_bipush (v := (-5)) F dL_law_687 (by decide) ?_
          refine ge_goto (tgt := 697) F dL_law_689 (by decide) ?_
          exact GE.weak (by exact ⟨rfl, ⟨rfl, ⟨rfl, ⟨rfl, ⟨rfl, trivial⟩⟩⟩⟩⟩) (lL_law_J697 F HS hend (fun y0 y1 y2 h => hbk y0 y1 y2 h) hct h)
      · have h := if_f c50 h
        refine ge_bipush (v := (-4)) F dL_law_677 (by decide) ?_
        refine ge_goto (tgt := 697) F dL_law_679 (by decide) ?_
        exact GE.weak (by exact ⟨rfl, ⟨rfl, ⟨rfl, ⟨rfl, ⟨rfl, trivial⟩⟩⟩⟩⟩) (lL_law_J697 F HS hend (fun y0 y1 y2 h => hbk y0 y1 y2 h) hct h)
set_option maxRecDepth 100000 in
set_option maxHeartbeats 4000000 in
theorem lL_law_J616 {b0 L : Nat} {xs : Nat → Int32} {X : Cx} {k : Nat} {r : Int32} (F : Fx X RL cL_law 16 10 600000 7302250) (HS : SY X b0 L xs) (hend : ∀ (c pc : Nat) {lv : List (Option AV)} {A : AbS}, decode cL_law pc = .ok (.ireturn, 1) → GE b0 X c pc lv [.inl r] A) {A : AbS} {x2 : Int32} {x3 : Int32} {x4 : Int32} {x5 : Int32} {s0 : Int32} {bk : Int32 → Int32 → AbS → Option Int32} {ct : AbS → Option Int32} (hbk : ∀ (y4 : Int32) (y5 : Int32) (A : AbS), bk y4 y5 A = some r → GE b0 X k 64 [none, some (.inr (some 0)), some (.inl x2), some (.inl x3), some (.inl y4), some (.inl y5), none, none, none, none, none, none, none, none, none, none] [] A) (hct : ∀  (A : AbS) (c : Nat), ct  A = some r → GE b0 X c 918 [none, some (.inr (some 0)), none, none, none, none, none, none, none, none, none, none, none, none, none, none] [] A) (h : hL_law_J616 bk ct (clF L xs) A x2 x3 x4 x5 s0 = some r) : GE b0 X (k + 1) 616 [none, some (.inr (some 0)), some (.inl x2), some (.inl x3), some (.inl x4), some (.inl x5), none, none, none, none, none, none, none, none, none, none] [.inl s0] A := by
  unfold hL_law_J616 at h
  refine ge_istore F dL_law_616 (by decide) (by decide) ?_
  refine ge_goto (tgt := 891) F dL_law_618 (by decide) ?_
  exact GE.weak (by exact ⟨rfl, ⟨rfl, ⟨rfl, ⟨rfl, ⟨rfl, ⟨rfl, trivial⟩⟩⟩⟩⟩⟩) (lL_law_J891 F HS hend (fun y0 y1 y2 h => hbk y0 y1 y2 h) hct h)
set_option maxRecDepth 100000 in
set_option maxHeartbeats 4000000 in
theorem lL_law_J615 {b0 L : Nat} {xs : Nat → Int32} {X : Cx} {k : Nat} {r : Int32} (F : Fx X RL cL_law 16 10 600000 7302250) (HS : SY X b0 L xs) (hend : ∀ (c pc : Nat) {lv : List (Option AV)} {A : AbS}, decode cL_law pc = .ok (.ireturn, 1) → GE b0 X c pc lv [.inl r] A) {A : AbS} {x2 : Int32} {x3 : Int32} {x4 : Int32} {x5 : Int32} {bk : Int32 → Int32 → AbS → Option Int32} {ct : AbS → Option Int32} (hbk : ∀ (y4 : Int32) (y5 : Int32) (A : AbS), bk y4 y5 A = some r → GE b0 X k 64 [none, some (.inr (some 0)), some (.inl x2), some (.inl x3), some (.inl y4), some (.inl y5), none, none, none, none, none, none, none, none, none, none] [] A) (hct : ∀  (A : AbS) (c : Nat), ct  A = some r → GE b0 X c 918 [none, some (.inr (some 0)), none, none, none, none, none, none, none, none, none, none, none, none, none, none] [] A) (h : hL_law_J615 bk ct (clF L xs) A x2 x3 x4 x5 = some r) : GE b0 X (k + 1) 615 [none, some (.inr (some 0)), some (.inl x2), some (.inl x3), some (.inl x4), some (.inl x5), none, none, none, none, none, none, none, none, none, none] [] A := by
  unfold hL_law_J615 at h
  refine ge_iconst (v := 0) F dL_law_615 (by decide) ?_
  exact GE.weak (by exact ⟨rfl, ⟨rfl, ⟨rfl, ⟨rfl, ⟨rfl, trivial⟩⟩⟩⟩⟩) (lL_law_J616 F HS hend (fun y0 y1 y2 h => hbk y0 y1 y2 h) hct h)
set_option maxRecDepth 100000 in
set_option maxHeartbeats 4000000 in
theorem lL_law_J553 {b0 L : Nat} {xs : Nat → Int32} {X : Cx} {k : Nat} {r : Int32} (F : Fx X RL cL_law 16 10 600000 7302250) (HS : SY X b0 L xs) (hend : ∀ (c pc : Nat) {lv : List (Option AV)} {A : AbS}, decode cL_law pc = .ok (.ireturn, 1) → GE b0 X c pc lv [.inl r] A) {A : AbS} {x2 : Int32} {x3 : Int32} {x5 : Int32} {x11 : Int32} {s0 : Int32} {bk : Int32 → Int32 → AbS → Option Int32} {ct : AbS → Option Int32} (hbk : ∀ (y4 : Int32) (y5 : Int32) (A : AbS), bk y4 y5 A = some r → GE b0 X k 64 [none, some (.inr (some 0)), some (.inl x2), some (.inl x3), some (.inl y4), some (.inl y5), none, none, none, none, none, none, none, none, none, none] [] A) (hct : ∀  (A : AbS) (c : Nat), ct  A = some r → GE b0 X c 918 [none, some (.inr (some 0)), none, none, none, none, none, none, none, none, none, none, none, none, none, none] [] A) (h : hL_law_J553 bk ct (clF L xs) A x2 x3 x5 x11 s0 = some r) : GE b0 X (k + 1) 553 [none, some (.inr (some 0)), some (.inl x2), some (.inl x3), none, some (.inl x5), none, none, none, none, none, some (.inl x11), none, none, none, none] [.inl s0] A := by
  unfold hL_law_J553 at h
  refine ge_istore F dL_law_553 (by decide) (by decide) ?_
  refine ge_goto (tgt := 891) F dL_law_555 (by decide) ?_
  exact GE.weak (by exact ⟨rfl, ⟨rfl, ⟨rfl, ⟨rfl, ⟨rfl, ⟨rfl, trivial⟩⟩⟩⟩⟩⟩) (lL_law_J891 F HS hend (fun y0 y1 y2 h => hbk y0 y1 y2 h) hct h)
set_option maxRecDepth 100000 in
set_option maxHeartbeats 4000000 in
theorem lL_law_J535 {b0 L : Nat} {xs : Nat → Int32} {X : Cx} {k : Nat} {r : Int32} (F : Fx X RL cL_law 16 10 600000 7302250) (HS : SY X b0 L xs) (hend : ∀ (c pc : Nat) {lv : List (Option AV)} {A : AbS}, decode cL_law pc = .ok (.ireturn, 1) → GE b0 X c pc lv [.inl r] A) {A : AbS} {x2 : Int32} {x3 : Int32} {x4 : Int32} {x5 : Int32} {s0 : Int32} {bk : Int32 → Int32 → AbS → Option Int32} {ct : AbS → Option Int32} (hbk : ∀ (y4 : Int32) (y5 : Int32) (A : AbS), bk y4 y5 A = some r → GE b0 X k 64 [none, some (.inr (some 0)), some (.inl x2), some (.inl x3), some (.inl y4), some (.inl y5), none, none, none, none, none, none, none, none, none, none] [] A) (hct : ∀  (A : AbS) (c : Nat), ct  A = some r → GE b0 X c 918 [none, some (.inr (some 0)), none, none, none, none, none, none, none, none, none, none, none, none, none, none] [] A) (h : hL_law_J535 bk ct (clF L xs) A x2 x3 x4 x5 s0 = some r) : GE b0 X (k + 1) 535 [none, some (.inr (some 0)), some (.inl x2), some (.inl x3), some (.inl x4), some (.inl x5), none, none, none, none, none, none, none, none, none, none] [.inl s0] A := by
  unfold hL_law_J535 at h
  refine ge_istore F dL_law_535 (by decide) (by decide) ?_
  refine ge_iload F dL_law_537 rfl ?_
  refine ge_bipush (v := 30) F dL_law_539 (by decide) ?_
  refine ge_icmp_ne (tgt := 549) F dL_law_541 (by decide) (fun c64 => ?_) (fun c64 => ?_)
  · have h := if_t c64 h
    refine ge_iload F dL_law_549 rfl ?_
    refine ge_iconst (v := 1) F dL_law_551 (by decide) ?_
    refine ge_iadd F dL_law_552 ?_
    exact GE.weak (by exact ⟨rfl, ⟨rfl, ⟨rfl, ⟨rfl, ⟨rfl, trivial⟩⟩⟩⟩⟩) (lL_law_J553 F HS hend (fun y0 y1 y2 h => hbk y0 y1 y2 h) hct h)
  · have h := if_f (not_not_intro c64) h
    refine ge_bipush (v := 30) F dL_law_544 (by decide) ?_
    refine ge_goto (tgt := 553) F dL_law_546 (by decide) ?_
    exact GE.weak (by exact ⟨rfl, ⟨rfl, ⟨rfl, ⟨rfl, ⟨rfl, trivial⟩⟩⟩⟩⟩) (lL_law_J553 F HS hend (fun y0 y1 y2 h => hbk y0 y1 y2 h) hct h)
set_option maxRecDepth 100000 in
set_option maxHeartbeats 4000000 in
theorem lL_law_J534 {b0 L : Nat} {xs : Nat → Int32} {X : Cx} {k : Nat} {r : Int32} (F : Fx X RL cL_law 16 10 600000 7302250) (HS : SY X b0 L xs) (hend : ∀ (c pc : Nat) {lv : List (Option AV)} {A : AbS}, decode cL_law pc = .ok (.ireturn, 1) → GE b0 X c pc lv [.inl r] A) {A : AbS} {x2 : Int32} {x3 : Int32} {x4 : Int32} {x5 : Int32} {bk : Int32 → Int32 → AbS → Option Int32} {ct : AbS → Option Int32} (hbk : ∀ (y4 : Int32) (y5 : Int32) (A : AbS), bk y4 y5 A = some r → GE b0 X k 64 [none, some (.inr (some 0)), some (.inl x2), some (.inl x3), some (.inl y4), some (.inl y5), none, none, none, none, none, none, none, none, none, none] [] A) (hct : ∀  (A : AbS) (c : Nat), ct  A = some r → GE b0 X c 918 [none, some (.inr (some 0)), none, none, none, none, none, none, none, none, none, none, none, none, none, none] [] A) (h : hL_law_J534 bk ct (clF L xs) A x2 x3 x4 x5 = some r) : GE b0 X (k + 1) 534 [none, some (.inr (some 0)), some (.inl x2), some (.inl x3), some (.inl x4), some (.inl x5), none, none, none, none, none, none, none, none, none, none] [] A := by
  unfold hL_law_J534 at h
  refine ge_iconst (v := 0) F dL_law_534 (by decide) ?_
  exact GE.weak (by exact ⟨rfl, ⟨rfl, ⟨rfl, ⟨rfl, ⟨rfl, trivial⟩⟩⟩⟩⟩) (lL_law_J535 F HS hend (fun y0 y1 y2 h => hbk y0 y1 y2 h) hct h)
set_option maxRecDepth 100000 in
set_option maxHeartbeats 4000000 in
theorem lL_law_J530 {b0 L : Nat} {xs : Nat → Int32} {X : Cx} {k : Nat} {r : Int32} (F : Fx X RL cL_law 16 10 600000 7302250) (HS : SY X b0 L xs) (hend : ∀ (c pc : Nat) {lv : List (Option AV)} {A : AbS}, decode cL_law pc = .ok (.ireturn, 1) → GE b0 X c pc lv [.inl r] A) {A : AbS} {x2 : Int32} {x3 : Int32} {x4 : Int32} {x5 : Int32} {bk : Int32 → Int32 → AbS → Option Int32} {ct : AbS → Option Int32} (hbk : ∀ (y4 : Int32) (y5 : Int32) (A : AbS), bk y4 y5 A = some r → GE b0 X k 64 [none, some (.inr (some 0)), some (.inl x2), some (.inl x3), some (.inl y4), some (.inl y5), none, none, none, none, none, none, none, none, none, none] [] A) (hct : ∀  (A : AbS) (c : Nat), ct  A = some r → GE b0 X c 918 [none, some (.inr (some 0)), none, none, none, none, none, none, none, none, none, none, none, none, none, none] [] A) (h : hL_law_J530 bk ct (clF L xs) A x2 x3 x4 x5 = some r) : GE b0 X (k + 1) 530 [none, some (.inr (some 0)), some (.inl x2), some (.inl x3), some (.inl x4), some (.inl x5), none, none, none, none, none, none, none, none, none, none] [] A := by
  unfold hL_law_J530 at h
  refine ge_iconst (v := 1) F dL_law_530 (by decide) ?_
  refine ge_goto (tgt := 535) F dL_law_531 (by decide) ?_
  exact GE.weak (by exact ⟨rfl, ⟨rfl, ⟨rfl, ⟨rfl, ⟨rfl, trivial⟩⟩⟩⟩⟩) (lL_law_J535 F HS hend (fun y0 y1 y2 h => hbk y0 y1 y2 h) hct h)
set_option maxRecDepth 100000 in
set_option maxHeartbeats 4000000 in
theorem lL_law_J500 {b0 L : Nat} {xs : Nat → Int32} {X : Cx} {k : Nat} {r : Int32} (F : Fx X RL cL_law 16 10 600000 7302250) (HS : SY X b0 L xs) (hend : ∀ (c pc : Nat) {lv : List (Option AV)} {A : AbS}, decode cL_law pc = .ok (.ireturn, 1) → GE b0 X c pc lv [.inl r] A) {A : AbS} {x2 : Int32} {x3 : Int32} {x4 : Int32} {x5 : Int32} {x12 : Int32} {s0 : Int32} {s1 : Int32} {bk : Int32 → Int32 → AbS → Option Int32} {ct : AbS → Option Int32} (hbk : ∀ (y4 : Int32) (y5 : Int32) (A : AbS), bk y4 y5 A = some r → GE b0 X k 64 [none, some (.inr (some 0)), some (.inl x2), some (.inl x3), some (.inl y4), some (.inl y5), none, none, none, none, none, none, none, none, none, none] [] A) (hct : ∀  (A : AbS) (c : Nat), ct  A = some r → GE b0 X c 918 [none, some (.inr (some 0)), none, none, none, none, none, none, none, none, none, none, none, none, none, none] [] A) (h : hL_law_J500 bk ct (clF L xs) A x2 x3 x4 x5 x12 s0 s1 = some r) : GE b0 X (k + 1) 500 [none, some (.inr (some 0)), some (.inl x2), some (.inl x3), some (.inl x4), some (.inl x5), none, none, none, none, none, none, some (.inl x12), none, none, none] [.inl s1, .inl s0] A := by
  unfold hL_law_J500 at h
  refine ge_icmp_ne (tgt := 534) F dL_law_500 (by decide) (fun c63 => ?_) (fun c63 => ?_)
  · have h := if_t c63 h
    exact GE.weak (by exact ⟨rfl, ⟨rfl, ⟨rfl, ⟨rfl, ⟨rfl, trivial⟩⟩⟩⟩⟩) (lL_law_J534 F HS hend (fun y0 y1 y2 h => hbk y0 y1 y2 h) hct h)
  · have h := if_f (not_not_intro c63) h
    refine ge_iload F dL_law_503 rfl ?_
    refine ge_bipush (v := 30) F dL_law_505 (by decide) ?_
    refine ge_icmp_eq (tgt := 530) F dL_law_507 (by decide) (fun c65 => ?_) (fun c65 => ?_)
    · have h := if_t c65 h
      exact GE.weak (by exact ⟨rfl, ⟨rfl, ⟨rfl, ⟨rfl, ⟨rfl, trivial⟩⟩⟩⟩⟩) (lL_law_J530 F HS hend (fun y0 y1 y2 h => hbk y0 y1 y2 h) hct h)
    · have h := if_f c65 h
      refine ge_aload_n F dL_law_510 rfl ?_
      refine ge_iload F dL_law_511 rfl ?_
      refine ge_call F dL_law_513 (ac_turn _) lkL_28 okX8_turn rfl rfl (Nat.le_of_ble_eq_true rfl) (by decide) ?_
      refine ge_iload F dL_law_516 rfl ?_
      refine ge_icmp_ne (tgt := 534) F dL_law_518 (by decide) (fun c66 => ?_) (fun c66 => ?_)
      · have h := if_t c66 h
        exact GE.weak (by exact ⟨rfl, ⟨rfl, ⟨rfl, ⟨rfl, ⟨rfl, trivial⟩⟩⟩⟩⟩) (lL_law_J534 F HS hend (fun y0 y1 y2 h => hbk y0 y1 y2 h) hct h)
      · have h := if_f (not_not_intro c66) h
        refine ge_aload_n F dL_law_521 rfl ?_
        refine ge_bipush (v := 9) F dL_law_522 (by decide) ?_
        refine ge_call F dL_law_524 (ac_count _) lkL_9 okX8_count rfl rfl (Nat.le_of_ble_eq_true rfl) (by decide) ?_
        refine ge_if_ne (tgt := 534) F dL_law_527 (by decide) (fun c67 => ?_) (fun c67 => ?_)
        · have h := if_t c67 h
          exact GE.weak (by exact ⟨rfl, ⟨rfl, ⟨rfl, ⟨rfl, ⟨rfl, trivial⟩⟩⟩⟩⟩) (lL_law_J534 F HS hend (fun y0 y1 y2 h => hbk y0 y1 y2 h) hct h)
        · have h := if_f (not_not_intro c67) h
          exact GE.weak (by exact ⟨rfl, ⟨rfl, ⟨rfl, ⟨rfl, ⟨rfl, trivial⟩⟩⟩⟩⟩) (lL_law_J530 F HS hend (fun y0 y1 y2 h => hbk y0 y1 y2 h) hct h)
set_option maxRecDepth 100000 in
set_option maxHeartbeats 4000000 in
theorem lL_law_J461 {b0 L : Nat} {xs : Nat → Int32} {X : Cx} {k : Nat} {r : Int32} (F : Fx X RL cL_law 16 10 600000 7302250) (HS : SY X b0 L xs) (hend : ∀ (c pc : Nat) {lv : List (Option AV)} {A : AbS}, decode cL_law pc = .ok (.ireturn, 1) → GE b0 X c pc lv [.inl r] A) {A : AbS} {x2 : Int32} {x3 : Int32} {x5 : Int32} {s0 : Int32} {bk : Int32 → Int32 → AbS → Option Int32} {ct : AbS → Option Int32} (hbk : ∀ (y4 : Int32) (y5 : Int32) (A : AbS), bk y4 y5 A = some r → GE b0 X k 64 [none, some (.inr (some 0)), some (.inl x2), some (.inl x3), some (.inl y4), some (.inl y5), none, none, none, none, none, none, none, none, none, none] [] A) (hct : ∀  (A : AbS) (c : Nat), ct  A = some r → GE b0 X c 918 [none, some (.inr (some 0)), none, none, none, none, none, none, none, none, none, none, none, none, none, none] [] A) (h : hL_law_J461 bk ct (clF L xs) A x2 x3 x5 s0 = some r) : GE b0 X (k + 1) 461 [none, some (.inr (some 0)), some (.inl x2), some (.inl x3), none, some (.inl x5), none, none, none, none, none, none, none, none, none, none] [.inl s0] A := by
  unfold hL_law_J461 at h
  refine ge_istore F dL_law_461 (by decide) (by decide) ?_
  refine ge_iconst (v := 0) F dL_law_463 (by decide) ?_
  refine ge_istore F dL_law_464 (by decide) (by decide) ?_
  refine ge_goto (tgt := 891) F dL_law_466 (by decide) ?_
  exact GE.weak (by exact ⟨rfl, ⟨rfl, ⟨rfl, ⟨rfl, ⟨rfl, ⟨rfl, trivial⟩⟩⟩⟩⟩⟩) (lL_law_J891 F HS hend (fun y0 y1 y2 h => hbk y0 y1 y2 h) hct h)
set_option maxRecDepth 100000 in
set_option maxHeartbeats 4000000 in
theorem lL_law_J460 {b0 L : Nat} {xs : Nat → Int32} {X : Cx} {k : Nat} {r : Int32} (F : Fx X RL cL_law 16 10 600000 7302250) (HS : SY X b0 L xs) (hend : ∀ (c pc : Nat) {lv : List (Option AV)} {A : AbS}, decode cL_law pc = .ok (.ireturn, 1) → GE b0 X c pc lv [.inl r] A) {A : AbS} {x2 : Int32} {x3 : Int32} {x5 : Int32} {bk : Int32 → Int32 → AbS → Option Int32} {ct : AbS → Option Int32} (hbk : ∀ (y4 : Int32) (y5 : Int32) (A : AbS), bk y4 y5 A = some r → GE b0 X k 64 [none, some (.inr (some 0)), some (.inl x2), some (.inl x3), some (.inl y4), some (.inl y5), none, none, none, none, none, none, none, none, none, none] [] A) (hct : ∀  (A : AbS) (c : Nat), ct  A = some r → GE b0 X c 918 [none, some (.inr (some 0)), none, none, none, none, none, none, none, none, none, none, none, none, none, none] [] A) (h : hL_law_J460 bk ct (clF L xs) A x2 x3 x5 = some r) : GE b0 X (k + 1) 460 [none, some (.inr (some 0)), some (.inl x2), some (.inl x3), none, some (.inl x5), none, none, none, none, none, none, none, none, none, none] [] A := by
  unfold hL_law_J460 at h
  refine ge_iconst (v := 0) F dL_law_460 (by decide) ?_
  exact GE.weak (by exact ⟨rfl, ⟨rfl, ⟨rfl, ⟨rfl, trivial⟩⟩⟩⟩) (lL_law_J461 F HS hend (fun y0 y1 y2 h => hbk y0 y1 y2 h) hct h)
set_option maxRecDepth 100000 in
set_option maxHeartbeats 4000000 in
theorem lL_law_J435 {b0 L : Nat} {xs : Nat → Int32} {X : Cx} {k : Nat} {r : Int32} (F : Fx X RL cL_law 16 10 600000 7302250) (HS : SY X b0 L xs) (hend : ∀ (c pc : Nat) {lv : List (Option AV)} {A : AbS}, decode cL_law pc = .ok (.ireturn, 1) → GE b0 X c pc lv [.inl r] A) {A : AbS} {x2 : Int32} {x3 : Int32} {x5 : Int32} {s0 : Int32} {s1 : Int32} {bk : Int32 → Int32 → AbS → Option Int32} {ct : AbS → Option Int32} (hbk : ∀ (y4 : Int32) (y5 : Int32) (A : AbS), bk y4 y5 A = some r → GE b0 X k 64 [none, some (.inr (some 0)), some (.inl x2), some (.inl x3), some (.inl y4), some (.inl y5), none, none, none, none, none, none, none, none, none, none] [] A) (hct : ∀  (A : AbS) (c : Nat), ct  A = some r → GE b0 X c 918 [none, some (.inr (some 0)), none, none, none, none, none, none, none, none, none, none, none, none, none, none] [] A) (h : hL_law_J435 bk ct (clF L xs) A x2 x3 x5 s0 s1 = some r) : GE b0 X (k + 1) 435 [none, some (.inr (some 0)), some (.inl x2), some (.inl x3), none, some (.inl x5), none, none, none, none, none, none, none, none, none, none] [.inl s1, .inl s0] A := by
  unfold hL_law_J435 at h
  refine ge_icmp_ne (tgt := 460) F dL_law_435 (by decide) (fun c70 => ?_) (fun c70 => ?_)
  · have h := if_t c70 h
    exact GE.weak (by exact ⟨rfl, ⟨rfl, ⟨rfl, ⟨rfl, trivial⟩⟩⟩⟩) (lL_law_J460 F HS hend (fun y0 y1 y2 h => hbk y0 y1 y2 h) hct h)
  · have h := if_f (not_not_intro c70) h
    refine ge_aload_n F dL_law_438 rfl ?_
    refine ge_bipush (v := 10) F dL_law_439 (by decide) ?_
    refine ge_call F dL_law_441 (ac_count _) lkL_9 okX8_count rfl rfl (Nat.le_of_ble_eq_true rfl) (by decide) ?_
    refine ge_iconst (v := 1) F dL_law_444 (by decide) ?_
    refine ge_icmp_ne (tgt := 460) F dL_law_445 (by decide) (fun c71 => ?_) (fun c71 => ?_)
    · have h := if_t c71 h
      exact GE.weak (by exact ⟨rfl, ⟨rfl, ⟨rfl, ⟨rfl, trivial⟩⟩⟩⟩) (lL_law_J460 F HS hend (fun y0 y1 y2 h => hbk y0 y1 y2 h) hct h)
    · have h := if_f (not_not_intro c71) h
      refine ge_aload_n F dL_law_448 rfl ?_
      refine ge_iconst (v := 0) F dL_law_449 (by decide) ?_
      refine ge_call F dL_law_450 (ac_turn _) lkL_28 okX8_turn rfl rfl (Nat.le_of_ble_eq_true rfl) (by decide) ?_
      refine ge_if_ne (tgt := 460) F dL_law_453 (by decide) (fun c72 => ?_) (fun c72 => ?_)
      · have h := if_t c72 h
        exact GE.weak (by exact ⟨rfl, ⟨rfl, ⟨rfl, ⟨rfl, trivial⟩⟩⟩⟩) (lL_law_J460 F HS hend (fun y0 y1 y2 h => hbk y0 y1 y2 h) hct h)
      · have h := if_f (not_not_intro c72) h
        refine ge_iconst (v := 1) F dL_law_456 (by decide) ?_
        refine ge_goto (tgt := 461) F dL_law_457 (by decide) ?_
        exact GE.weak (by exact ⟨rfl, ⟨rfl, ⟨rfl, ⟨rfl, trivial⟩⟩⟩⟩) (lL_law_J461 F HS hend (fun y0 y1 y2 h => hbk y0 y1 y2 h) hct h)
set_option maxRecDepth 100000 in
set_option maxHeartbeats 4000000 in
theorem lL_law_J401 {b0 L : Nat} {xs : Nat → Int32} {X : Cx} {k : Nat} {r : Int32} (F : Fx X RL cL_law 16 10 600000 7302250) (HS : SY X b0 L xs) (hend : ∀ (c pc : Nat) {lv : List (Option AV)} {A : AbS}, decode cL_law pc = .ok (.ireturn, 1) → GE b0 X c pc lv [.inl r] A) {A : AbS} {x2 : Int32} {x3 : Int32} {x4 : Int32} {x5 : Int32} {s0 : Int32} {bk : Int32 → Int32 → AbS → Option Int32} {ct : AbS → Option Int32} (hbk : ∀ (y4 : Int32) (y5 : Int32) (A : AbS), bk y4 y5 A = some r → GE b0 X k 64 [none, some (.inr (some 0)), some (.inl x2), some (.inl x3), some (.inl y4), some (.inl y5), none, none, none, none, none, none, none, none, none, none] [] A) (hct : ∀  (A : AbS) (c : Nat), ct  A = some r → GE b0 X c 918 [none, some (.inr (some 0)), none, none, none, none, none, none, none, none, none, none, none, none, none, none] [] A) (h : hL_law_J401 bk ct (clF L xs) A x2 x3 x4 x5 s0 = some r) : GE b0 X (k + 1) 401 [none, some (.inr (some 0)), some (.inl x2), some (.inl x3), some (.inl x4), some (.inl x5), none, none, none, none, none, none, none, none, none, none] [.inl s0] A := by
  unfold hL_law_J401 at h
  refine ge_istore F dL_law_401 (by decide) (by decide) ?_
  refine ge_goto (tgt := 891) F dL_law_403 (by decide) ?_
  exact GE.weak (by exact ⟨rfl, ⟨rfl, ⟨rfl, ⟨rfl, ⟨rfl, ⟨rfl, trivial⟩⟩⟩⟩⟩⟩) (lL_law_J891 F HS hend (fun y0 y1 y2 h => hbk y0 y1 y2 h) hct h)
set_option maxRecDepth 100000 in
set_option maxHeartbeats 4000000 in
theorem lL_law_J396 {b0 L : Nat} {xs : Nat → Int32} {X : Cx} {k : Nat} {r : Int32} (F : Fx X RL cL_law 16 10 600000 7302250) (HS : SY X b0 L xs) (hend : ∀ (c pc : Nat) {lv : List (Option AV)} {A : AbS}, decode cL_law pc = .ok (.ireturn, 1) → GE b0 X c pc lv [.inl r] A) {A : AbS} {x2 : Int32} {x3 : Int32} {x4 : Int32} {x5 : Int32} {bk : Int32 → Int32 → AbS → Option Int32} {ct : AbS → Option Int32} (hbk : ∀ (y4 : Int32) (y5 : Int32) (A : AbS), bk y4 y5 A = some r → GE b0 X k 64 [none, some (.inr (some 0)), some (.inl x2), some (.inl x3), some (.inl y4), some (.inl y5), none, none, none, none, none, none, none, none, none, none] [] A) (hct : ∀  (A : AbS) (c : Nat), ct  A = some r → GE b0 X c 918 [none, some (.inr (some 0)), none, none, none, none, none, none, none, none, none, none, none, none, none, none] [] A) (h : hL_law_J396 bk ct (clF L xs) A x2 x3 x4 x5 = some r) : GE b0 X (k + 1) 396 [none, some (.inr (some 0)), some (.inl x2), some (.inl x3), some (.inl x4), some (.inl x5), none, none, none, none, none, none, none, none, none, none] [] A := by
  unfold hL_law_J396 at h
  refine ge_iconst (v := 1) F dL_law_396 (by decide) ?_
  refine ge_goto (tgt := 401) F dL_law_397 (by decide) ?_
  exact GE.weak (by exact ⟨rfl, ⟨rfl, ⟨rfl, ⟨rfl, ⟨rfl, trivial⟩⟩⟩⟩⟩) (lL_law_J401 F HS hend (fun y0 y1 y2 h => hbk y0 y1 y2 h) hct h)
set_option maxRecDepth 100000 in
set_option maxHeartbeats 4000000 in
theorem lL_law_J400 {b0 L : Nat} {xs : Nat → Int32} {X : Cx} {k : Nat} {r : Int32} (F : Fx X RL cL_law 16 10 600000 7302250) (HS : SY X b0 L xs) (hend : ∀ (c pc : Nat) {lv : List (Option AV)} {A : AbS}, decode cL_law pc = .ok (.ireturn, 1) → GE b0 X c pc lv [.inl r] A) {A : AbS} {x2 : Int32} {x3 : Int32} {x4 : Int32} {x5 : Int32} {bk : Int32 → Int32 → AbS → Option Int32} {ct : AbS → Option Int32} (hbk : ∀ (y4 : Int32) (y5 : Int32) (A : AbS), bk y4 y5 A = some r → GE b0 X k 64 [none, some (.inr (some 0)), some (.inl x2), some (.inl x3), some (.inl y4), some (.inl y5), none, none, none, none, none, none, none, none, none, none] [] A) (hct : ∀  (A : AbS) (c : Nat), ct  A = some r → GE b0 X c 918 [none, some (.inr (some 0)), none, none, none, none, none, none, none, none, none, none, none, none, none, none] [] A) (h : hL_law_J400 bk ct (clF L xs) A x2 x3 x4 x5 = some r) : GE b0 X (k + 1) 400 [none, some (.inr (some 0)), some (.inl x2), some (.inl x3), some (.inl x4), some (.inl x5), none, none, none, none, none, none, none, none, none, none] [] A := by
  unfold hL_law_J400 at h
  refine ge_iconst (v := 0) F dL_law_400 (by decide) ?_
  exact GE.weak (by exact ⟨rfl, ⟨rfl, ⟨rfl, ⟨rfl, ⟨rfl, trivial⟩⟩⟩⟩⟩) (lL_law_J401 F HS hend (fun y0 y1 y2 h => hbk y0 y1 y2 h) hct h)
set_option maxRecDepth 100000 in
set_option maxHeartbeats 4000000 in
theorem lL_law_J322 {b0 L : Nat} {xs : Nat → Int32} {X : Cx} {k : Nat} {r : Int32} (F : Fx X RL cL_law 16 10 600000 7302250) (HS : SY X b0 L xs) (hend : ∀ (c pc : Nat) {lv : List (Option AV)} {A : AbS}, decode cL_law pc = .ok (.ireturn, 1) → GE b0 X c pc lv [.inl r] A) {A : AbS} {x2 : Int32} {x3 : Int32} {x4 : Int32} {x5 : Int32} {s0 : Int32} {bk : Int32 → Int32 → AbS → Option Int32} {ct : AbS → Option Int32} (hbk : ∀ (y4 : Int32) (y5 : Int32) (A : AbS), bk y4 y5 A = some r → GE b0 X k 64 [none, some (.inr (some 0)), some (.inl x2), some (.inl x3), some (.inl y4), some (.inl y5), none, none, none, none, none, none, none, none, none, none] [] A) (hct : ∀  (A : AbS) (c : Nat), ct  A = some r → GE b0 X c 918 [none, some (.inr (some 0)), none, none, none, none, none, none, none, none, none, none, none, none, none, none] [] A) (h : hL_law_J322 bk ct (clF L xs) A x2 x3 x4 x5 s0 = some r) : GE b0 X (k + 1) 322 [none, some (.inr (some 0)), some (.inl x2), some (.inl x3), some (.inl x4), some (.inl x5), none, none, none, none, none, none, none, none, none, none] [.inl s0] A := by
  unfold hL_law_J322 at h
  refine ge_istore F dL_law_322 (by decide) (by decide) ?_
  refine ge_goto (tgt := 891) F dL_law_324 (by decide) ?_
  exact GE.weak (by exact ⟨rfl, ⟨rfl, ⟨rfl, ⟨rfl, ⟨rfl, ⟨rfl, trivial⟩⟩⟩⟩⟩⟩) (lL_law_J891 F HS hend (fun y0 y1 y2 h => hbk y0 y1 y2 h) hct h)
set_option maxRecDepth 100000 in
set_option maxHeartbeats 4000000 in
theorem lL_law_J321 {b0 L : Nat} {xs : Nat → Int32} {X : Cx} {k : Nat} {r : Int32} (F : Fx X RL cL_law 16 10 600000 7302250) (HS : SY X b0 L xs) (hend : ∀ (c pc : Nat) {lv : List (Option AV)} {A : AbS}, decode cL_law pc = .ok (.ireturn, 1) → GE b0 X c pc lv [.inl r] A) {A : AbS} {x2 : Int32} {x3 : Int32} {x4 : Int32} {x5 : Int32} {bk : Int32 → Int32 → AbS → Option Int32} {ct : AbS → Option Int32} (hbk : ∀ (y4 : Int32) (y5 : Int32) (A : AbS), bk y4 y5 A = some r → GE b0 X k 64 [none, some (.inr (some 0)), some (.inl x2), some (.inl x3), some (.inl y4), some (.inl y5), none, none, none, none, none, none, none, none, none, none] [] A) (hct : ∀  (A : AbS) (c : Nat), ct  A = some r → GE b0 X c 918 [none, some (.inr (some 0)), none, none, none, none, none, none, none, none, none, none, none, none, none, none] [] A) (h : hL_law_J321 bk ct (clF L xs) A x2 x3 x4 x5 = some r) : GE b0 X (k + 1) 321 [none, some (.inr (some 0)), some (.inl x2), some (.inl x3), some (.inl x4), some (.inl x5), none, none, none, none, none, none, none, none, none, none] [] A := by
  unfold hL_law_J321 at h
  refine ge_iconst (v := 0) F dL_law_321 (by decide) ?_
  exact GE.weak (by exact ⟨rfl, ⟨rfl, ⟨rfl, ⟨rfl, ⟨rfl, trivial⟩⟩⟩⟩⟩) (lL_law_J322 F HS hend (fun y0 y1 y2 h => hbk y0 y1 y2 h) hct h)
set_option maxRecDepth 100000 in
set_option maxHeartbeats 4000000 in
theorem lL_law_J287 {b0 L : Nat} {xs : Nat → Int32} {X : Cx} {k : Nat} {r : Int32} (F : Fx X RL cL_law 16 10 600000 7302250) (HS : SY X b0 L xs) (hend : ∀ (c pc : Nat) {lv : List (Option AV)} {A : AbS}, decode cL_law pc = .ok (.ireturn, 1) → GE b0 X c pc lv [.inl r] A) {A : AbS} {x2 : Int32} {x3 : Int32} {x4 : Int32} {x5 : Int32} {x12 : Int32} {x13 : Int32} {x14 : Int32} {s0 : Int32} {bk : Int32 → Int32 → AbS → Option Int32} {ct : AbS → Option Int32} (hbk : ∀ (y4 : Int32) (y5 : Int32) (A : AbS), bk y4 y5 A = some r → GE b0 X k 64 [none, some (.inr (some 0)), some (.inl x2), some (.inl x3), some (.inl y4), some (.inl y5), none, none, none, none, none, none, none, none, none, none] [] A) (hct : ∀  (A : AbS) (c : Nat), ct  A = some r → GE b0 X c 918 [none, some (.inr (some 0)), none, none, none, none, none, none, none, none, none, none, none, none, none, none] [] A) (h : hL_law_J287 bk ct (clF L xs) A x2 x3 x4 x5 x12 x13 x14 s0 = some r) : GE b0 X (k + 1) 287 [none, some (.inr (some 0)), some (.inl x2), some (.inl x3), some (.inl x4), some (.inl x5), none, none, none, none, none, none, some (.inl x12), some (.inl x13), some (.inl x14), none] [.inl s0] A := by
  unfold hL_law_J287 at h
  refine ge_istore F dL_law_287 (by decide) (by decide) ?_
  refine ge_aload_n F dL_law_289 rfl ?_
  refine ge_iload F dL_law_290 rfl ?_
  refine ge_iload F dL_law_292 rfl ?_
  refine ge_iload F dL_law_294 rfl ?_
  have h := bd_s h
  refine ge_call F dL_law_296 (ac_put _ _ _) lkL_70 okX8_put rfl rfl (Nat.le_of_ble_eq_true rfl) (by decide) ?_
  refine ge_iload F dL_law_299 rfl ?_
  refine ge_icmp_ne (tgt := 321) F dL_law_301 (by decide) (fun c85 => ?_) (fun c85 => ?_)
  · have h := if_t c85 h
    exact GE.weak (by exact ⟨rfl, ⟨rfl, ⟨rfl, ⟨rfl, ⟨rfl, trivial⟩⟩⟩⟩⟩) (lL_law_J321 F HS hend (fun y0 y1 y2 h => hbk y0 y1 y2 h) hct h)
  · have h := if_f (not_not_intro c85) h
    refine ge_aload_n F dL_law_304 rfl ?_
    refine ge_iload F dL_law_305 rfl ?_
    refine ge_iload F dL_law_307 rfl ?_
    refine ge_call F dL_law_309 (ac_chips _ _) lkL_15 okX8_chips rfl rfl (Nat.le_of_ble_eq_true rfl) (by decide) ?_
    refine ge_iload F dL_law_312 rfl ?_
    refine ge_icmp_ne (tgt := 321) F dL_law_314 (by decide) (fun c86 => ?_) (fun c86 => ?_)
    · have h := if_t c86 h
      exact GE.weak (by exact ⟨rfl, ⟨rfl, ⟨rfl, ⟨rfl, ⟨rfl, trivial⟩⟩⟩⟩⟩) (lL_law_J321 F HS hend (fun y0 y1 y2 h => hbk y0 y1 y2 h) hct h)
    · have h := if_f (not_not_intro c86) h
      refine ge_iconst (v := 1) F dL_law_317 (by decide) ?_
      refine ge_goto (tgt := 322) F dL_law_318 (by decide) ?_
      exact GE.weak (by exact ⟨rfl, ⟨rfl, ⟨rfl, ⟨rfl, ⟨rfl, trivial⟩⟩⟩⟩⟩) (lL_law_J322 F HS hend (fun y0 y1 y2 h => hbk y0 y1 y2 h) hct h)
set_option maxRecDepth 100000 in
set_option maxHeartbeats 4000000 in
theorem lL_law_J220 {b0 L : Nat} {xs : Nat → Int32} {X : Cx} {k : Nat} {r : Int32} (F : Fx X RL cL_law 16 10 600000 7302250) (HS : SY X b0 L xs) (hend : ∀ (c pc : Nat) {lv : List (Option AV)} {A : AbS}, decode cL_law pc = .ok (.ireturn, 1) → GE b0 X c pc lv [.inl r] A) {A : AbS} {x2 : Int32} {x3 : Int32} {x4 : Int32} {x5 : Int32} {s0 : Int32} {bk : Int32 → Int32 → AbS → Option Int32} {ct : AbS → Option Int32} (hbk : ∀ (y4 : Int32) (y5 : Int32) (A : AbS), bk y4 y5 A = some r → GE b0 X k 64 [none, some (.inr (some 0)), some (.inl x2), some (.inl x3), some (.inl y4), some (.inl y5), none, none, none, none, none, none, none, none, none, none] [] A) (hct : ∀  (A : AbS) (c : Nat), ct  A = some r → GE b0 X c 918 [none, some (.inr (some 0)), none, none, none, none, none, none, none, none, none, none, none, none, none, none] [] A) (h : hL_law_J220 bk ct (clF L xs) A x2 x3 x4 x5 s0 = some r) : GE b0 X (k + 1) 220 [none, some (.inr (some 0)), some (.inl x2), some (.inl x3), some (.inl x4), some (.inl x5), none, none, none, none, none, none, none, none, none, none] [.inl s0] A := by
  unfold hL_law_J220 at h
  refine ge_istore F dL_law_220 (by decide) (by decide) ?_
  refine ge_goto (tgt := 891) F dL_law_222 (by decide) ?_
  exact GE.weak (by exact ⟨rfl, ⟨rfl, ⟨rfl, ⟨rfl, ⟨rfl, ⟨rfl, trivial⟩⟩⟩⟩⟩⟩) (lL_law_J891 F HS hend (fun y0 y1 y2 h => hbk y0 y1 y2 h) hct h)
set_option maxRecDepth 100000 in
set_option maxHeartbeats 4000000 in
theorem lL_law_J212 {b0 L : Nat} {xs : Nat → Int32} {X : Cx} {k : Nat} {r : Int32} (F : Fx X RL cL_law 16 10 600000 7302250) (HS : SY X b0 L xs) (hend : ∀ (c pc : Nat) {lv : List (Option AV)} {A : AbS}, decode cL_law pc = .ok (.ireturn, 1) → GE b0 X c pc lv [.inl r] A) {A : AbS} {x2 : Int32} {x3 : Int32} {x4 : Int32} {x5 : Int32} {s0 : Int32} {s1 : Int32} {bk : Int32 → Int32 → AbS → Option Int32} {ct : AbS → Option Int32} (hbk : ∀ (y4 : Int32) (y5 : Int32) (A : AbS), bk y4 y5 A = some r → GE b0 X k 64 [none, some (.inr (some 0)), some (.inl x2), some (.inl x3), some (.inl y4), some (.inl y5), none, none, none, none, none, none, none, none, none, none] [] A) (hct : ∀  (A : AbS) (c : Nat), ct  A = some r → GE b0 X c 918 [none, some (.inr (some 0)), none, none, none, none, none, none, none, none, none, none, none, none, none, none] [] A) (h : hL_law_J212 bk ct (clF L xs) A x2 x3 x4 x5 s0 s1 = some r) : GE b0 X (k + 1) 212 [none, some (.inr (some 0)), some (.inl x2), some (.inl x3), some (.inl x4), some (.inl x5), none, none, none, none, none, none, none, none, none, none] [.inl s1, .inl s0] A := by
  unfold hL_law_J212 at h
  refine ge_icmp_ne (tgt := 219) F dL_law_212 (by decide) (fun c95 => ?_) (fun c95 => ?_)
  · have h := if_t c95 h
    refine ge_iconst (v := 0) F dL_law_219 (by decide) ?_
    exact GE.weak (by exact ⟨rfl, ⟨rfl, ⟨rfl, ⟨rfl, ⟨rfl, trivial⟩⟩⟩⟩⟩) (lL_law_J220 F HS hend (fun y0 y1 y2 h => hbk y0 y1 y2 h) hct h)
  · have h := if_f (not_not_intro c95) h
    refine ge_iconst (v := 1) F dL_law_215 (by decide) ?_
    refine ge_goto (tgt := 220) F dL_law_216 (by decide) ?_
    exact GE.weak (by exact ⟨rfl, ⟨rfl, ⟨rfl, ⟨rfl, ⟨rfl, trivial⟩⟩⟩⟩⟩) (lL_law_J220 F HS hend (fun y0 y1 y2 h => hbk y0 y1 y2 h) hct h)
set_option maxRecDepth 100000 in
set_option maxHeartbeats 4000000 in
theorem lL_law_J144 {b0 L : Nat} {xs : Nat → Int32} {X : Cx} {k : Nat} {r : Int32} (F : Fx X RL cL_law 16 10 600000 7302250) (HS : SY X b0 L xs) (hend : ∀ (c pc : Nat) {lv : List (Option AV)} {A : AbS}, decode cL_law pc = .ok (.ireturn, 1) → GE b0 X c pc lv [.inl r] A) {A : AbS} {x2 : Int32} {x3 : Int32} {x4 : Int32} {x5 : Int32} {x6 : Int32} {x7 : Int32} {x8 : Int32} {x9 : Int32} {s0 : Int32} {bk : Int32 → Int32 → AbS → Option Int32} {ct : AbS → Option Int32} (hbk : ∀ (y4 : Int32) (y5 : Int32) (A : AbS), bk y4 y5 A = some r → GE b0 X k 64 [none, some (.inr (some 0)), some (.inl x2), some (.inl x3), some (.inl y4), some (.inl y5), none, none, none, none, none, none, none, none, none, none] [] A) (hct : ∀  (A : AbS) (c : Nat), ct  A = some r → GE b0 X c 918 [none, some (.inr (some 0)), none, none, none, none, none, none, none, none, none, none, none, none, none, none] [] A) (h : hL_law_J144 bk ct (clF L xs) A x2 x3 x4 x5 x6 x7 x8 x9 s0 = some r) : GE b0 X (k + 1) 144 [none, some (.inr (some 0)), some (.inl x2), some (.inl x3), some (.inl x4), some (.inl x5), some (.inl x6), some (.inl x7), some (.inl x8), some (.inl x9), none, none, none, none, none, none] [.inl s0] A := by
  unfold hL_law_J144 at h
  refine ge_istore F dL_law_144 (by decide) (by decide) ?_
  refine ge_iconst (v := 1) F dL_law_146 (by decide) ?_
  refine ge_istore F dL_law_147 (by decide) (by decide) ?_
  refine ge_iload F dL_law_149 rfl ?_
  refine ge_if_ne (tgt := 225) F dL_law_151 (by decide) (fun c14 => ?_) (fun c14 => ?_)
  · have h := if_t c14 h
    refine ge_iload F dL_law_225 rfl ?_
    refine ge_iconst (v := 1) F dL_law_227 (by decide) ?_
    refine ge_icmp_ne (tgt := 327) F dL_law_228 (by decide) (fun c15 => ?_) (fun c15 => ?_)
    · have h := if_t c15 h
      refine ge_iload F dL_law_327 rfl ?_
      refine ge_iconst (v := 2) F dL_law_329 (by decide) ?_
      refine ge_icmp_ne (tgt := 406) F dL_law_330 (by decide) (fun c16 => ?_) (fun c16 => ?_)
      · have h := if_t c16 h
        refine ge_iload F dL_law_406 rfl ?_
        refine ge_iconst (v := 3) F dL_law_408 (by decide) ?_
        refine ge_icmp_ne (tgt := 558) F dL_law_409 (by decide) (fun c17 => ?_) (fun c17 => ?_)
        · have h := if_t c17 h
          refine ge_iload F dL_law_558 rfl ?_
          refine ge_iconst (v := 4) F dL_law_560 (by decide) ?_
          refine ge_icmp_ne (tgt := 621) F dL_law_561 (by decide) (fun c18 => ?_) (fun c18 => ?_)
          · have h := if_t c18 h
            exact GE.weak (by exact ⟨rfl, ⟨rfl, ⟨rfl, ⟨rfl, ⟨rfl, ⟨rfl, ⟨rfl, ⟨rfl, ⟨rfl, ⟨rfl, ⟨rfl, trivial⟩⟩⟩⟩⟩⟩⟩⟩⟩⟩⟩) (lL_law_J621 F HS hend (fun y0 y1 y2 h => hbk y0 y1 y2 h) hct h)
          · have h := if_f (not_not_intro c18) h
            refine ge_iload F dL_law_564 rfl ?_
            refine ge_if_le (tgt := 621) F dL_law_566 (by decide) (fun c53 => ?_) (fun c53 => ?_)
            · have h := if_t c53 h
              exact GE.weak (by exact ⟨rfl, ⟨rfl, ⟨rfl, ⟨rfl, ⟨rfl, ⟨rfl, ⟨rfl, ⟨rfl, ⟨rfl, ⟨rfl, ⟨rfl, trivial⟩⟩⟩⟩⟩⟩⟩⟩⟩⟩⟩) (lL_law_J621 F HS hend (fun y0 y1 y2 h => hbk y0 y1 y2 h) hct h)
            · have h := if_f c53 h
              refine ge_aload_n F dL_law_569 rfl ?_
              refine ge_iload F dL_law_570 rfl ?_
              refine ge_iconst (v := 5) F dL_law_572 (by decide) ?_
              refine ge_call F dL_law_573 (ac_walker _ _) lkL_25 okX8_walker rfl rfl (Nat.le_of_ble_eq_true rfl) (by decide) ?_
              refine ge_istore F dL_law_576 (by decide) (by decide) ?_
              refine ge_aload_n F dL_law_578 rfl ?_
              refine ge_iload F dL_law_579 rfl ?_
              refine ge_iload F dL_law_581 rfl ?_
              refine ge_iconst (v := 3) F dL_law_583 (by decide) ?_
              obtain ⟨v54, hv54, h⟩ := bd_i h
              refine ge_callL0 F dL_law_584 (al_low hv54) lkL_51 okL_low rfl (Nat.le_of_ble_eq_true rfl) (by decide) ?_
              have h := bd_s h
              refine ge_call F dL_law_587 (ac_setSort _ _) lkL_81 okX8_setSort rfl rfl (Nat.le_of_ble_eq_true rfl) (by decide) ?_
              refine ge_iload F dL_law_590 rfl ?_
              refine ge_icmp_ne (tgt := 615) F dL_law_592 (by decide) (fun c56 => ?_) (fun c56 => ?_)
              · have h := if_t c56 h
                exact GE.weak (by exact ⟨rfl, ⟨rfl, ⟨rfl, ⟨rfl, ⟨rfl, trivial⟩⟩⟩⟩⟩) (lL_law_J615 F HS hend (fun y0 y1 y2 h => hbk y0 y1 y2 h) hct h)
              · have h := if_f (not_not_intro c56) h
                refine ge_aload_n F dL_law_595 rfl ?_
                refine ge_iload F dL_law_596 rfl ?_
                refine ge_iconst (v := 5) F dL_law_598 (by decide) ?_
                refine ge_call F dL_law_599 (ac_walker _ _) lkL_25 okX8_walker rfl rfl (Nat.le_of_ble_eq_true rfl) (by decide) ?_
                refine ge_iload F dL_law_602 rfl ?_
                refine ge_iconst (v := 3) F dL_law_604 (by decide) ?_
                obtain ⟨v57, hv57, h⟩ := bd_i h
                refine ge_callL0 F dL_law_605 (al_low hv57) lkL_51 okL_low rfl (Nat.le_of_ble_eq_true rfl) (by decide) ?_
                refine ge_icmp_ne (tgt := 615) F dL_law_608 (by decide) (fun c58 => ?_) (fun c58 => ?_)
                · have h := if_t c58 h
                  exact GE.weak (by exact ⟨rfl, ⟨rfl, ⟨rfl, ⟨rfl, ⟨rfl, trivial⟩⟩⟩⟩⟩) (lL_law_J615 F HS hend (fun y0 y1 y2 h => hbk y0 y1 y2 h) hct h)
                · have h := if_f (not_not_intro c58) h
                  refine ge_iconst (v := 1) F dL_law_611 (by decide) ?_
                  refine ge_goto (tgt := 616) F dL_law_612 (by decide) ?_
                  exact GE.weak (by exact ⟨rfl, ⟨rfl, ⟨rfl, ⟨rfl, ⟨rfl, trivial⟩⟩⟩⟩⟩) (lL_law_J616 F HS hend (fun y0 y1 y2 h => hbk y0 y1 y2 h) hct h)
        · have h := if_f (not_not_intro c17) h
          refine ge_iload F dL_law_412 rfl ?_
          refine ge_bipush (v := 7) F dL_law_414 (by decide) ?_
          refine ge_iand F dL_law_416 ?_
          refine ge_if_ne (tgt := 469) F dL_law_417 (by decide) (fun c59 => ?_) (fun c59 => ?_)
          · have h := if_t c59 h
            refine ge_iload F dL_law_469 rfl ?_
            refine ge_bipush (v := 10) F dL_law_471 (by decide) ?_
            obtain ⟨v60, hv60, h⟩ := bd_i h
            refine ge_callL0 F dL_law_473 (al_low hv60) lkL_51 okL_low rfl (Nat.le_of_ble_eq_true rfl) (by decide) ?_
            refine ge_istore F dL_law_476 (by decide) (by decide) ?_
            refine ge_aload_n F dL_law_478 rfl ?_
            refine ge_iload F dL_law_479 rfl ?_
            have h := bd_s h
            refine ge_call F dL_law_481 (ac_addTurn _) lkL_87 okX8_addTurn rfl rfl (Nat.le_of_ble_eq_true rfl) (by decide) ?_
            refine ge_iload F dL_law_484 rfl ?_
            refine ge_bipush (v := 30) F dL_law_486 (by decide) ?_
            refine ge_icmp_ne (tgt := 496) F dL_law_488 (by decide) (fun c62 => ?_) (fun c62 => ?_)
            · have h := if_t c62 h
              refine ge_iload F dL_law_496 rfl ?_
              refine ge_iconst (v := 1) F dL_law_498 (by decide) ?_
              refine ge_iadd F dL_law_499 ?_
              exact GE.weak (by exact ⟨rfl, ⟨rfl, ⟨rfl, ⟨rfl, ⟨rfl, ⟨rfl, trivial⟩⟩⟩⟩⟩⟩) (lL_law_J500 F HS hend (fun y0 y1 y2 h => hbk y0 y1 y2 h) hct h)
            · have h := if_f (not_not_intro c62) h
              refine ge_bipush (v := (-3)) F dL_law_491 (by decide) ?_
              refine ge_goto (tgt := 500) F dL_law_493 (by decide) ?_
              exact GE.weak (by exact ⟨rfl, ⟨rfl, ⟨rfl, ⟨rfl, ⟨rfl, ⟨rfl, trivial⟩⟩⟩⟩⟩⟩) (lL_law_J500 F HS hend (fun y0 y1 y2 h => hbk y0 y1 y2 h) hct h)
          · have h := if_f (not_not_intro c59) h
            refine ge_aload_n F dL_law_420 rfl ?_
            have h := bd_s h
            refine ge_call F dL_law_421 (ac_clearTurns) lkL_101 okX8_clearTurns rfl rfl (Nat.le_of_ble_eq_true rfl) (by decide) ?_
            refine ge_iload F dL_law_424 rfl ?_
            refine ge_if_ne (tgt := 433) F dL_law_426 (by decide) (fun c69 => ?_) (fun c69 => ?_)
            · have h := if_t c69 h
              refine ge_iload F dL_law_433 rfl ?_
              exact GE.weak (by exact ⟨rfl, ⟨rfl, ⟨rfl, ⟨rfl, trivial⟩⟩⟩⟩) (lL_law_J435 F HS hend (fun y0 y1 y2 h => hbk y0 y1 y2 h) hct h)
            · have h := if_f (not_not_intro c69) h
              refine ge_iconst (v := 1) F dL_law_429 (by decide) ?_
              refine ge_goto (tgt := 435) F dL_law_430 (by decide) ?_
              exact GE.weak (by exact ⟨rfl, ⟨rfl, ⟨rfl, ⟨rfl, trivial⟩⟩⟩⟩) (lL_law_J435 F HS hend (fun y0 y1 y2 h => hbk y0 y1 y2 h) hct h)
      · have h := if_f (not_not_intro c16) h
        refine ge_aload_n F dL_law_333 rfl ?_
        refine ge_iconst (v := 3) F dL_law_334 (by decide) ?_
        refine ge_call F dL_law_335 (ac_count _) lkL_9 okX8_count rfl rfl (Nat.le_of_ble_eq_true rfl) (by decide) ?_
        refine ge_istore F dL_law_338 (by decide) (by decide) ?_
        refine ge_aload_n F dL_law_340 rfl ?_
        refine ge_iload F dL_law_341 rfl ?_
        refine ge_bipush (v := 10) F dL_law_343 (by decide) ?_
        obtain ⟨v73, hv73, h⟩ := bd_i h
        refine ge_callL0 F dL_law_345 (al_low hv73) lkL_51 okL_low rfl (Nat.le_of_ble_eq_true rfl) (by decide) ?_
        refine ge_iload F dL_law_348 rfl ?_
        refine ge_bipush (v := 10) F dL_law_350 (by decide) ?_
        obtain ⟨v74, hv74, h⟩ := bd_i h
        refine ge_callL0 F dL_law_352 (al_low hv74) lkL_51 okL_low rfl (Nat.le_of_ble_eq_true rfl) (by decide) ?_
        refine ge_iconst (v := 1) F dL_law_355 (by decide) ?_
        refine ge_iload F dL_law_356 rfl ?_
        refine ge_iconst (v := 5) F dL_law_358 (by decide) ?_
        refine ge_ishr F dL_law_359 ?_
        refine ge_bipush (v := 12) F dL_law_360 (by decide) ?_
        obtain ⟨v75, hv75, h⟩ := bd_i h
        refine ge_callL0 F dL_law_362 (al_low hv75) lkL_51 okL_low rfl (Nat.le_of_ble_eq_true rfl) (by decide) ?_
        refine ge_iadd F dL_law_365 ?_
        have h := bd_s h
        refine ge_call F dL_law_366 (ac_strew _ _ _) lkL_74 okX8_strew rfl rfl (Nat.le_of_ble_eq_true rfl) (by decide) ?_
        refine ge_istore F dL_law_369 (by decide) (by decide) ?_
        refine ge_iload F dL_law_371 rfl ?_
        refine ge_bipush (v := (-5)) F dL_law_373 (by decide) ?_
        refine ge_icmp_eq (tgt := 396) F dL_law_375 (by decide) (fun c77 => ?_) (fun c77 => ?_)
        · have h := if_t c77 h
          exact GE.weak (by exact ⟨rfl, ⟨rfl, ⟨rfl, ⟨rfl, ⟨rfl, trivial⟩⟩⟩⟩⟩) (lL_law_J396 F HS hend (fun y0 y1 y2 h => hbk y0 y1 y2 h) hct h)
        · have h := if_f c77 h
          refine ge_iload F dL_law_378 rfl ?_
          refine ge_if_le (tgt := 400) F dL_law_380 (by decide) (fun c78 => ?_) (fun c78 => ?_)
          · have h := if_t c78 h
            exact GE.weak (by exact ⟨rfl, ⟨rfl, ⟨rfl, ⟨rfl, ⟨rfl, trivial⟩⟩⟩⟩⟩) (lL_law_J400 F HS hend (fun y0 y1 y2 h => hbk y0 y1 y2 h) hct h)
          · have h := if_f c78 h
            refine ge_aload_n F dL_law_383 rfl ?_
            refine ge_iconst (v := 3) F dL_law_384 (by decide) ?_
            refine ge_call F dL_law_385 (ac_count _) lkL_9 okX8_count rfl rfl (Nat.le_of_ble_eq_true rfl) (by decide) ?_
            refine ge_iload F dL_law_388 rfl ?_
            refine ge_iload F dL_law_390 rfl ?_
            refine ge_iadd F dL_law_392 ?_
            refine ge_icmp_ne (tgt := 400) F dL_law_393 (by decide) (fun c79 => ?_) (fun c79 => ?_)
            · have h := if_t c79 h
              exact GE.weak (by exact ⟨rfl, ⟨rfl, ⟨rfl, ⟨rfl, ⟨rfl, trivial⟩⟩⟩⟩⟩) (lL_law_J400 F HS hend (fun y0 y1 y2 h => hbk y0 y1 y2 h) hct h)
            · have h := if_f (not_not_intro c79) h
              exact GE.weak (by exact ⟨rfl, ⟨rfl, ⟨rfl, ⟨rfl, ⟨rfl, trivial⟩⟩⟩⟩⟩) (lL_law_J396 F HS hend (fun y0 y1 y2 h => hbk y0 y1 y2 h) hct h)
    · have h := if_f (not_not_intro c15) h
      refine ge_iload F dL_law_231 rfl ?_
      refine ge_iload_n F dL_law_233 rfl ?_
      obtain ⟨v80, hv80, h⟩ := bd_i h
      refine ge_callL0 F dL_law_234 (al_low hv80) lkL_51 okL_low rfl (Nat.le_of_ble_eq_true rfl) (by decide) ?_
      refine ge_istore F dL_law_237 (by decide) (by decide) ?_
      refine ge_iload F dL_law_239 rfl ?_
      refine ge_iload_n F dL_law_241 rfl ?_
      obtain ⟨v81, hv81, h⟩ := bd_i h
      refine ge_callL0 F dL_law_242 (al_low hv81) lkL_51 okL_low rfl (Nat.le_of_ble_eq_true rfl) (by decide) ?_
      refine ge_istore F dL_law_245 (by decide) (by decide) ?_
      refine ge_aload_n F dL_law_247 rfl ?_
      refine ge_iload F dL_law_248 rfl ?_
      refine ge_iload F dL_law_250 rfl ?_
      refine ge_call F dL_law_252 (ac_chips _ _) lkL_15 okX8_chips rfl rfl (Nat.le_of_ble_eq_true rfl) (by decide) ?_
      refine ge_istore F dL_law_255 (by decide) (by decide) ?_
      refine ge_iload F dL_law_257 rfl ?_
      refine ge_bipush (v := 64) F dL_law_259 (by decide) ?_
      refine ge_iand F dL_law_261 ?_
      refine ge_if_ne (tgt := 277) F dL_law_262 (by decide) (fun c82 => ?_) (fun c82 => ?_)
      · have h := if_t c82 h
        refine ge_iload F dL_law_277 rfl ?_
        refine ge_bipush (v := 7) F dL_law_279 (by decide) ?_
        refine ge_ishr F dL_law_281 ?_
        refine ge_bipush (v := 100) F dL_law_282 (by decide) ?_
        obtain ⟨v83, hv83, h⟩ := bd_i h
        refine ge_callL0 F dL_law_284 (al_low hv83) lkL_51 okL_low rfl (Nat.le_of_ble_eq_true rfl) (by decide) ?_
        exact GE.weak (by exact ⟨rfl, ⟨rfl, ⟨rfl, ⟨rfl, ⟨rfl, ⟨rfl, ⟨rfl, ⟨rfl, trivial⟩⟩⟩⟩⟩⟩⟩⟩) (lL_law_J287 F HS hend (fun y0 y1 y2 h => hbk y0 y1 y2 h) hct h)
      · have h := if_f (not_not_intro c82) h
        refine ge_iload F dL_law_265 rfl ?_
        refine ge_bipush (v := 7) F dL_law_267 (by decide) ?_
        refine ge_ishr F dL_law_269 ?_
        refine ge_iconst (v := 4) F dL_law_270 (by decide) ?_
        obtain ⟨v87, hv87, h⟩ := bd_i h
        refine ge_callL0 F dL_law_271 (al_low hv87) lkL_51 okL_low rfl (Nat.le_of_ble_eq_true rfl) (by decide) ?_
        refine ge_goto (tgt := 287) F dL_law_274 (by decide) ?_
        exact GE.weak (by exact ⟨rfl, ⟨rfl, ⟨rfl, ⟨rfl, ⟨rfl, ⟨rfl, ⟨rfl, ⟨rfl, trivial⟩⟩⟩⟩⟩⟩⟩⟩) (lL_law_J287 F HS hend (fun y0 y1 y2 h => hbk y0 y1 y2 h) hct h)
  · have h := if_f (not_not_intro c14) h
    refine ge_aload_n F dL_law_154 rfl ?_
    refine ge_iload F dL_law_155 rfl ?_
    refine ge_iload_n F dL_law_157 rfl ?_
    obtain ⟨v88, hv88, h⟩ := bd_i h
    refine ge_callL0 F dL_law_158 (al_low hv88) lkL_51 okL_low rfl (Nat.le_of_ble_eq_true rfl) (by decide) ?_
    refine ge_iload F dL_law_161 rfl ?_
    refine ge_iload_n F dL_law_163 rfl ?_
    obtain ⟨v89, hv89, h⟩ := bd_i h
    refine ge_callL0 F dL_law_164 (al_low hv89) lkL_51 okL_low rfl (Nat.le_of_ble_eq_true rfl) (by decide) ?_
    refine ge_iload F dL_law_167 rfl ?_
    refine ge_iconst (v := 3) F dL_law_169 (by decide) ?_
    refine ge_ishr F dL_law_170 ?_
    refine ge_iconst (v := 4) F dL_law_171 (by decide) ?_
    obtain ⟨v90, hv90, h⟩ := bd_i h
    refine ge_callL0 F dL_law_172 (al_low hv90) lkL_51 okL_low rfl (Nat.le_of_ble_eq_true rfl) (by decide) ?_
    refine ge_iload F dL_law_175 rfl ?_
    refine ge_iconst (v := 5) F dL_law_177 (by decide) ?_
    refine ge_ishr F dL_law_178 ?_
    refine ge_iconst (v := 3) F dL_law_179 (by decide) ?_
    obtain ⟨v91, hv91, h⟩ := bd_i h
    refine ge_callL0 F dL_law_180 (al_low hv91) lkL_51 okL_low rfl (Nat.le_of_ble_eq_true rfl) (by decide) ?_
    refine ge_iconst (v := 1) F dL_law_183 (by decide) ?_
    refine ge_iload F dL_law_184 rfl ?_
    refine ge_bipush (v := 8) F dL_law_186 (by decide) ?_
    refine ge_ishr F dL_law_188 ?_
    refine ge_bipush (v := 9) F dL_law_189 (by decide) ?_
    obtain ⟨v92, hv92, h⟩ := bd_i h
    refine ge_callL0 F dL_law_191 (al_low hv92) lkL_51 okL_low rfl (Nat.le_of_ble_eq_true rfl) (by decide) ?_
    refine ge_iadd F dL_law_194 ?_
    have h := bd_s h
    refine ge_call F dL_law_195 (ac_addWalker _ _ _ _ _) lkL_77 okX8_addWalker rfl rfl (Nat.le_of_ble_eq_true rfl) (by decide) ?_
    refine ge_iload F dL_law_198 rfl ?_
    refine ge_bipush (v := 8) F dL_law_200 (by decide) ?_
    refine ge_icmp_ne (tgt := 210) F dL_law_202 (by decide) (fun c94 => ?_) (fun c94 => ?_)
    · have h := if_t c94 h
      refine ge_iload F dL_law_210 rfl ?_
      exact GE.weak (by exact ⟨rfl, ⟨rfl, ⟨rfl, ⟨rfl, ⟨rfl, trivial⟩⟩⟩⟩⟩) (lL_law_J212 F HS hend (fun y0 y1 y2 h => hbk y0 y1 y2 h) hct h)
    · have h := if_f (not_not_intro c94) h
      refine ge_bipush (v := (-3)) F dL_law_205 (by decide) ?_
      refine ge_goto (tgt := 212) F dL_law_207 (by decide) ?_
      exact GE.weak (by exact ⟨rfl, ⟨rfl, ⟨rfl, ⟨rfl, ⟨rfl, trivial⟩⟩⟩⟩⟩) (lL_law_J212 F HS hend (fun y0 y1 y2 h => hbk y0 y1 y2 h) hct h)
set_option maxRecDepth 100000 in
set_option maxHeartbeats 4000000 in
theorem lL_law_J113 {b0 L : Nat} {xs : Nat → Int32} {X : Cx} {k : Nat} {r : Int32} (F : Fx X RL cL_law 16 10 600000 7302250) (HS : SY X b0 L xs) (hend : ∀ (c pc : Nat) {lv : List (Option AV)} {A : AbS}, decode cL_law pc = .ok (.ireturn, 1) → GE b0 X c pc lv [.inl r] A) {A : AbS} {x2 : Int32} {x3 : Int32} {x4 : Int32} {x5 : Int32} {x6 : Int32} {x7 : Int32} {s0 : Int32} {bk : Int32 → Int32 → AbS → Option Int32} {ct : AbS → Option Int32} (hbk : ∀ (y4 : Int32) (y5 : Int32) (A : AbS), bk y4 y5 A = some r → GE b0 X k 64 [none, some (.inr (some 0)), some (.inl x2), some (.inl x3), some (.inl y4), some (.inl y5), none, none, none, none, none, none, none, none, none, none] [] A) (hct : ∀  (A : AbS) (c : Nat), ct  A = some r → GE b0 X c 918 [none, some (.inr (some 0)), none, none, none, none, none, none, none, none, none, none, none, none, none, none] [] A) (h : hL_law_J113 bk ct (clF L xs) A x2 x3 x4 x5 x6 x7 s0 = some r) : GE b0 X (k + 1) 113 [none, some (.inr (some 0)), some (.inl x2), some (.inl x3), some (.inl x4), some (.inl x5), some (.inl x6), some (.inl x7), none, none, none, none, none, none, none, none] [.inl s0] A := by
  unfold hL_law_J113 at h
  refine ge_istore F dL_law_113 (by decide) (by decide) ?_
  refine ge_iload F dL_law_115 rfl ?_
  refine ge_iconst (v := 4) F dL_law_117 (by decide) ?_
  refine ge_ishr F dL_law_118 ?_
  refine ge_istore F dL_law_119 (by decide) (by decide) ?_
  refine ge_aload_n F dL_law_121 rfl ?_
  refine ge_iconst (v := 2) F dL_law_122 (by decide) ?_
  refine ge_call F dL_law_123 (ac_count _) lkL_9 okX8_count rfl rfl (Nat.le_of_ble_eq_true rfl) (by decide) ?_
  refine ge_istore F dL_law_126 (by decide) (by decide) ?_
  refine ge_iload F dL_law_128 rfl ?_
  refine ge_if_ne (tgt := 137) F dL_law_130 (by decide) (fun c12 => ?_) (fun c12 => ?_)
  · have h := if_t c12 h
    refine ge_iload F dL_law_137 rfl ?_
    refine ge_iload F dL_law_139 rfl ?_
    obtain ⟨v13, hv13, h⟩ := bd_i h
    refine ge_callL0 F dL_law_141 (al_low hv13) lkL_51 okL_low rfl (Nat.le_of_ble_eq_true rfl) (by decide) ?_
    exact GE.weak (by exact ⟨rfl, ⟨rfl, ⟨rfl, ⟨rfl, ⟨rfl, ⟨rfl, ⟨rfl, ⟨rfl, ⟨rfl, trivial⟩⟩⟩⟩⟩⟩⟩⟩⟩) (lL_law_J144 F HS hend (fun y0 y1 y2 h => hbk y0 y1 y2 h) hct h)
  · have h := if_f (not_not_intro c12) h
    refine ge_iconst (v := 0) F dL_law_133 (by decide) ?_
    refine ge_goto (tgt := 144) F dL_law_134 (by decide) ?_
    exact GE.weak (by exact ⟨rfl, ⟨rfl, ⟨rfl, ⟨rfl, ⟨rfl, ⟨rfl, ⟨rfl, ⟨rfl, ⟨rfl, trivial⟩⟩⟩⟩⟩⟩⟩⟩⟩) (lL_law_J144 F HS hend (fun y0 y1 y2 h => hbk y0 y1 y2 h) hct h)
set_option maxRecDepth 100000 in
set_option maxHeartbeats 4000000 in
theorem lL_law_L64 {b0 L : Nat} {xs : Nat → Int32} {X : Cx} {r : Int32} (F : Fx X RL cL_law 16 10 600000 7302250) (HS : SY X b0 L xs) (hend : ∀ (c pc : Nat) {lv : List (Option AV)} {A : AbS}, decode cL_law pc = .ok (.ireturn, 1) → GE b0 X c pc lv [.inl r] A) {x2 : Int32} {x3 : Int32} {ct : AbS → Option Int32} (hct : ∀  (A : AbS) (c : Nat), ct  A = some r → GE b0 X c 918 [none, some (.inr (some 0)), none, none, none, none, none, none, none, none, none, none, none, none, none, none] [] A) : ∀ (k : Nat) (x4 : Int32) (x5 : Int32) (A : AbS), hL_law_L64 k ct x2 x3 (clF L xs) x4 x5 A = some r → GE b0 X k 64 [none, some (.inr (some 0)), some (.inl x2), some (.inl x3), some (.inl x4), some (.inl x5), none, none, none, none, none, none, none, none, none, none] [] A := by
  intro k
  induction k with
  | zero =>
    intro x4 x5 A h
    cases h
  | succ k ih =>
    intro x4 x5 A h
    rw [hL_law_L64] at h
    refine ge_iload F dL_law_64 rfl ?_
    refine ge_bipush (v := 40) F dL_law_66 (by decide) ?_
    refine ge_icmp_ge (tgt := 918) F dL_law_68 (by decide) (fun c7 => ?_) (fun c7 => ?_)
    · have h := if_t c7 h
      exact GE.weak (by exact ⟨rfl, trivial⟩) (hct _ _ h)
    · have h := if_f c7 h
      obtain ⟨hc8, h⟩ := ck_s h
      refine ge_cell2 (k := 2) F HS (of_decide_eq_true hc8) (by decide) rfl dL_law_71 dL_law_72 dL_law_73 dL_law_74 dL_law_76 dL_law_77 dL_law_78 (Nat.le_of_ble_eq_true rfl) ?_
      refine ge_istore F dL_law_81 (by decide) (by decide) ?_
      obtain ⟨hc9, h⟩ := ck_s h
      refine ge_cell2 (k := 3) F HS (of_decide_eq_true hc9) (by decide) rfl dL_law_83 dL_law_84 dL_law_85 dL_law_86 dL_law_88 dL_law_89 dL_law_90 (Nat.le_of_ble_eq_true rfl) ?_
      refine ge_istore F dL_law_93 (by decide) (by decide) ?_
      refine ge_iload F dL_law_95 rfl ?_
      refine ge_iconst (v := 3) F dL_law_97 (by decide) ?_
      refine ge_icmp_ge (tgt := 106) F dL_law_98 (by decide) (fun c10 => ?_) (fun c10 => ?_)
      · have h := if_t c10 h
        refine ge_iload F dL_law_106 rfl ?_
        refine ge_bipush (v := 13) F dL_law_108 (by decide) ?_
        obtain ⟨v11, hv11, h⟩ := bd_i h
        refine ge_callL0 F dL_law_110 (al_low hv11) lkL_51 okL_low rfl (Nat.le_of_ble_eq_true rfl) (by decide) ?_
        exact GE.weak (by exact ⟨rfl, ⟨rfl, ⟨rfl, ⟨rfl, ⟨rfl, ⟨rfl, ⟨rfl, trivial⟩⟩⟩⟩⟩⟩⟩) (lL_law_J113 F HS hend (fun y0 y1 y2 h => ih y0 y1 y2 h) hct h)
      · have h := if_f c10 h
        refine ge_iload F dL_law_101 rfl ?_
        refine ge_goto (tgt := 113) F dL_law_103 (by decide) ?_
        exact GE.weak (by exact ⟨rfl, ⟨rfl, ⟨rfl, ⟨rfl, ⟨rfl, ⟨rfl, ⟨rfl, trivial⟩⟩⟩⟩⟩⟩⟩) (lL_law_J113 F HS hend (fun y0 y1 y2 h => ih y0 y1 y2 h) hct h)
set_option maxRecDepth 100000 in
set_option maxHeartbeats 4000000 in
theorem bL_law {b0 L : Nat} {xs : Nat → Int32} {X : Cx} {r : Int32} (F : Fx X RL cL_law 16 10 600000 7302250) (HS : SY X b0 L xs) (hend : ∀ (c pc : Nat) {lv : List (Option AV)} {A : AbS}, decode cL_law pc = .ok (.ireturn, 1) → GE b0 X c pc lv [.inl r] A) {A : AbS} (h : hL_law (clF L xs) A = some r) : GE b0 X 2000 8 [none, some (.inr (some 0)), none, none, none, none, none, none, none, none, none, none, none, none, none, none] [] A := by
  unfold hL_law at h
  refine ge_iconst (v := 2) F dL_law_8 (by decide) ?_
  refine ge_cell1 (k := 0) F HS (by decide) (by decide) dL_law_9 dL_law_10 dL_law_11 (Nat.le_of_ble_eq_true rfl) ?_
  refine ge_bipush (v := 6) F dL_law_14 (by decide) ?_
  obtain ⟨v1, hv1, h⟩ := bd_i h
  refine ge_callL0 F dL_law_16 (al_low hv1) lkL_51 okL_low rfl (Nat.le_of_ble_eq_true rfl) (by decide) ?_
  refine ge_iadd F dL_law_19 ?_
  refine ge_istore_n F dL_law_20 (by decide) (by decide) ?_
  refine ge_iconst (v := 2) F dL_law_21 (by decide) ?_
  refine ge_cell1 (k := 1) F HS (by decide) (by decide) dL_law_22 dL_law_23 dL_law_24 (Nat.le_of_ble_eq_true rfl) ?_
  refine ge_bipush (v := 6) F dL_law_27 (by decide) ?_
  obtain ⟨v2, hv2, h⟩ := bd_i h
  refine ge_callL0 F dL_law_29 (al_low hv2) lkL_51 okL_low rfl (Nat.le_of_ble_eq_true rfl) (by decide) ?_
  refine ge_iadd F dL_law_32 ?_
  refine ge_istore_n F dL_law_33 (by decide) (by decide) ?_
  refine ge_aload_n F dL_law_34 rfl ?_
  refine ge_iload_n F dL_law_35 rfl ?_
  refine ge_iload_n F dL_law_36 rfl ?_
  have h := bd_s h
  refine ge_call F dL_law_37 (ac_reset _ _) lkL_67 okX8_reset rfl rfl (Nat.le_of_ble_eq_true rfl) (by decide) ?_
  refine ge_iload_n F dL_law_40 rfl ?_
  refine ge_iload_n F dL_law_41 rfl ?_
  refine ge_imul F dL_law_42 ?_
  refine ge_icmp_ne (tgt := 56) F dL_law_43 (by decide) (fun c4 => ?_) (fun c4 => ?_)
  · have h := if_t c4 h
    refine ge_iconst (v := 0) F dL_law_56 (by decide) ?_
    have h := Option.some.inj h
    subst h
    exact hend _ _ dL_law_57
  · have h := if_f (not_not_intro c4) h
    refine ge_aload_n F dL_law_46 rfl ?_
    refine ge_iconst (v := 1) F dL_law_47 (by decide) ?_
    have h := bd_s h
    refine ge_call F dL_law_48 (ac_rounds _) lkL_64 okX8_rounds rfl rfl (Nat.le_of_ble_eq_true rfl) (by decide) ?_
    refine ge_bipush (v := (-5)) F dL_law_51 (by decide) ?_
    refine ge_icmp_eq (tgt := 58) F dL_law_53 (by decide) (fun c6 => ?_) (fun c6 => ?_)
    · have h := if_t c6 h
      refine ge_iconst (v := 0) F dL_law_58 (by decide) ?_
      refine ge_istore F dL_law_59 (by decide) (by decide) ?_
      refine ge_iconst (v := 0) F dL_law_61 (by decide) ?_
      refine ge_istore F dL_law_62 (by decide) (by decide) ?_
      refine GE.weak (by exact ⟨rfl, ⟨rfl, ⟨rfl, ⟨rfl, ⟨rfl, trivial⟩⟩⟩⟩⟩) (lL_law_L64 F HS hend (fun A96 c h => ?_) 2000 _ _ _ h)
      refine ge_aload_n F dL_law_918 rfl ?_
      obtain ⟨v97, hv97, h⟩ := bd_i h
      refine ge_callL0 F dL_law_919 (al_errors hv97) lkL_122 okL_errors rfl (Nat.le_of_ble_eq_true rfl) (by decide) ?_
      have h := Option.some.inj h
      subst h
      exact hend _ _ dL_law_922
    · have h := if_f c6 h
      refine ge_iconst (v := 0) F dL_law_56 (by decide) ?_
      have h := Option.some.inj h
      subst h
      exact hend _ _ dL_law_57
