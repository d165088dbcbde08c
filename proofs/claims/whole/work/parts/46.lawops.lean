/-! the law: one call of the script, from both, the same answer -/
theorem OpS.use {f : II → PP → Option (Int32 × II × PP)} {g : II → Option (Int32 × II)} (h : OpS f g) {A : AbS} {I : II} {P : PP} (hG : GI A) (hC : CI I P A) (hM : MI I A) : ∃ a I1 P1 J1 A', f I P = some (a, I1, P1) ∧ g I1 = some (a, J1) ∧ GI A' ∧ CI J1 P1 A' ∧ MI J1 A' := by
  obtain ⟨a, I1, P1, J1, A1, e1, -, -, -, -, f1, -⟩ := h A I P I hG hC hM
  obtain ⟨a', I1', P1', J2, A2, e1', e2', g1, g2, g3, -, f2⟩ := h A I P I1 hG hC (hM.fr f1)
  rw [e1] at e1'
  have e := Option.some.inj e1'
  obtain rfl : a = a' := congrArg Prod.fst e
  obtain rfl : I1 = I1' := congrArg (fun q => q.2.1) e
  obtain rfl : P1 = P1' := congrArg (fun q => q.2.2) e
  exact ⟨a, I1, P1, J2, A2, e1, e2', g1, g2.fr g1 f2, g3⟩
theorem bdS {α β : Type} {x : Option α} {F : α → Option β} {y : β} (h : x.bind F = some y) : ∃ r, x = some r ∧ F r = some y := by
  cases x with
  | none => cases h
  | some r => exact ⟨r, rfl, h⟩
def LInv (Ly : LL) (I : II) (P : PP) : Prop := ShC 149 Ly P ∧ ShM 149 Ly P ∧ ∃ A, GI A ∧ CI I P A ∧ MI I A
def lvL (i : Nat) : List (Option AV) := [none, some (.inr (some 0)), some (.inr (some 134)), some (.inl (nI i))]
theorem bCc (x : Int32) : bC ((x.toUInt32 % 65536).toInt32) = true := by
  refine decide_eq_true ?_
  show (((x.toUInt32 % 65536).toInt32).toUInt32 % 65536).toInt32 = _
  have h : ∀ u : UInt32, (u.toInt32).toUInt32 = u := fun _ => rfl
  rw [h]
  congr 1
  rw [← UInt32.toNat_inj, UInt32.toNat_mod, UInt32.toNat_mod]
  exact Nat.mod_mod _ _
section LAWOPS
variable {X : Cx} {b0 L i : Nat} {xs : Nat → Int32} {Ly : LL} {I : II} {P : PP}

set_option maxHeartbeats 4000000 in
theorem law_reset (F : Fx X RL cL_law 4 12 600000 7302250) (S : SX X b0 L xs) (hL : L ≤ 3072) (hi : i + 5 < L) (hI : LInv Ly I P) (next : ∀ I' P', LInv Ly I' P' → GL b0 X 4 149 8918 149 Ly 781 (lvL i) [] I' P') : GL b0 X 4 149 8918 149 Ly 140 (lvL i) [] I P := by
  obtain ⟨hs, hm, A, hG, hC, hM⟩ := hI
  obtain ⟨a, I1, P1, J1, A', e1, e2, g1, g2, g3⟩ := (op_reset (xs (i + 1)) (xs (i + 2))).use hG hC hM
  have hs1 : ShC 149 Ly P1 := ⟨hs.1, hs.2.1, g2.2.1.1.2.2.1⟩
  have hm1 : ShM 149 Ly P1 := ⟨hm.1, hm.2.1, g2.2.1.1.2.2.2⟩
  refine tL_aload_n F dL_law_140 rfl ?_
  refine tL_sk (j := 1) F S (by omega) hL rfl dL_law_141 dL_law_142 dL_law_143 rfl dL_law_144 dL_law_145 ?_
  refine tL_sk (j := 2) F S (by omega) hL rfl dL_law_146 dL_law_147 dL_law_148 rfl dL_law_149 dL_law_150 ?_
  refine tL_callV (ci := 8) (av := [.inl (xs (i + 1)), .inl (xs (i + 2))]) F dL_law_151 (fun l s0 D DA => c_X8_reset hs e1 l s0 D DA) lkL_13 okX8_reset (by omega) (ly0 hs) (by omega) rfl rfl (Nat.le_of_ble_eq_true rfl) (by decide) (by omega) (by omega) (fun _ _ _ _ _ h => h.2.1) (fun r n' Ly' I' P' hpo => ?_)
  obtain ⟨rfl, rfl, rfl, rfl, rfl⟩ := hpo
  refine tL_aload_n F dL_law_154 rfl ?_
  refine tL_sk (j := 1) F S (by omega) hL rfl dL_law_155 dL_law_156 dL_law_157 rfl dL_law_158 dL_law_159 ?_
  refine tL_sk (j := 2) F S (by omega) hL rfl dL_law_160 dL_law_161 dL_law_162 rfl dL_law_163 dL_law_164 ?_
  refine tL_callV (ci := 9) (av := [.inl (xs (i + 1)), .inl (xs (i + 2))]) F dL_law_165 (fun l s0 D DA => c_X9_reset hm1 e2 l s0 D DA) lkL_17 okX9_reset (by omega) (ly134 hm1) (by omega) rfl rfl (Nat.le_of_ble_eq_true rfl) (by decide) (by omega) (by omega) (fun _ _ _ _ _ h => h.2.1) (fun r n' Ly' I' P' hpo => ?_)
  obtain ⟨rfl, rfl, rfl, rfl, rfl⟩ := hpo
  exact tL_icmp_eq (tgt := 781) F dL_law_168 (by decide) (fun _ => next _ _ ⟨hs1, hm1, A', g1, g2, g3⟩) (fun c => absurd rfl c)
set_option maxHeartbeats 4000000 in
theorem law_put (F : Fx X RL cL_law 4 12 600000 7302250) (S : SX X b0 L xs) (hL : L ≤ 3072) (hi : i + 5 < L) (hI : LInv Ly I P) (next : ∀ I' P', LInv Ly I' P' → GL b0 X 4 149 8918 149 Ly 781 (lvL i) [] I' P') : GL b0 X 4 149 8918 149 Ly 173 (lvL i) [] I P := by
  obtain ⟨hs, hm, A, hG, hC, hM⟩ := hI
  obtain ⟨a, I1, P1, J1, A', e1, e2, g1, g2, g3⟩ := (op_put (xs (i + 1)) (xs (i + 2)) (xs (i + 3))).use hG hC hM
  have hs1 : ShC 149 Ly P1 := ⟨hs.1, hs.2.1, g2.2.1.1.2.2.1⟩
  have hm1 : ShM 149 Ly P1 := ⟨hm.1, hm.2.1, g2.2.1.1.2.2.2⟩
  refine tL_aload_n F dL_law_173 rfl ?_
  refine tL_sk (j := 1) F S (by omega) hL rfl dL_law_174 dL_law_175 dL_law_176 rfl dL_law_177 dL_law_178 ?_
  refine tL_sk (j := 2) F S (by omega) hL rfl dL_law_179 dL_law_180 dL_law_181 rfl dL_law_182 dL_law_183 ?_
  refine tL_sk (j := 3) F S (by omega) hL rfl dL_law_184 dL_law_185 dL_law_186 rfl dL_law_187 dL_law_188 ?_
  refine tL_callV (ci := 8) (av := [.inl (xs (i + 1)), .inl (xs (i + 2)), .inl (xs (i + 3))]) F dL_law_189 (fun l s0 D DA => c_X8_put hs e1 l s0 D DA) lkL_18 okX8_put (by omega) (ly0 hs) (by omega) rfl rfl (Nat.le_of_ble_eq_true rfl) (by decide) (by omega) (by omega) (fun _ _ _ _ _ h => h.2.1) (fun r n' Ly' I' P' hpo => ?_)
  obtain ⟨rfl, rfl, rfl, rfl, rfl⟩ := hpo
  refine tL_aload_n F dL_law_192 rfl ?_
  refine tL_sk (j := 1) F S (by omega) hL rfl dL_law_193 dL_law_194 dL_law_195 rfl dL_law_196 dL_law_197 ?_
  refine tL_sk (j := 2) F S (by omega) hL rfl dL_law_198 dL_law_199 dL_law_200 rfl dL_law_201 dL_law_202 ?_
  refine tL_sk (j := 3) F S (by omega) hL rfl dL_law_203 dL_law_204 dL_law_205 rfl dL_law_206 dL_law_207 ?_
  refine tL_callV (ci := 9) (av := [.inl (xs (i + 1)), .inl (xs (i + 2)), .inl (xs (i + 3))]) F dL_law_208 (fun l s0 D DA => c_X9_put hm1 e2 l s0 D DA) lkL_22 okX9_put (by omega) (ly134 hm1) (by omega) rfl rfl (Nat.le_of_ble_eq_true rfl) (by decide) (by omega) (by omega) (fun _ _ _ _ _ h => h.2.1) (fun r n' Ly' I' P' hpo => ?_)
  obtain ⟨rfl, rfl, rfl, rfl, rfl⟩ := hpo
  exact tL_icmp_eq (tgt := 781) F dL_law_211 (by decide) (fun _ => next _ _ ⟨hs1, hm1, A', g1, g2, g3⟩) (fun c => absurd rfl c)
set_option maxHeartbeats 4000000 in
theorem law_strew (F : Fx X RL cL_law 4 12 600000 7302250) (S : SX X b0 L xs) (hL : L ≤ 3072) (hi : i + 5 < L) (hI : LInv Ly I P) (next : ∀ I' P', LInv Ly I' P' → GL b0 X 4 149 8918 149 Ly 781 (lvL i) [] I' P') : GL b0 X 4 149 8918 149 Ly 216 (lvL i) [] I P := by
  obtain ⟨hs, hm, A, hG, hC, hM⟩ := hI
  obtain ⟨a, I1, P1, J1, A', e1, e2, g1, g2, g3⟩ := (op_strew (xs (i + 1)) (xs (i + 2)) (xs (i + 3))).use hG hC hM
  have hs1 : ShC 149 Ly P1 := ⟨hs.1, hs.2.1, g2.2.1.1.2.2.1⟩
  have hm1 : ShM 149 Ly P1 := ⟨hm.1, hm.2.1, g2.2.1.1.2.2.2⟩
  refine tL_aload_n F dL_law_216 rfl ?_
  refine tL_sk (j := 1) F S (by omega) hL rfl dL_law_217 dL_law_218 dL_law_219 rfl dL_law_220 dL_law_221 ?_
  refine tL_sk (j := 2) F S (by omega) hL rfl dL_law_222 dL_law_223 dL_law_224 rfl dL_law_225 dL_law_226 ?_
  refine tL_sk (j := 3) F S (by omega) hL rfl dL_law_227 dL_law_228 dL_law_229 rfl dL_law_230 dL_law_231 ?_
  refine tL_callV (ci := 8) (av := [.inl (xs (i + 1)), .inl (xs (i + 2)), .inl (xs (i + 3))]) F dL_law_232 (fun l s0 D DA => c_X8_strew hs e1 l s0 D DA) lkL_23 okX8_strew (by omega) (ly0 hs) (by omega) rfl rfl (Nat.le_of_ble_eq_true rfl) (by decide) (by omega) (by omega) (fun _ _ _ _ _ h => h.2.1) (fun r n' Ly' I' P' hpo => ?_)
  obtain ⟨rfl, rfl, rfl, rfl, rfl⟩ := hpo
  refine tL_aload_n F dL_law_235 rfl ?_
  refine tL_sk (j := 1) F S (by omega) hL rfl dL_law_236 dL_law_237 dL_law_238 rfl dL_law_239 dL_law_240 ?_
  refine tL_sk (j := 2) F S (by omega) hL rfl dL_law_241 dL_law_242 dL_law_243 rfl dL_law_244 dL_law_245 ?_
  refine tL_sk (j := 3) F S (by omega) hL rfl dL_law_246 dL_law_247 dL_law_248 rfl dL_law_249 dL_law_250 ?_
  refine tL_callV (ci := 9) (av := [.inl (xs (i + 1)), .inl (xs (i + 2)), .inl (xs (i + 3))]) F dL_law_251 (fun l s0 D DA => c_X9_strew hm1 e2 l s0 D DA) lkL_26 okX9_strew (by omega) (ly134 hm1) (by omega) rfl rfl (Nat.le_of_ble_eq_true rfl) (by decide) (by omega) (by omega) (fun _ _ _ _ _ h => h.2.1) (fun r n' Ly' I' P' hpo => ?_)
  obtain ⟨rfl, rfl, rfl, rfl, rfl⟩ := hpo
  exact tL_icmp_eq (tgt := 781) F dL_law_254 (by decide) (fun _ => next _ _ ⟨hs1, hm1, A', g1, g2, g3⟩) (fun c => absurd rfl c)
set_option maxHeartbeats 4000000 in
theorem law_addWalker (F : Fx X RL cL_law 4 12 600000 7302250) (S : SX X b0 L xs) (hL : L ≤ 3072) (hi : i + 5 < L) (hI : LInv Ly I P) (next : ∀ I' P', LInv Ly I' P' → GL b0 X 4 149 8918 149 Ly 781 (lvL i) [] I' P') : GL b0 X 4 149 8918 149 Ly 259 (lvL i) [] I P := by
  obtain ⟨hs, hm, A, hG, hC, hM⟩ := hI
  obtain ⟨a, I1, P1, J1, A', e1, e2, g1, g2, g3⟩ := (op_addWalker (xs (i + 1)) (xs (i + 2)) (xs (i + 3)) (xs (i + 4)) (xs (i + 5))).use hG hC hM
  have hs1 : ShC 149 Ly P1 := ⟨hs.1, hs.2.1, g2.2.1.1.2.2.1⟩
  have hm1 : ShM 149 Ly P1 := ⟨hm.1, hm.2.1, g2.2.1.1.2.2.2⟩
  refine tL_aload_n F dL_law_259 rfl ?_
  refine tL_sk (j := 1) F S (by omega) hL rfl dL_law_260 dL_law_261 dL_law_262 rfl dL_law_263 dL_law_264 ?_
  refine tL_sk (j := 2) F S (by omega) hL rfl dL_law_265 dL_law_266 dL_law_267 rfl dL_law_268 dL_law_269 ?_
  refine tL_sk (j := 3) F S (by omega) hL rfl dL_law_270 dL_law_271 dL_law_272 rfl dL_law_273 dL_law_274 ?_
  refine tL_sk (j := 4) F S (by omega) hL rfl dL_law_275 dL_law_276 dL_law_277 rfl dL_law_278 dL_law_279 ?_
  refine tL_sk (j := 5) F S (by omega) hL rfl dL_law_280 dL_law_281 dL_law_282 rfl dL_law_283 dL_law_284 ?_
  refine tL_callV (ci := 8) (av := [.inl (xs (i + 1)), .inl (xs (i + 2)), .inl (xs (i + 3)), .inl (xs (i + 4)), .inl (xs (i + 5))]) F dL_law_285 (fun l s0 D DA => c_X8_addWalker hs e1 l s0 D DA) lkL_27 okX8_addWalker (by omega) (ly0 hs) (by omega) rfl rfl (Nat.le_of_ble_eq_true rfl) (by decide) (by omega) (by omega) (fun _ _ _ _ _ h => h.2.1) (fun r n' Ly' I' P' hpo => ?_)
  obtain ⟨rfl, rfl, rfl, rfl, rfl⟩ := hpo
  refine tL_aload_n F dL_law_288 rfl ?_
  refine tL_sk (j := 1) F S (by omega) hL rfl dL_law_289 dL_law_290 dL_law_291 rfl dL_law_292 dL_law_293 ?_
  refine tL_sk (j := 2) F S (by omega) hL rfl dL_law_294 dL_law_295 dL_law_296 rfl dL_law_297 dL_law_298 ?_
  refine tL_sk (j := 3) F S (by omega) hL rfl dL_law_299 dL_law_300 dL_law_301 rfl dL_law_302 dL_law_303 ?_
  refine tL_sk (j := 4) F S (by omega) hL rfl dL_law_304 dL_law_305 dL_law_306 rfl dL_law_307 dL_law_308 ?_
  refine tL_sk (j := 5) F S (by omega) hL rfl dL_law_309 dL_law_310 dL_law_311 rfl dL_law_312 dL_law_313 ?_
  refine tL_callV (ci := 9) (av := [.inl (xs (i + 1)), .inl (xs (i + 2)), .inl (xs (i + 3)), .inl (xs (i + 4)), .inl (xs (i + 5))]) F dL_law_314 (fun l s0 D DA => c_X9_addWalker hm1 e2 l s0 D DA) lkL_31 okX9_addWalker (by omega) (ly134 hm1) (by omega) rfl rfl (Nat.le_of_ble_eq_true rfl) (by decide) (by omega) (by omega) (fun _ _ _ _ _ h => h.2.1) (fun r n' Ly' I' P' hpo => ?_)
  obtain ⟨rfl, rfl, rfl, rfl, rfl⟩ := hpo
  exact tL_icmp_eq (tgt := 781) F dL_law_317 (by decide) (fun _ => next _ _ ⟨hs1, hm1, A', g1, g2, g3⟩) (fun c => absurd rfl c)
set_option maxHeartbeats 4000000 in
theorem law_setSort (F : Fx X RL cL_law 4 12 600000 7302250) (S : SX X b0 L xs) (hL : L ≤ 3072) (hi : i + 5 < L) (hI : LInv Ly I P) (next : ∀ I' P', LInv Ly I' P' → GL b0 X 4 149 8918 149 Ly 781 (lvL i) [] I' P') : GL b0 X 4 149 8918 149 Ly 322 (lvL i) [] I P := by
  obtain ⟨hs, hm, A, hG, hC, hM⟩ := hI
  obtain ⟨a, I1, P1, J1, A', e1, e2, g1, g2, g3⟩ := (op_setSort (xs (i + 1)) (xs (i + 2))).use hG hC hM
  have hs1 : ShC 149 Ly P1 := ⟨hs.1, hs.2.1, g2.2.1.1.2.2.1⟩
  have hm1 : ShM 149 Ly P1 := ⟨hm.1, hm.2.1, g2.2.1.1.2.2.2⟩
  refine tL_aload_n F dL_law_322 rfl ?_
  refine tL_sk (j := 1) F S (by omega) hL rfl dL_law_323 dL_law_324 dL_law_325 rfl dL_law_326 dL_law_327 ?_
  refine tL_sk (j := 2) F S (by omega) hL rfl dL_law_328 dL_law_329 dL_law_330 rfl dL_law_331 dL_law_332 ?_
  refine tL_callV (ci := 8) (av := [.inl (xs (i + 1)), .inl (xs (i + 2))]) F dL_law_333 (fun l s0 D DA => c_X8_setSort hs e1 l s0 D DA) lkL_32 okX8_setSort (by omega) (ly0 hs) (by omega) rfl rfl (Nat.le_of_ble_eq_true rfl) (by decide) (by omega) (by omega) (fun _ _ _ _ _ h => h.2.1) (fun r n' Ly' I' P' hpo => ?_)
  obtain ⟨rfl, rfl, rfl, rfl, rfl⟩ := hpo
  refine tL_aload_n F dL_law_336 rfl ?_
  refine tL_sk (j := 1) F S (by omega) hL rfl dL_law_337 dL_law_338 dL_law_339 rfl dL_law_340 dL_law_341 ?_
  refine tL_sk (j := 2) F S (by omega) hL rfl dL_law_342 dL_law_343 dL_law_344 rfl dL_law_345 dL_law_346 ?_
  refine tL_callV (ci := 9) (av := [.inl (xs (i + 1)), .inl (xs (i + 2))]) F dL_law_347 (fun l s0 D DA => c_X9_setSort hm1 e2 l s0 D DA) lkL_35 okX9_setSort (by omega) (ly134 hm1) (by omega) rfl rfl (Nat.le_of_ble_eq_true rfl) (by decide) (by omega) (by omega) (fun _ _ _ _ _ h => h.2.1) (fun r n' Ly' I' P' hpo => ?_)
  obtain ⟨rfl, rfl, rfl, rfl, rfl⟩ := hpo
  exact tL_icmp_eq (tgt := 781) F dL_law_350 (by decide) (fun _ => next _ _ ⟨hs1, hm1, A', g1, g2, g3⟩) (fun c => absurd rfl c)
set_option maxHeartbeats 4000000 in
theorem law_empty (F : Fx X RL cL_law 4 12 600000 7302250) (S : SX X b0 L xs) (hL : L ≤ 3072) (hi : i + 5 < L) (hI : LInv Ly I P) (next : ∀ I' P', LInv Ly I' P' → GL b0 X 4 149 8918 149 Ly 781 (lvL i) [] I' P') : GL b0 X 4 149 8918 149 Ly 355 (lvL i) [] I P := by
  obtain ⟨hs, hm, A, hG, hC, hM⟩ := hI
  obtain ⟨a, I1, P1, J1, A', e1, e2, g1, g2, g3⟩ := (op_empty (xs (i + 1))).use hG hC hM
  have hs1 : ShC 149 Ly P1 := ⟨hs.1, hs.2.1, g2.2.1.1.2.2.1⟩
  have hm1 : ShM 149 Ly P1 := ⟨hm.1, hm.2.1, g2.2.1.1.2.2.2⟩
  refine tL_aload_n F dL_law_355 rfl ?_
  refine tL_sk (j := 1) F S (by omega) hL rfl dL_law_356 dL_law_357 dL_law_358 rfl dL_law_359 dL_law_360 ?_
  refine tL_callV (ci := 8) (av := [.inl (xs (i + 1))]) F dL_law_361 (fun l s0 D DA => c_X8_empty hs e1 l s0 D DA) lkL_36 okX8_empty (by omega) (ly0 hs) (by omega) rfl rfl (Nat.le_of_ble_eq_true rfl) (by decide) (by omega) (by omega) (fun _ _ _ _ _ h => h.2.1) (fun r n' Ly' I' P' hpo => ?_)
  obtain ⟨rfl, rfl, rfl, rfl, rfl⟩ := hpo
  refine tL_aload_n F dL_law_364 rfl ?_
  refine tL_sk (j := 1) F S (by omega) hL rfl dL_law_365 dL_law_366 dL_law_367 rfl dL_law_368 dL_law_369 ?_
  refine tL_callV (ci := 9) (av := [.inl (xs (i + 1))]) F dL_law_370 (fun l s0 D DA => c_X9_empty hm1 e2 l s0 D DA) lkL_40 okX9_empty (by omega) (ly134 hm1) (by omega) rfl rfl (Nat.le_of_ble_eq_true rfl) (by decide) (by omega) (by omega) (fun _ _ _ _ _ h => h.2.1) (fun r n' Ly' I' P' hpo => ?_)
  obtain ⟨rfl, rfl, rfl, rfl, rfl⟩ := hpo
  exact tL_icmp_eq (tgt := 781) F dL_law_373 (by decide) (fun _ => next _ _ ⟨hs1, hm1, A', g1, g2, g3⟩) (fun c => absurd rfl c)
set_option maxHeartbeats 4000000 in
theorem law_addTurn (F : Fx X RL cL_law 4 12 600000 7302250) (S : SX X b0 L xs) (hL : L ≤ 3072) (hi : i + 5 < L) (hI : LInv Ly I P) (next : ∀ I' P', LInv Ly I' P' → GL b0 X 4 149 8918 149 Ly 781 (lvL i) [] I' P') : GL b0 X 4 149 8918 149 Ly 378 (lvL i) [] I P := by
  obtain ⟨hs, hm, A, hG, hC, hM⟩ := hI
  obtain ⟨a, I1, P1, J1, A', e1, e2, g1, g2, g3⟩ := (op_addTurn (xs (i + 1))).use hG hC hM
  have hs1 : ShC 149 Ly P1 := ⟨hs.1, hs.2.1, g2.2.1.1.2.2.1⟩
  have hm1 : ShM 149 Ly P1 := ⟨hm.1, hm.2.1, g2.2.1.1.2.2.2⟩
  refine tL_aload_n F dL_law_378 rfl ?_
  refine tL_sk (j := 1) F S (by omega) hL rfl dL_law_379 dL_law_380 dL_law_381 rfl dL_law_382 dL_law_383 ?_
  refine tL_callV (ci := 8) (av := [.inl (xs (i + 1))]) F dL_law_384 (fun l s0 D DA => c_X8_addTurn hs e1 l s0 D DA) lkL_41 okX8_addTurn (by omega) (ly0 hs) (by omega) rfl rfl (Nat.le_of_ble_eq_true rfl) (by decide) (by omega) (by omega) (fun _ _ _ _ _ h => h.2.1) (fun r n' Ly' I' P' hpo => ?_)
  obtain ⟨rfl, rfl, rfl, rfl, rfl⟩ := hpo
  refine tL_aload_n F dL_law_387 rfl ?_
  refine tL_sk (j := 1) F S (by omega) hL rfl dL_law_388 dL_law_389 dL_law_390 rfl dL_law_391 dL_law_392 ?_
  refine tL_callV (ci := 9) (av := [.inl (xs (i + 1))]) F dL_law_393 (fun l s0 D DA => c_X9_addTurn hm1 e2 l s0 D DA) lkL_44 okX9_addTurn (by omega) (ly134 hm1) (by omega) rfl rfl (Nat.le_of_ble_eq_true rfl) (by decide) (by omega) (by omega) (fun _ _ _ _ _ h => h.2.1) (fun r n' Ly' I' P' hpo => ?_)
  obtain ⟨rfl, rfl, rfl, rfl, rfl⟩ := hpo
  exact tL_icmp_eq (tgt := 781) F dL_law_396 (by decide) (fun _ => next _ _ ⟨hs1, hm1, A', g1, g2, g3⟩) (fun c => absurd rfl c)
set_option maxHeartbeats 4000000 in
theorem law_clearTurns (F : Fx X RL cL_law 4 12 600000 7302250) (S : SX X b0 L xs) (hL : L ≤ 3072) (hi : i + 5 < L) (hI : LInv Ly I P) (next : ∀ I' P', LInv Ly I' P' → GL b0 X 4 149 8918 149 Ly 781 (lvL i) [] I' P') : GL b0 X 4 149 8918 149 Ly 401 (lvL i) [] I P := by
  obtain ⟨hs, hm, A, hG, hC, hM⟩ := hI
  obtain ⟨a, I1, P1, J1, A', e1, e2, g1, g2, g3⟩ := (op_clearTurns).use hG hC hM
  have hs1 : ShC 149 Ly P1 := ⟨hs.1, hs.2.1, g2.2.1.1.2.2.1⟩
  have hm1 : ShM 149 Ly P1 := ⟨hm.1, hm.2.1, g2.2.1.1.2.2.2⟩
  refine tL_aload_n F dL_law_401 rfl ?_
  refine tL_callV (ci := 8) (av := []) F dL_law_402 (fun l s0 D DA => c_X8_clearTurns hs e1 l s0 D DA) lkL_45 okX8_clearTurns (by omega) (ly0 hs) (by omega) rfl rfl (Nat.le_of_ble_eq_true rfl) (by decide) (by omega) (by omega) (fun _ _ _ _ _ h => h.2.1) (fun r n' Ly' I' P' hpo => ?_)
  obtain ⟨rfl, rfl, rfl, rfl, rfl⟩ := hpo
  refine tL_aload_n F dL_law_405 rfl ?_
  refine tL_callV (ci := 9) (av := []) F dL_law_406 (fun l s0 D DA => c_X9_clearTurns hm1 e2 l s0 D DA) lkL_49 okX9_clearTurns (by omega) (ly134 hm1) (by omega) rfl rfl (Nat.le_of_ble_eq_true rfl) (by decide) (by omega) (by omega) (fun _ _ _ _ _ h => h.2.1) (fun r n' Ly' I' P' hpo => ?_)
  obtain ⟨rfl, rfl, rfl, rfl, rfl⟩ := hpo
  exact tL_icmp_eq (tgt := 781) F dL_law_409 (by decide) (fun _ => next _ _ ⟨hs1, hm1, A', g1, g2, g3⟩) (fun c => absurd rfl c)
set_option maxHeartbeats 4000000 in
theorem law_walk (F : Fx X RL cL_law 4 12 600000 7302250) (S : SX X b0 L xs) (hL : L ≤ 3072) (hi : i + 5 < L) (hI : LInv Ly I P) (next : ∀ I' P', LInv Ly I' P' → GL b0 X 4 149 8918 149 Ly 781 (lvL i) [] I' P') : GL b0 X 4 149 8918 149 Ly 414 (lvL i) [] I P := by
  obtain ⟨hs, hm, A, hG, hC, hM⟩ := hI
  obtain ⟨a, I1, P1, J1, A', e1, e2, g1, g2, g3⟩ := (op_walk (xs (i + 1)) (xs (i + 2))).use hG hC hM
  have hs1 : ShC 149 Ly P1 := ⟨hs.1, hs.2.1, g2.2.1.1.2.2.1⟩
  have hm1 : ShM 149 Ly P1 := ⟨hm.1, hm.2.1, g2.2.1.1.2.2.2⟩
  refine tL_aload_n F dL_law_414 rfl ?_
  refine tL_sk (j := 1) F S (by omega) hL rfl dL_law_415 dL_law_416 dL_law_417 rfl dL_law_418 dL_law_419 ?_
  refine tL_sk (j := 2) F S (by omega) hL rfl dL_law_420 dL_law_421 dL_law_422 rfl dL_law_423 dL_law_424 ?_
  refine tL_callV (ci := 8) (av := [.inl (xs (i + 1)), .inl (xs (i + 2))]) F dL_law_425 (fun l s0 D DA => c_X8_walk hs e1 l s0 D DA) lkL_50 okX8_walk (by omega) (ly0 hs) (by omega) rfl rfl (Nat.le_of_ble_eq_true rfl) (by decide) (by omega) (by omega) (fun _ _ _ _ _ h => h.2.1) (fun r n' Ly' I' P' hpo => ?_)
  obtain ⟨rfl, rfl, rfl, rfl, rfl⟩ := hpo
  refine tL_aload_n F dL_law_428 rfl ?_
  refine tL_sk (j := 1) F S (by omega) hL rfl dL_law_429 dL_law_430 dL_law_431 rfl dL_law_432 dL_law_433 ?_
  refine tL_sk (j := 2) F S (by omega) hL rfl dL_law_434 dL_law_435 dL_law_436 rfl dL_law_437 dL_law_438 ?_
  refine tL_callV (ci := 9) (av := [.inl (xs (i + 1)), .inl (xs (i + 2))]) F dL_law_439 (fun l s0 D DA => c_X9_walk hm1 e2 l s0 D DA) lkL_53 okX9_walk (by omega) (ly134 hm1) (by omega) rfl rfl (Nat.le_of_ble_eq_true rfl) (by decide) (by omega) (by omega) (fun _ _ _ _ _ h => h.2.1) (fun r n' Ly' I' P' hpo => ?_)
  obtain ⟨rfl, rfl, rfl, rfl, rfl⟩ := hpo
  exact tL_icmp_eq (tgt := 781) F dL_law_442 (by decide) (fun _ => next _ _ ⟨hs1, hm1, A', g1, g2, g3⟩) (fun c => absurd rfl c)
set_option maxHeartbeats 4000000 in
theorem law_rounds (F : Fx X RL cL_law 4 12 600000 7302250) (S : SX X b0 L xs) (hL : L ≤ 3072) (hi : i + 5 < L) (hI : LInv Ly I P) (next : ∀ I' P', LInv Ly I' P' → GL b0 X 4 149 8918 149 Ly 781 (lvL i) [] I' P') : GL b0 X 4 149 8918 149 Ly 447 (lvL i) [] I P := by
  obtain ⟨hs, hm, A, hG, hC, hM⟩ := hI
  obtain ⟨a, I1, P1, J1, A', e1, e2, g1, g2, g3⟩ := (op_rounds (xs (i + 1))).use hG hC hM
  have hs1 : ShC 149 Ly P1 := ⟨hs.1, hs.2.1, g2.2.1.1.2.2.1⟩
  have hm1 : ShM 149 Ly P1 := ⟨hm.1, hm.2.1, g2.2.1.1.2.2.2⟩
  refine tL_aload_n F dL_law_447 rfl ?_
  refine tL_sk (j := 1) F S (by omega) hL rfl dL_law_448 dL_law_449 dL_law_450 rfl dL_law_451 dL_law_452 ?_
  refine tL_callV (ci := 8) (av := [.inl (xs (i + 1))]) F dL_law_453 (fun l s0 D DA => c_X8_rounds hs e1 l s0 D DA) lkL_54 okX8_rounds (by omega) (ly0 hs) (by omega) rfl rfl (Nat.le_of_ble_eq_true rfl) (by decide) (by omega) (by omega) (fun _ _ _ _ _ h => h.2.1) (fun r n' Ly' I' P' hpo => ?_)
  obtain ⟨rfl, rfl, rfl, rfl, rfl⟩ := hpo
  refine tL_aload_n F dL_law_456 rfl ?_
  refine tL_sk (j := 1) F S (by omega) hL rfl dL_law_457 dL_law_458 dL_law_459 rfl dL_law_460 dL_law_461 ?_
  refine tL_callV (ci := 9) (av := [.inl (xs (i + 1))]) F dL_law_462 (fun l s0 D DA => c_X9_rounds hm1 e2 l s0 D DA) lkL_57 okX9_rounds (by omega) (ly134 hm1) (by omega) rfl rfl (Nat.le_of_ble_eq_true rfl) (by decide) (by omega) (by omega) (fun _ _ _ _ _ h => h.2.1) (fun r n' Ly' I' P' hpo => ?_)
  obtain ⟨rfl, rfl, rfl, rfl, rfl⟩ := hpo
  exact tL_icmp_eq (tgt := 781) F dL_law_465 (by decide) (fun _ => next _ _ ⟨hs1, hm1, A', g1, g2, g3⟩) (fun c => absurd rfl c)
set_option maxHeartbeats 4000000 in
theorem law_type (F : Fx X RL cL_law 4 12 600000 7302250) (S : SX X b0 L xs) (hL : L ≤ 3072) (hi : i + 5 < L) (hI : LInv Ly I P) (next : ∀ I' P', LInv Ly I' P' → GL b0 X 4 149 8918 149 Ly 781 (lvL i) [] I' P') : GL b0 X 4 149 8918 149 Ly 470 (lvL i) [] I P := by
  obtain ⟨hs, hm, A, hG, hC, hM⟩ := hI
  obtain ⟨a, I1, P1, J1, A', e1, e2, g1, g2, g3⟩ := (op_type (((xs (i + 1)).toUInt32 % 65536).toInt32) (bCc _)).use hG hC hM
  have hs1 : ShC 149 Ly P1 := ⟨hs.1, hs.2.1, g2.2.1.1.2.2.1⟩
  have hm1 : ShM 149 Ly P1 := ⟨hm.1, hm.2.1, g2.2.1.1.2.2.2⟩
  obtain ⟨⟨z1, z2⟩, c1, ez⟩ := bdS e1
  obtain ⟨rfl, rfl, rfl⟩ : z1 = a ∧ z2 = I1 ∧ P = P1 := by
    have q := Option.some.inj ez
    exact ⟨congrArg Prod.fst q, congrArg (fun q => q.2.1) q, congrArg (fun q => q.2.2) q⟩
  refine tL_aload_n F dL_law_470 rfl ?_
  refine tL_sk (j := 1) F S (by omega) hL rfl dL_law_471 dL_law_472 dL_law_473 rfl dL_law_474 dL_law_475 ?_
  refine tL_i2c F dL_law_476 ?_
  refine tL_callV (ci := 8) (av := [.inl (((xs (i + 1)).toUInt32 % 65536).toInt32)]) F dL_law_477 (fun l s0 D DA => c_X8_type hs c1 l s0 D DA) lkL_58 okX8_type (by omega) (ly0 hs) (by omega) rfl rfl (Nat.le_of_ble_eq_true rfl) (by decide) (by omega) (by omega) (fun _ _ _ _ _ h => h.2.1) (fun r n' Ly' I' P' hpo => ?_)
  obtain ⟨rfl, rfl, rfl, rfl, rfl⟩ := hpo
  refine tL_aload_n F dL_law_480 rfl ?_
  refine tL_sk (j := 1) F S (by omega) hL rfl dL_law_481 dL_law_482 dL_law_483 rfl dL_law_484 dL_law_485 ?_
  refine tL_i2c F dL_law_486 ?_
  refine tL_callV (ci := 9) (av := [.inl (((xs (i + 1)).toUInt32 % 65536).toInt32)]) F dL_law_487 (fun l s0 D DA => c_X9_type hm1 e2 l s0 D DA) lkL_62 okX9_type (by omega) (ly134 hm1) (by omega) rfl rfl (Nat.le_of_ble_eq_true rfl) (by decide) (by omega) (by omega) (fun _ _ _ _ _ h => h.2.1) (fun r n' Ly' I' P' hpo => ?_)
  obtain ⟨rfl, rfl, rfl, rfl, rfl⟩ := hpo
  exact tL_icmp_eq (tgt := 781) F dL_law_490 (by decide) (fun _ => next _ _ ⟨hs1, hm1, A', g1, g2, g3⟩) (fun c => absurd rfl c)
set_option maxHeartbeats 4000000 in
theorem law_clearText (F : Fx X RL cL_law 4 12 600000 7302250) (S : SX X b0 L xs) (hL : L ≤ 3072) (hi : i + 5 < L) (hI : LInv Ly I P) (next : ∀ I' P', LInv Ly I' P' → GL b0 X 4 149 8918 149 Ly 781 (lvL i) [] I' P') : GL b0 X 4 149 8918 149 Ly 495 (lvL i) [] I P := by
  obtain ⟨hs, hm, A, hG, hC, hM⟩ := hI
  obtain ⟨a, I1, P1, J1, A', e1, e2, g1, g2, g3⟩ := (op_clearText).use hG hC hM
  have hs1 : ShC 149 Ly P1 := ⟨hs.1, hs.2.1, g2.2.1.1.2.2.1⟩
  have hm1 : ShM 149 Ly P1 := ⟨hm.1, hm.2.1, g2.2.1.1.2.2.2⟩
  obtain ⟨⟨z1, z2⟩, c1, ez⟩ := bdS e1
  obtain ⟨rfl, rfl, rfl⟩ : z1 = a ∧ z2 = I1 ∧ P = P1 := by
    have q := Option.some.inj ez
    exact ⟨congrArg Prod.fst q, congrArg (fun q => q.2.1) q, congrArg (fun q => q.2.2) q⟩
  refine tL_aload_n F dL_law_495 rfl ?_
  refine tL_callV (ci := 8) (av := []) F dL_law_496 (fun l s0 D DA => c_X8_clearText hs c1 l s0 D DA) lkL_63 okX8_clearText (by omega) (ly0 hs) (by omega) rfl rfl (Nat.le_of_ble_eq_true rfl) (by decide) (by omega) (by omega) (fun _ _ _ _ _ h => h.2.1) (fun r n' Ly' I' P' hpo => ?_)
  obtain ⟨rfl, rfl, rfl, rfl, rfl⟩ := hpo
  refine tL_aload_n F dL_law_499 rfl ?_
  refine tL_callV (ci := 9) (av := []) F dL_law_500 (fun l s0 D DA => c_X9_clearText hm1 e2 l s0 D DA) lkL_66 okX9_clearText (by omega) (ly134 hm1) (by omega) rfl rfl (Nat.le_of_ble_eq_true rfl) (by decide) (by omega) (by omega) (fun _ _ _ _ _ h => h.2.1) (fun r n' Ly' I' P' hpo => ?_)
  obtain ⟨rfl, rfl, rfl, rfl, rfl⟩ := hpo
  exact tL_icmp_eq (tgt := 781) F dL_law_503 (by decide) (fun _ => next _ _ ⟨hs1, hm1, A', g1, g2, g3⟩) (fun c => absurd rfl c)
set_option maxHeartbeats 4000000 in
theorem law_run (F : Fx X RL cL_law 4 12 600000 7302250) (S : SX X b0 L xs) (hL : L ≤ 3072) (hi : i + 5 < L) (hI : LInv Ly I P) (next : ∀ I' P', LInv Ly I' P' → GL b0 X 4 149 8918 149 Ly 781 (lvL i) [] I' P') : GL b0 X 4 149 8918 149 Ly 508 (lvL i) [] I P := by
  obtain ⟨hs, hm, A, hG, hC, hM⟩ := hI
  obtain ⟨a, I1, P1, J1, A', e1, e2, g1, g2, g3⟩ := (op_run).use hG hC hM
  have hs1 : ShC 149 Ly P1 := ⟨hs.1, hs.2.1, g2.2.1.1.2.2.1⟩
  have hm1 : ShM 149 Ly P1 := ⟨hm.1, hm.2.1, g2.2.1.1.2.2.2⟩
  refine tL_aload_n F dL_law_508 rfl ?_
  refine tL_callV (ci := 8) (av := []) F dL_law_509 (fun l s0 D DA => c_X8_run hs e1 l s0 D DA) lkL_67 okX8_run (by omega) (ly0 hs) (by omega) rfl rfl (Nat.le_of_ble_eq_true rfl) (by decide) (by omega) (by omega) (fun _ _ _ _ _ h => h.2.1) (fun r n' Ly' I' P' hpo => ?_)
  obtain ⟨rfl, rfl, rfl, rfl, rfl⟩ := hpo
  refine tL_aload_n F dL_law_512 rfl ?_
  refine tL_callV (ci := 9) (av := []) F dL_law_513 (fun l s0 D DA => c_X9_run hm1 e2 l s0 D DA) lkL_70 okX9_run (by omega) (ly134 hm1) (by omega) rfl rfl (Nat.le_of_ble_eq_true rfl) (by decide) (by omega) (by omega) (fun _ _ _ _ _ h => h.2.1) (fun r n' Ly' I' P' hpo => ?_)
  obtain ⟨rfl, rfl, rfl, rfl, rfl⟩ := hpo
  exact tL_icmp_eq (tgt := 781) F dL_law_516 (by decide) (fun _ => next _ _ ⟨hs1, hm1, A', g1, g2, g3⟩) (fun c => absurd rfl c)
set_option maxHeartbeats 4000000 in
theorem law_undo (F : Fx X RL cL_law 4 12 600000 7302250) (S : SX X b0 L xs) (hL : L ≤ 3072) (hi : i + 5 < L) (hI : LInv Ly I P) (next : ∀ I' P', LInv Ly I' P' → GL b0 X 4 149 8918 149 Ly 781 (lvL i) [] I' P') : GL b0 X 4 149 8918 149 Ly 521 (lvL i) [] I P := by
  obtain ⟨hs, hm, A, hG, hC, hM⟩ := hI
  obtain ⟨a, I1, P1, J1, A', e1, e2, g1, g2, g3⟩ := (op_undo).use hG hC hM
  have hs1 : ShC 149 Ly P1 := ⟨hs.1, hs.2.1, g2.2.1.1.2.2.1⟩
  have hm1 : ShM 149 Ly P1 := ⟨hm.1, hm.2.1, g2.2.1.1.2.2.2⟩
  obtain ⟨⟨z1, z2⟩, c1, ez⟩ := bdS e1
  obtain ⟨rfl, rfl, rfl⟩ : z1 = a ∧ z2 = I1 ∧ P = P1 := by
    have q := Option.some.inj ez
    exact ⟨congrArg Prod.fst q, congrArg (fun q => q.2.1) q, congrArg (fun q => q.2.2) q⟩
  refine tL_aload_n F dL_law_521 rfl ?_
  refine tL_callV (ci := 8) (av := []) F dL_law_522 (fun l s0 D DA => c_X8_undo hs c1 l s0 D DA) lkL_71 okX8_undo (by omega) (ly0 hs) (by omega) rfl rfl (Nat.le_of_ble_eq_true rfl) (by decide) (by omega) (by omega) (fun _ _ _ _ _ h => h.2.1) (fun r n' Ly' I' P' hpo => ?_)
  obtain ⟨rfl, rfl, rfl, rfl, rfl⟩ := hpo
  refine tL_aload_n F dL_law_525 rfl ?_
  refine tL_callV (ci := 9) (av := []) F dL_law_526 (fun l s0 D DA => c_X9_undo hm1 e2 l s0 D DA) lkL_74 okX9_undo (by omega) (ly134 hm1) (by omega) rfl rfl (Nat.le_of_ble_eq_true rfl) (by decide) (by omega) (by omega) (fun _ _ _ _ _ h => h.2.1) (fun r n' Ly' I' P' hpo => ?_)
  obtain ⟨rfl, rfl, rfl, rfl, rfl⟩ := hpo
  exact tL_icmp_eq (tgt := 781) F dL_law_529 (by decide) (fun _ => next _ _ ⟨hs1, hm1, A', g1, g2, g3⟩) (fun c => absurd rfl c)
set_option maxHeartbeats 4000000 in
theorem law_keep (F : Fx X RL cL_law 4 12 600000 7302250) (S : SX X b0 L xs) (hL : L ≤ 3072) (hi : i + 5 < L) (hI : LInv Ly I P) (next : ∀ I' P', LInv Ly I' P' → GL b0 X 4 149 8918 149 Ly 781 (lvL i) [] I' P') : GL b0 X 4 149 8918 149 Ly 534 (lvL i) [] I P := by
  obtain ⟨hs, hm, A, hG, hC, hM⟩ := hI
  obtain ⟨a, I1, P1, J1, A', e1, e2, g1, g2, g3⟩ := (op_keep (xs (i + 1))).use hG hC hM
  have hs1 : ShC 149 Ly P1 := ⟨hs.1, hs.2.1, g2.2.1.1.2.2.1⟩
  have hm1 : ShM 149 Ly P1 := ⟨hm.1, hm.2.1, g2.2.1.1.2.2.2⟩
  obtain ⟨⟨z1, z2⟩, c1, ez⟩ := bdS e1
  obtain ⟨rfl, rfl, rfl⟩ : z1 = a ∧ z2 = I1 ∧ P = P1 := by
    have q := Option.some.inj ez
    exact ⟨congrArg Prod.fst q, congrArg (fun q => q.2.1) q, congrArg (fun q => q.2.2) q⟩
  refine tL_aload_n F dL_law_534 rfl ?_
  refine tL_sk (j := 1) F S (by omega) hL rfl dL_law_535 dL_law_536 dL_law_537 rfl dL_law_538 dL_law_539 ?_
  refine tL_callV (ci := 8) (av := [.inl (xs (i + 1))]) F dL_law_540 (fun l s0 D DA => c_X8_keep hs c1 l s0 D DA) lkL_75 okX8_keep (by omega) (ly0 hs) (by omega) rfl rfl (Nat.le_of_ble_eq_true rfl) (by decide) (by omega) (by omega) (fun _ _ _ _ _ h => h.2.1) (fun r n' Ly' I' P' hpo => ?_)
  obtain ⟨rfl, rfl, rfl, rfl, rfl⟩ := hpo
  refine tL_aload_n F dL_law_543 rfl ?_
  refine tL_sk (j := 1) F S (by omega) hL rfl dL_law_544 dL_law_545 dL_law_546 rfl dL_law_547 dL_law_548 ?_
  refine tL_callV (ci := 9) (av := [.inl (xs (i + 1))]) F dL_law_549 (fun l s0 D DA => c_X9_keep hm1 e2 l s0 D DA) lkL_78 okX9_keep (by omega) (ly134 hm1) (by omega) rfl rfl (Nat.le_of_ble_eq_true rfl) (by decide) (by omega) (by omega) (fun _ _ _ _ _ h => h.2.1) (fun r n' Ly' I' P' hpo => ?_)
  obtain ⟨rfl, rfl, rfl, rfl, rfl⟩ := hpo
  exact tL_icmp_eq (tgt := 781) F dL_law_552 (by decide) (fun _ => next _ _ ⟨hs1, hm1, A', g1, g2, g3⟩) (fun c => absurd rfl c)
set_option maxHeartbeats 4000000 in
theorem law_restore (F : Fx X RL cL_law 4 12 600000 7302250) (S : SX X b0 L xs) (hL : L ≤ 3072) (hi : i + 5 < L) (hI : LInv Ly I P) (next : ∀ I' P', LInv Ly I' P' → GL b0 X 4 149 8918 149 Ly 781 (lvL i) [] I' P') : GL b0 X 4 149 8918 149 Ly 557 (lvL i) [] I P := by
  obtain ⟨hs, hm, A, hG, hC, hM⟩ := hI
  obtain ⟨a, I1, P1, J1, A', e1, e2, g1, g2, g3⟩ := (op_restore (xs (i + 1))).use hG hC hM
  have hs1 : ShC 149 Ly P1 := ⟨hs.1, hs.2.1, g2.2.1.1.2.2.1⟩
  have hm1 : ShM 149 Ly P1 := ⟨hm.1, hm.2.1, g2.2.1.1.2.2.2⟩
  refine tL_aload_n F dL_law_557 rfl ?_
  refine tL_sk (j := 1) F S (by omega) hL rfl dL_law_558 dL_law_559 dL_law_560 rfl dL_law_561 dL_law_562 ?_
  refine tL_callV (ci := 8) (av := [.inl (xs (i + 1))]) F dL_law_563 (fun l s0 D DA => c_X8_restore hs e1 l s0 D DA) lkL_79 okX8_restore (by omega) (ly0 hs) (by omega) rfl rfl (Nat.le_of_ble_eq_true rfl) (by decide) (by omega) (by omega) (fun _ _ _ _ _ h => h.2.1) (fun r n' Ly' I' P' hpo => ?_)
  obtain ⟨rfl, rfl, rfl, rfl, rfl⟩ := hpo
  refine tL_aload_n F dL_law_566 rfl ?_
  refine tL_sk (j := 1) F S (by omega) hL rfl dL_law_567 dL_law_568 dL_law_569 rfl dL_law_570 dL_law_571 ?_
  refine tL_callV (ci := 9) (av := [.inl (xs (i + 1))]) F dL_law_572 (fun l s0 D DA => c_X9_restore hm1 e2 l s0 D DA) lkL_82 okX9_restore (by omega) (ly134 hm1) (by omega) rfl rfl (Nat.le_of_ble_eq_true rfl) (by decide) (by omega) (by omega) (fun _ _ _ _ _ h => h.2.1) (fun r n' Ly' I' P' hpo => ?_)
  obtain ⟨rfl, rfl, rfl, rfl, rfl⟩ := hpo
  exact tL_icmp_eq (tgt := 781) F dL_law_575 (by decide) (fun _ => next _ _ ⟨hs1, hm1, A', g1, g2, g3⟩) (fun c => absurd rfl c)
set_option maxHeartbeats 4000000 in
theorem law_chips (F : Fx X RL cL_law 4 12 600000 7302250) (S : SX X b0 L xs) (hL : L ≤ 3072) (hi : i + 5 < L) (hI : LInv Ly I P) (next : ∀ I' P', LInv Ly I' P' → GL b0 X 4 149 8918 149 Ly 781 (lvL i) [] I' P') : GL b0 X 4 149 8918 149 Ly 580 (lvL i) [] I P := by
  obtain ⟨hs, hm, A, hG, hC, hM⟩ := hI
  obtain ⟨a, I1, P1, J1, A', e1, e2, g1, g2, g3⟩ := (op_chips (xs (i + 1)) (xs (i + 2))).use hG hC hM
  have hs1 : ShC 149 Ly P1 := ⟨hs.1, hs.2.1, g2.2.1.1.2.2.1⟩
  have hm1 : ShM 149 Ly P1 := ⟨hm.1, hm.2.1, g2.2.1.1.2.2.2⟩
  obtain ⟨z1, c1, ez⟩ := bdS e1
  obtain ⟨rfl, rfl, rfl⟩ : z1 = a ∧ I = I1 ∧ P = P1 := by
    have q := Option.some.inj ez
    exact ⟨congrArg Prod.fst q, congrArg (fun q => q.2.1) q, congrArg (fun q => q.2.2) q⟩
  obtain ⟨z2, c2, ey⟩ := bdS e2
  obtain ⟨rfl, rfl⟩ : z2 = z1 ∧ I = J1 := by
    have q := Option.some.inj ey
    exact ⟨congrArg Prod.fst q, congrArg Prod.snd q⟩
  refine tL_aload_n F dL_law_580 rfl ?_
  refine tL_sk (j := 1) F S (by omega) hL rfl dL_law_581 dL_law_582 dL_law_583 rfl dL_law_584 dL_law_585 ?_
  refine tL_sk (j := 2) F S (by omega) hL rfl dL_law_586 dL_law_587 dL_law_588 rfl dL_law_589 dL_law_590 ?_
  refine tL_callV (ci := 8) (av := [.inl (xs (i + 1)), .inl (xs (i + 2))]) F dL_law_591 (fun l s0 D DA => c_X8_chips hs c1 l s0 D DA) lkL_83 okX8_chips (by omega) (ly0 hs) (by omega) rfl rfl (Nat.le_of_ble_eq_true rfl) (by decide) (by omega) (by omega) (fun _ _ _ _ _ h => h.2.1) (fun r n' Ly' I' P' hpo => ?_)
  obtain ⟨rfl, rfl, rfl, rfl, rfl⟩ := hpo
  refine tL_aload_n F dL_law_594 rfl ?_
  refine tL_sk (j := 1) F S (by omega) hL rfl dL_law_595 dL_law_596 dL_law_597 rfl dL_law_598 dL_law_599 ?_
  refine tL_sk (j := 2) F S (by omega) hL rfl dL_law_600 dL_law_601 dL_law_602 rfl dL_law_603 dL_law_604 ?_
  refine tL_callV (ci := 9) (av := [.inl (xs (i + 1)), .inl (xs (i + 2))]) F dL_law_605 (fun l s0 D DA => c_X9_chips hm1 c2 l s0 D DA) lkL_86 okX9_chips (by omega) (ly134 hm1) (by omega) rfl rfl (Nat.le_of_ble_eq_true rfl) (by decide) (by omega) (by omega) (fun _ _ _ _ _ h => h.2.1) (fun r n' Ly' I' P' hpo => ?_)
  obtain ⟨rfl, rfl, rfl, rfl, rfl⟩ := hpo
  exact tL_icmp_eq (tgt := 781) F dL_law_608 (by decide) (fun _ => next _ _ ⟨hs1, hm1, A', g1, g2, g3⟩) (fun c => absurd rfl c)
set_option maxHeartbeats 4000000 in
theorem law_walker (F : Fx X RL cL_law 4 12 600000 7302250) (S : SX X b0 L xs) (hL : L ≤ 3072) (hi : i + 5 < L) (hI : LInv Ly I P) (next : ∀ I' P', LInv Ly I' P' → GL b0 X 4 149 8918 149 Ly 781 (lvL i) [] I' P') : GL b0 X 4 149 8918 149 Ly 613 (lvL i) [] I P := by
  obtain ⟨hs, hm, A, hG, hC, hM⟩ := hI
  obtain ⟨a, I1, P1, J1, A', e1, e2, g1, g2, g3⟩ := (op_walker (xs (i + 1)) (xs (i + 2))).use hG hC hM
  have hs1 : ShC 149 Ly P1 := ⟨hs.1, hs.2.1, g2.2.1.1.2.2.1⟩
  have hm1 : ShM 149 Ly P1 := ⟨hm.1, hm.2.1, g2.2.1.1.2.2.2⟩
  obtain ⟨z1, c1, ez⟩ := bdS e1
  obtain ⟨rfl, rfl, rfl⟩ : z1 = a ∧ I = I1 ∧ P = P1 := by
    have q := Option.some.inj ez
    exact ⟨congrArg Prod.fst q, congrArg (fun q => q.2.1) q, congrArg (fun q => q.2.2) q⟩
  obtain ⟨z2, c2, ey⟩ := bdS e2
  obtain ⟨rfl, rfl⟩ : z2 = z1 ∧ I = J1 := by
    have q := Option.some.inj ey
    exact ⟨congrArg Prod.fst q, congrArg Prod.snd q⟩
  refine tL_aload_n F dL_law_613 rfl ?_
  refine tL_sk (j := 1) F S (by omega) hL rfl dL_law_614 dL_law_615 dL_law_616 rfl dL_law_617 dL_law_618 ?_
  refine tL_sk (j := 2) F S (by omega) hL rfl dL_law_619 dL_law_620 dL_law_621 rfl dL_law_622 dL_law_623 ?_
  refine tL_callV (ci := 8) (av := [.inl (xs (i + 1)), .inl (xs (i + 2))]) F dL_law_624 (fun l s0 D DA => c_X8_walker hs c1 l s0 D DA) lkL_87 okX8_walker (by omega) (ly0 hs) (by omega) rfl rfl (Nat.le_of_ble_eq_true rfl) (by decide) (by omega) (by omega) (fun _ _ _ _ _ h => h.2.1) (fun r n' Ly' I' P' hpo => ?_)
  obtain ⟨rfl, rfl, rfl, rfl, rfl⟩ := hpo
  refine tL_aload_n F dL_law_627 rfl ?_
  refine tL_sk (j := 1) F S (by omega) hL rfl dL_law_628 dL_law_629 dL_law_630 rfl dL_law_631 dL_law_632 ?_
  refine tL_sk (j := 2) F S (by omega) hL rfl dL_law_633 dL_law_634 dL_law_635 rfl dL_law_636 dL_law_637 ?_
  refine tL_callV (ci := 9) (av := [.inl (xs (i + 1)), .inl (xs (i + 2))]) F dL_law_638 (fun l s0 D DA => c_X9_walker hm1 c2 l s0 D DA) lkL_90 okX9_walker (by omega) (ly134 hm1) (by omega) rfl rfl (Nat.le_of_ble_eq_true rfl) (by decide) (by omega) (by omega) (fun _ _ _ _ _ h => h.2.1) (fun r n' Ly' I' P' hpo => ?_)
  obtain ⟨rfl, rfl, rfl, rfl, rfl⟩ := hpo
  exact tL_icmp_eq (tgt := 781) F dL_law_641 (by decide) (fun _ => next _ _ ⟨hs1, hm1, A', g1, g2, g3⟩) (fun c => absurd rfl c)
set_option maxHeartbeats 4000000 in
theorem law_heap (F : Fx X RL cL_law 4 12 600000 7302250) (S : SX X b0 L xs) (hL : L ≤ 3072) (hi : i + 5 < L) (hI : LInv Ly I P) (next : ∀ I' P', LInv Ly I' P' → GL b0 X 4 149 8918 149 Ly 781 (lvL i) [] I' P') : GL b0 X 4 149 8918 149 Ly 646 (lvL i) [] I P := by
  obtain ⟨hs, hm, A, hG, hC, hM⟩ := hI
  obtain ⟨a, I1, P1, J1, A', e1, e2, g1, g2, g3⟩ := (op_heap (xs (i + 1)) (xs (i + 2))).use hG hC hM
  have hs1 : ShC 149 Ly P1 := ⟨hs.1, hs.2.1, g2.2.1.1.2.2.1⟩
  have hm1 : ShM 149 Ly P1 := ⟨hm.1, hm.2.1, g2.2.1.1.2.2.2⟩
  obtain ⟨⟨z1, z2⟩, c1, ez⟩ := bdS e1
  obtain ⟨rfl, rfl, rfl⟩ : z1 = a ∧ z2 = I1 ∧ P = P1 := by
    have q := Option.some.inj ez
    exact ⟨congrArg Prod.fst q, congrArg (fun q => q.2.1) q, congrArg (fun q => q.2.2) q⟩
  refine tL_aload_n F dL_law_646 rfl ?_
  refine tL_sk (j := 1) F S (by omega) hL rfl dL_law_647 dL_law_648 dL_law_649 rfl dL_law_650 dL_law_651 ?_
  refine tL_sk (j := 2) F S (by omega) hL rfl dL_law_652 dL_law_653 dL_law_654 rfl dL_law_655 dL_law_656 ?_
  refine tL_callV (ci := 8) (av := [.inl (xs (i + 1)), .inl (xs (i + 2))]) F dL_law_657 (fun l s0 D DA => c_X8_heap hs c1 l s0 D DA) lkL_91 okX8_heap (by omega) (ly0 hs) (by omega) rfl rfl (Nat.le_of_ble_eq_true rfl) (by decide) (by omega) (by omega) (fun _ _ _ _ _ h => h.2.1) (fun r n' Ly' I' P' hpo => ?_)
  obtain ⟨rfl, rfl, rfl, rfl, rfl⟩ := hpo
  refine tL_aload_n F dL_law_660 rfl ?_
  refine tL_sk (j := 1) F S (by omega) hL rfl dL_law_661 dL_law_662 dL_law_663 rfl dL_law_664 dL_law_665 ?_
  refine tL_sk (j := 2) F S (by omega) hL rfl dL_law_666 dL_law_667 dL_law_668 rfl dL_law_669 dL_law_670 ?_
  refine tL_callV (ci := 9) (av := [.inl (xs (i + 1)), .inl (xs (i + 2))]) F dL_law_671 (fun l s0 D DA => c_X9_heap hm1 e2 l s0 D DA) lkL_94 okX9_heap (by omega) (ly134 hm1) (by omega) rfl rfl (Nat.le_of_ble_eq_true rfl) (by decide) (by omega) (by omega) (fun _ _ _ _ _ h => h.2.1) (fun r n' Ly' I' P' hpo => ?_)
  obtain ⟨rfl, rfl, rfl, rfl, rfl⟩ := hpo
  exact tL_icmp_eq (tgt := 781) F dL_law_674 (by decide) (fun _ => next _ _ ⟨hs1, hm1, A', g1, g2, g3⟩) (fun c => absurd rfl c)
set_option maxHeartbeats 4000000 in
theorem law_heapOf (F : Fx X RL cL_law 4 12 600000 7302250) (S : SX X b0 L xs) (hL : L ≤ 3072) (hi : i + 5 < L) (hI : LInv Ly I P) (next : ∀ I' P', LInv Ly I' P' → GL b0 X 4 149 8918 149 Ly 781 (lvL i) [] I' P') : GL b0 X 4 149 8918 149 Ly 679 (lvL i) [] I P := by
  obtain ⟨hs, hm, A, hG, hC, hM⟩ := hI
  obtain ⟨a, I1, P1, J1, A', e1, e2, g1, g2, g3⟩ := (op_heapOf (xs (i + 1)) (xs (i + 2))).use hG hC hM
  have hs1 : ShC 149 Ly P1 := ⟨hs.1, hs.2.1, g2.2.1.1.2.2.1⟩
  have hm1 : ShM 149 Ly P1 := ⟨hm.1, hm.2.1, g2.2.1.1.2.2.2⟩
  obtain ⟨⟨z1, z2⟩, c1, ez⟩ := bdS e1
  obtain ⟨rfl, rfl, rfl⟩ : z1 = a ∧ z2 = I1 ∧ P = P1 := by
    have q := Option.some.inj ez
    exact ⟨congrArg Prod.fst q, congrArg (fun q => q.2.1) q, congrArg (fun q => q.2.2) q⟩
  refine tL_aload_n F dL_law_679 rfl ?_
  refine tL_sk (j := 1) F S (by omega) hL rfl dL_law_680 dL_law_681 dL_law_682 rfl dL_law_683 dL_law_684 ?_
  refine tL_sk (j := 2) F S (by omega) hL rfl dL_law_685 dL_law_686 dL_law_687 rfl dL_law_688 dL_law_689 ?_
  refine tL_callV (ci := 8) (av := [.inl (xs (i + 1)), .inl (xs (i + 2))]) F dL_law_690 (fun l s0 D DA => c_X8_heapOf hs c1 l s0 D DA) lkL_95 okX8_heapOf (by omega) (ly0 hs) (by omega) rfl rfl (Nat.le_of_ble_eq_true rfl) (by decide) (by omega) (by omega) (fun _ _ _ _ _ h => h.2.1) (fun r n' Ly' I' P' hpo => ?_)
  obtain ⟨rfl, rfl, rfl, rfl, rfl⟩ := hpo
  refine tL_aload_n F dL_law_693 rfl ?_
  refine tL_sk (j := 1) F S (by omega) hL rfl dL_law_694 dL_law_695 dL_law_696 rfl dL_law_697 dL_law_698 ?_
  refine tL_sk (j := 2) F S (by omega) hL rfl dL_law_699 dL_law_700 dL_law_701 rfl dL_law_702 dL_law_703 ?_
  refine tL_callV (ci := 9) (av := [.inl (xs (i + 1)), .inl (xs (i + 2))]) F dL_law_704 (fun l s0 D DA => c_X9_heapOf hm1 e2 l s0 D DA) lkL_98 okX9_heapOf (by omega) (ly134 hm1) (by omega) rfl rfl (Nat.le_of_ble_eq_true rfl) (by decide) (by omega) (by omega) (fun _ _ _ _ _ h => h.2.1) (fun r n' Ly' I' P' hpo => ?_)
  obtain ⟨rfl, rfl, rfl, rfl, rfl⟩ := hpo
  exact tL_icmp_eq (tgt := 781) F dL_law_707 (by decide) (fun _ => next _ _ ⟨hs1, hm1, A', g1, g2, g3⟩) (fun c => absurd rfl c)
set_option maxHeartbeats 4000000 in
theorem law_roundsUntil (F : Fx X RL cL_law 4 12 600000 7302250) (S : SX X b0 L xs) (hL : L ≤ 3072) (hi : i + 5 < L) (hI : LInv Ly I P) (next : ∀ I' P', LInv Ly I' P' → GL b0 X 4 149 8918 149 Ly 781 (lvL i) [] I' P') : GL b0 X 4 149 8918 149 Ly 712 (lvL i) [] I P := by
  obtain ⟨hs, hm, A, hG, hC, hM⟩ := hI
  obtain ⟨a, I1, P1, J1, A', e1, e2, g1, g2, g3⟩ := (op_roundsUntil (xs (i + 1))).use hG hC hM
  have hs1 : ShC 149 Ly P1 := ⟨hs.1, hs.2.1, g2.2.1.1.2.2.1⟩
  have hm1 : ShM 149 Ly P1 := ⟨hm.1, hm.2.1, g2.2.1.1.2.2.2⟩
  obtain ⟨⟨z1, z2⟩, c1, ez⟩ := bdS e1
  obtain ⟨rfl, rfl, rfl⟩ : z1 = a ∧ z2 = I1 ∧ P = P1 := by
    have q := Option.some.inj ez
    exact ⟨congrArg Prod.fst q, congrArg (fun q => q.2.1) q, congrArg (fun q => q.2.2) q⟩
  refine tL_aload_n F dL_law_712 rfl ?_
  refine tL_sk (j := 1) F S (by omega) hL rfl dL_law_713 dL_law_714 dL_law_715 rfl dL_law_716 dL_law_717 ?_
  refine tL_callV (ci := 8) (av := [.inl (xs (i + 1))]) F dL_law_718 (fun l s0 D DA => c_X8_roundsUntil hs c1 l s0 D DA) lkL_99 okX8_roundsUntil (by omega) (ly0 hs) (by omega) rfl rfl (Nat.le_of_ble_eq_true rfl) (by decide) (by omega) (by omega) (fun _ _ _ _ _ h => h.2.1) (fun r n' Ly' I' P' hpo => ?_)
  obtain ⟨rfl, rfl, rfl, rfl, rfl⟩ := hpo
  refine tL_aload_n F dL_law_721 rfl ?_
  refine tL_sk (j := 1) F S (by omega) hL rfl dL_law_722 dL_law_723 dL_law_724 rfl dL_law_725 dL_law_726 ?_
  refine tL_callV (ci := 9) (av := [.inl (xs (i + 1))]) F dL_law_727 (fun l s0 D DA => c_X9_roundsUntil hm1 e2 l s0 D DA) lkL_102 okX9_roundsUntil (by omega) (ly134 hm1) (by omega) rfl rfl (Nat.le_of_ble_eq_true rfl) (by decide) (by omega) (by omega) (fun _ _ _ _ _ h => h.2.1) (fun r n' Ly' I' P' hpo => ?_)
  obtain ⟨rfl, rfl, rfl, rfl, rfl⟩ := hpo
  exact tL_icmp_eq (tgt := 781) F dL_law_730 (by decide) (fun _ => next _ _ ⟨hs1, hm1, A', g1, g2, g3⟩) (fun c => absurd rfl c)
set_option maxHeartbeats 4000000 in
theorem law_turn (F : Fx X RL cL_law 4 12 600000 7302250) (S : SX X b0 L xs) (hL : L ≤ 3072) (hi : i + 5 < L) (hI : LInv Ly I P) (next : ∀ I' P', LInv Ly I' P' → GL b0 X 4 149 8918 149 Ly 781 (lvL i) [] I' P') : GL b0 X 4 149 8918 149 Ly 735 (lvL i) [] I P := by
  obtain ⟨hs, hm, A, hG, hC, hM⟩ := hI
  obtain ⟨a, I1, P1, J1, A', e1, e2, g1, g2, g3⟩ := (op_turn (xs (i + 1))).use hG hC hM
  have hs1 : ShC 149 Ly P1 := ⟨hs.1, hs.2.1, g2.2.1.1.2.2.1⟩
  have hm1 : ShM 149 Ly P1 := ⟨hm.1, hm.2.1, g2.2.1.1.2.2.2⟩
  obtain ⟨z1, c1, ez⟩ := bdS e1
  obtain ⟨rfl, rfl, rfl⟩ : z1 = a ∧ I = I1 ∧ P = P1 := by
    have q := Option.some.inj ez
    exact ⟨congrArg Prod.fst q, congrArg (fun q => q.2.1) q, congrArg (fun q => q.2.2) q⟩
  obtain ⟨z2, c2, ey⟩ := bdS e2
  obtain ⟨rfl, rfl⟩ : z2 = z1 ∧ I = J1 := by
    have q := Option.some.inj ey
    exact ⟨congrArg Prod.fst q, congrArg Prod.snd q⟩
  refine tL_aload_n F dL_law_735 rfl ?_
  refine tL_sk (j := 1) F S (by omega) hL rfl dL_law_736 dL_law_737 dL_law_738 rfl dL_law_739 dL_law_740 ?_
  refine tL_callV (ci := 8) (av := [.inl (xs (i + 1))]) F dL_law_741 (fun l s0 D DA => c_X8_turn hs c1 l s0 D DA) lkL_103 okX8_turn (by omega) (ly0 hs) (by omega) rfl rfl (Nat.le_of_ble_eq_true rfl) (by decide) (by omega) (by omega) (fun _ _ _ _ _ h => h.2.1) (fun r n' Ly' I' P' hpo => ?_)
  obtain ⟨rfl, rfl, rfl, rfl, rfl⟩ := hpo
  refine tL_aload_n F dL_law_744 rfl ?_
  refine tL_sk (j := 1) F S (by omega) hL rfl dL_law_745 dL_law_746 dL_law_747 rfl dL_law_748 dL_law_749 ?_
  refine tL_callV (ci := 9) (av := [.inl (xs (i + 1))]) F dL_law_750 (fun l s0 D DA => c_X9_turn hm1 c2 l s0 D DA) lkL_106 okX9_turn (by omega) (ly134 hm1) (by omega) rfl rfl (Nat.le_of_ble_eq_true rfl) (by decide) (by omega) (by omega) (fun _ _ _ _ _ h => h.2.1) (fun r n' Ly' I' P' hpo => ?_)
  obtain ⟨rfl, rfl, rfl, rfl, rfl⟩ := hpo
  exact tL_icmp_eq (tgt := 781) F dL_law_753 (by decide) (fun _ => next _ _ ⟨hs1, hm1, A', g1, g2, g3⟩) (fun c => absurd rfl c)
set_option maxHeartbeats 4000000 in
theorem law_count (F : Fx X RL cL_law 4 12 600000 7302250) (S : SX X b0 L xs) (hL : L ≤ 3072) (hi : i + 5 < L) (hI : LInv Ly I P) (next : ∀ I' P', LInv Ly I' P' → GL b0 X 4 149 8918 149 Ly 781 (lvL i) [] I' P') : GL b0 X 4 149 8918 149 Ly 758 (lvL i) [] I P := by
  obtain ⟨hs, hm, A, hG, hC, hM⟩ := hI
  obtain ⟨a, I1, P1, J1, A', e1, e2, g1, g2, g3⟩ := (op_count (xs (i + 1))).use hG hC hM
  have hs1 : ShC 149 Ly P1 := ⟨hs.1, hs.2.1, g2.2.1.1.2.2.1⟩
  have hm1 : ShM 149 Ly P1 := ⟨hm.1, hm.2.1, g2.2.1.1.2.2.2⟩
  obtain ⟨⟨z1, z2⟩, c1, ez⟩ := bdS e1
  obtain ⟨rfl, rfl, rfl⟩ : z1 = a ∧ z2 = I1 ∧ P = P1 := by
    have q := Option.some.inj ez
    exact ⟨congrArg Prod.fst q, congrArg (fun q => q.2.1) q, congrArg (fun q => q.2.2) q⟩
  refine tL_aload_n F dL_law_758 rfl ?_
  refine tL_sk (j := 1) F S (by omega) hL rfl dL_law_759 dL_law_760 dL_law_761 rfl dL_law_762 dL_law_763 ?_
  refine tL_callV (ci := 8) (av := [.inl (xs (i + 1))]) F dL_law_764 (fun l s0 D DA => c_X8_count hs c1 l s0 D DA) lkL_107 okX8_count (by omega) (ly0 hs) (by omega) rfl rfl (Nat.le_of_ble_eq_true rfl) (by decide) (by omega) (by omega) (fun _ _ _ _ _ h => h.2.1) (fun r n' Ly' I' P' hpo => ?_)
  obtain ⟨rfl, rfl, rfl, rfl, rfl⟩ := hpo
  refine tL_aload_n F dL_law_767 rfl ?_
  refine tL_sk (j := 1) F S (by omega) hL rfl dL_law_768 dL_law_769 dL_law_770 rfl dL_law_771 dL_law_772 ?_
  refine tL_callV (ci := 9) (av := [.inl (xs (i + 1))]) F dL_law_773 (fun l s0 D DA => c_X9_count hm1 e2 l s0 D DA) lkL_110 okX9_count (by omega) (ly134 hm1) (by omega) rfl rfl (Nat.le_of_ble_eq_true rfl) (by decide) (by omega) (by omega) (fun _ _ _ _ _ h => h.2.1) (fun r n' Ly' I' P' hpo => ?_)
  obtain ⟨rfl, rfl, rfl, rfl, rfl⟩ := hpo
  exact tL_icmp_eq (tgt := 781) F dL_law_776 (by decide) (fun _ => next _ _ ⟨hs1, hm1, A', g1, g2, g3⟩) (fun c => absurd rfl c)
end LAWOPS
