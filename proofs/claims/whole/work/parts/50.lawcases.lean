/-! ===== the law: its cases ===== -/
/-- what lies behind a case -/
def Lnx (p : Program) (l : Launch) (e : Env) (s : State) (m : MethodId) (below : List Frame) (meth : Method) (c : Code) (cells slots : Nat) (Q : State → Prop) (Γ : gG) (ac am : Nat → Nat) (ao b n : Nat) : Prop := ∀ (Sc : cM) (Sm : mM) (x : Xx) (im : Option Xx) (sh : Nat → Sh) (o : Nat → Int64) (H : Heap) (locs : List Loc) (ls : Array Slot), Rl Sc Sm x im sh → Lh Γ s ac am ao Sc Sm o H locs → lv_has ls 8 (lws b ac am ao n) → W p l e room_1 s m #[Value.ref b] below meth c H locs cells slots Q (F0 m 1591 ls [])
theorem qX5_ts : yX5_toss.cls = RX5 ∧ yX5_toss.cls ≠ "java/lang/invoke/MethodHandle" ∧ yX5_toss.cls ≠ "java/lang/invoke/VarHandle" ∧ (parseMethodDescriptor yX5_toss.desc).map (fun d => d.parameters.length) = some 1 := by decide +kernel
section Lc
variable {p : Program} {l : Launch} {e : Env} {s : State} {m : MethodId} {below : List Frame} {meth : Method} {c : Code} {H : Heap} {locs : List Loc} {cells slots : Nat} {Q : State → Prop}
variable {Γ : gG} {ac am : Nat → Nat} {ao b L n : Nat} {xs : Nat → Int32} {ls : Array Slot} {Sc : cM} {Sm : mM} {o : Nat → Int64} {x : Xx} {im : Option Xx} {sh : Nat → Sh}
set_option maxHeartbeats 4000000 in
set_option maxRecDepth 100000 in
theorem L_border (F : Lf Γ p s m meth c b L xs) (P : Lp Γ s ac am ao) (hH : Lh Γ s ac am ao Sc Sm o H locs) (R : Rl Sc Sm x im sh) (hL : L ≤ 384) (hn : 6 * n + 5 < L) (hl : lv_has ls 8 (lws b ac am ao n)) (hcs : cells + 1 ≤ room_1.cells ∧ slots + 6 ≤ room_1.slots) (next : Lnx p l e s m below meth c (cells + 1) (slots + 6) Q Γ ac am ao b n) : W p l e room_1 s m #[Value.ref b] below meth c H locs cells slots Q (F0 m 204 ls []) := by
  obtain ⟨r, Sc', Sm', x', im', sh', e1, e2, R'⟩ := t_border R (xs (6 * n + 1))
  have hx := F.1.1
  have hb := F.1.2.1
  refine W.widen (k := cells + 1) (n := slots + 6) (Nat.le_add_right _ _) (Nat.le_add_right _ _) ?_
  refine lv_aload_n hx hb dL_law_204 rfl (lv_at hl 1 rfl) ?_
  refine L_rd (n := n) (j := 1) F hH.2.2.2 (lv_at hl 0 rfl) (lv_at hl 4 rfl) (by omega) hL dL_law_205 dL_law_206 dL_law_208 rfl dL_law_209 dL_law_210 ?_
  refine L_c (av := [.int (xs (6 * n + 1))]) (rest := []) F P hH (mX5_border l (gA Γ ac) e1) hl.1 k1_158 qX5_border rfl ⟨Nat.le_of_ble_eq_true rfl, Nat.le_of_ble_eq_true rfl⟩ hcs (Nat.le_of_ble_eq_true rfl) dL_law_211 (fun H locs hH => ?_)
  refine lv_aload_n hx hb dL_law_214 rfl (lv_at hl 2 rfl) ?_
  refine L_rd (n := n) (j := 1) F hH.2.2.2 (lv_at hl 0 rfl) (lv_at hl 4 rfl) (by omega) hL dL_law_215 dL_law_216 dL_law_218 rfl dL_law_219 dL_law_220 ?_
  refine L_m (av := [.int (xs (6 * n + 1))]) (rest := [.int r]) F P hH (mX6_border l (gA Γ am) e2) hl.1 k4_202 qX6_border rfl ⟨Nat.le_of_ble_eq_true rfl, Nat.le_of_ble_eq_true rfl⟩ hcs (Nat.le_of_ble_eq_true rfl) dL_law_221 (fun H locs hH => ?_)
  exact lv_icmp_eq (tgt := 1591) hx hb dL_law_224 (by decide) (fun _ => next _ _ _ _ _ _ _ _ _ R' hH hl) (fun h => absurd rfl h)
set_option maxHeartbeats 4000000 in
set_option maxRecDepth 100000 in
theorem L_lane (F : Lf Γ p s m meth c b L xs) (P : Lp Γ s ac am ao) (hH : Lh Γ s ac am ao Sc Sm o H locs) (R : Rl Sc Sm x im sh) (hL : L ≤ 384) (hn : 6 * n + 5 < L) (hl : lv_has ls 8 (lws b ac am ao n)) (hcs : cells + 1 ≤ room_1.cells ∧ slots + 6 ≤ room_1.slots) (next : Lnx p l e s m below meth c (cells + 1) (slots + 6) Q Γ ac am ao b n) : W p l e room_1 s m #[Value.ref b] below meth c H locs cells slots Q (F0 m 229 ls []) := by
  obtain ⟨r, Sc', Sm', x', im', sh', e1, e2, R'⟩ := t_lane R (xs (6 * n + 1)) (xs (6 * n + 2))
  have hx := F.1.1
  have hb := F.1.2.1
  refine W.widen (k := cells + 1) (n := slots + 6) (Nat.le_add_right _ _) (Nat.le_add_right _ _) ?_
  refine lv_aload_n hx hb dL_law_229 rfl (lv_at hl 1 rfl) ?_
  refine L_rd (n := n) (j := 1) F hH.2.2.2 (lv_at hl 0 rfl) (lv_at hl 4 rfl) (by omega) hL dL_law_230 dL_law_231 dL_law_233 rfl dL_law_234 dL_law_235 ?_
  refine L_rd (n := n) (j := 2) F hH.2.2.2 (lv_at hl 0 rfl) (lv_at hl 4 rfl) (by omega) hL dL_law_236 dL_law_237 dL_law_239 rfl dL_law_240 dL_law_241 ?_
  refine L_c (av := [.int (xs (6 * n + 1)), .int (xs (6 * n + 2))]) (rest := []) F P hH (mX5_lane l (gA Γ ac) e1) hl.1 k2_25 qX5_lane rfl ⟨Nat.le_of_ble_eq_true rfl, Nat.le_of_ble_eq_true rfl⟩ hcs (Nat.le_of_ble_eq_true rfl) dL_law_242 (fun H locs hH => ?_)
  refine lv_aload_n hx hb dL_law_245 rfl (lv_at hl 2 rfl) ?_
  refine L_rd (n := n) (j := 1) F hH.2.2.2 (lv_at hl 0 rfl) (lv_at hl 4 rfl) (by omega) hL dL_law_246 dL_law_247 dL_law_249 rfl dL_law_250 dL_law_251 ?_
  refine L_rd (n := n) (j := 2) F hH.2.2.2 (lv_at hl 0 rfl) (lv_at hl 4 rfl) (by omega) hL dL_law_252 dL_law_253 dL_law_255 rfl dL_law_256 dL_law_257 ?_
  refine L_m (av := [.int (xs (6 * n + 1)), .int (xs (6 * n + 2))]) (rest := [.int r]) F P hH (mX6_lane l (gA Γ am) e2) hl.1 k5_38 qX6_lane rfl ⟨Nat.le_of_ble_eq_true rfl, Nat.le_of_ble_eq_true rfl⟩ hcs (Nat.le_of_ble_eq_true rfl) dL_law_258 (fun H locs hH => ?_)
  exact lv_icmp_eq (tgt := 1591) hx hb dL_law_261 (by decide) (fun _ => next _ _ _ _ _ _ _ _ _ R' hH hl) (fun h => absurd rfl h)
set_option maxHeartbeats 4000000 in
set_option maxRecDepth 100000 in
theorem L_car (F : Lf Γ p s m meth c b L xs) (P : Lp Γ s ac am ao) (hH : Lh Γ s ac am ao Sc Sm o H locs) (R : Rl Sc Sm x im sh) (hL : L ≤ 384) (hn : 6 * n + 5 < L) (hl : lv_has ls 8 (lws b ac am ao n)) (hcs : cells + 1 ≤ room_1.cells ∧ slots + 6 ≤ room_1.slots) (next : Lnx p l e s m below meth c (cells + 1) (slots + 6) Q Γ ac am ao b n) : W p l e room_1 s m #[Value.ref b] below meth c H locs cells slots Q (F0 m 266 ls []) := by
  obtain ⟨r, Sc', Sm', x', im', sh', e1, e2, R'⟩ := t_car R (xs (6 * n + 1)) (xs (6 * n + 2))
  have hx := F.1.1
  have hb := F.1.2.1
  refine W.widen (k := cells + 1) (n := slots + 6) (Nat.le_add_right _ _) (Nat.le_add_right _ _) ?_
  refine lv_aload_n hx hb dL_law_266 rfl (lv_at hl 1 rfl) ?_
  refine L_rd (n := n) (j := 1) F hH.2.2.2 (lv_at hl 0 rfl) (lv_at hl 4 rfl) (by omega) hL dL_law_267 dL_law_268 dL_law_270 rfl dL_law_271 dL_law_272 ?_
  refine L_rd (n := n) (j := 2) F hH.2.2.2 (lv_at hl 0 rfl) (lv_at hl 4 rfl) (by omega) hL dL_law_273 dL_law_274 dL_law_276 rfl dL_law_277 dL_law_278 ?_
  refine L_c (av := [.int (xs (6 * n + 1)), .int (xs (6 * n + 2))]) (rest := []) F P hH (mX5_car l (gA Γ ac) e1) hl.1 k2_65 qX5_car rfl ⟨Nat.le_of_ble_eq_true rfl, Nat.le_of_ble_eq_true rfl⟩ hcs (Nat.le_of_ble_eq_true rfl) dL_law_279 (fun H locs hH => ?_)
  refine lv_aload_n hx hb dL_law_282 rfl (lv_at hl 2 rfl) ?_
  refine L_rd (n := n) (j := 1) F hH.2.2.2 (lv_at hl 0 rfl) (lv_at hl 4 rfl) (by omega) hL dL_law_283 dL_law_284 dL_law_286 rfl dL_law_287 dL_law_288 ?_
  refine L_rd (n := n) (j := 2) F hH.2.2.2 (lv_at hl 0 rfl) (lv_at hl 4 rfl) (by omega) hL dL_law_289 dL_law_290 dL_law_292 rfl dL_law_293 dL_law_294 ?_
  refine L_m (av := [.int (xs (6 * n + 1)), .int (xs (6 * n + 2))]) (rest := [.int r]) F P hH (mX6_car l (gA Γ am) e2) hl.1 k5_59 qX6_car rfl ⟨Nat.le_of_ble_eq_true rfl, Nat.le_of_ble_eq_true rfl⟩ hcs (Nat.le_of_ble_eq_true rfl) dL_law_295 (fun H locs hH => ?_)
  exact lv_icmp_eq (tgt := 1591) hx hb dL_law_298 (by decide) (fun _ => next _ _ _ _ _ _ _ _ _ R' hH hl) (fun h => absurd rfl h)
set_option maxHeartbeats 4000000 in
set_option maxRecDepth 100000 in
theorem L_takes (F : Lf Γ p s m meth c b L xs) (P : Lp Γ s ac am ao) (hH : Lh Γ s ac am ao Sc Sm o H locs) (R : Rl Sc Sm x im sh) (hL : L ≤ 384) (hn : 6 * n + 5 < L) (hl : lv_has ls 8 (lws b ac am ao n)) (hcs : cells + 1 ≤ room_1.cells ∧ slots + 6 ≤ room_1.slots) (next : Lnx p l e s m below meth c (cells + 1) (slots + 6) Q Γ ac am ao b n) : W p l e room_1 s m #[Value.ref b] below meth c H locs cells slots Q (F0 m 303 ls []) := by
  obtain ⟨r, Sc', Sm', x', im', sh', e1, e2, R'⟩ := t_takes R (xs (6 * n + 1)) (xs (6 * n + 2))
  have hx := F.1.1
  have hb := F.1.2.1
  refine W.widen (k := cells + 1) (n := slots + 6) (Nat.le_add_right _ _) (Nat.le_add_right _ _) ?_
  refine lv_aload_n hx hb dL_law_303 rfl (lv_at hl 1 rfl) ?_
  refine L_rd (n := n) (j := 1) F hH.2.2.2 (lv_at hl 0 rfl) (lv_at hl 4 rfl) (by omega) hL dL_law_304 dL_law_305 dL_law_307 rfl dL_law_308 dL_law_309 ?_
  refine L_rd (n := n) (j := 2) F hH.2.2.2 (lv_at hl 0 rfl) (lv_at hl 4 rfl) (by omega) hL dL_law_310 dL_law_311 dL_law_313 rfl dL_law_314 dL_law_315 ?_
  refine L_c (av := [.int (xs (6 * n + 1)), .int (xs (6 * n + 2))]) (rest := []) F P hH (mX5_takes l (gA Γ ac) e1) hl.1 k2_74 qX5_takes rfl ⟨Nat.le_of_ble_eq_true rfl, Nat.le_of_ble_eq_true rfl⟩ hcs (Nat.le_of_ble_eq_true rfl) dL_law_316 (fun H locs hH => ?_)
  refine lv_aload_n hx hb dL_law_319 rfl (lv_at hl 2 rfl) ?_
  refine L_rd (n := n) (j := 1) F hH.2.2.2 (lv_at hl 0 rfl) (lv_at hl 4 rfl) (by omega) hL dL_law_320 dL_law_321 dL_law_323 rfl dL_law_324 dL_law_325 ?_
  refine L_rd (n := n) (j := 2) F hH.2.2.2 (lv_at hl 0 rfl) (lv_at hl 4 rfl) (by omega) hL dL_law_326 dL_law_327 dL_law_329 rfl dL_law_330 dL_law_331 ?_
  refine L_m (av := [.int (xs (6 * n + 1)), .int (xs (6 * n + 2))]) (rest := [.int r]) F P hH (mX6_takes l (gA Γ am) e2) hl.1 k5_67 qX6_takes rfl ⟨Nat.le_of_ble_eq_true rfl, Nat.le_of_ble_eq_true rfl⟩ hcs (Nat.le_of_ble_eq_true rfl) dL_law_332 (fun H locs hH => ?_)
  exact lv_icmp_eq (tgt := 1591) hx hb dL_law_335 (by decide) (fun _ => next _ _ _ _ _ _ _ _ _ R' hH hl) (fun h => absurd rfl h)
set_option maxHeartbeats 4000000 in
set_option maxRecDepth 100000 in
theorem L_comes (F : Lf Γ p s m meth c b L xs) (P : Lp Γ s ac am ao) (hH : Lh Γ s ac am ao Sc Sm o H locs) (R : Rl Sc Sm x im sh) (hL : L ≤ 384) (hn : 6 * n + 5 < L) (hl : lv_has ls 8 (lws b ac am ao n)) (hcs : cells + 1 ≤ room_1.cells ∧ slots + 6 ≤ room_1.slots) (next : Lnx p l e s m below meth c (cells + 1) (slots + 6) Q Γ ac am ao b n) : W p l e room_1 s m #[Value.ref b] below meth c H locs cells slots Q (F0 m 340 ls []) := by
  obtain ⟨r, Sc', Sm', x', im', sh', e1, e2, R'⟩ := t_comes R (xs (6 * n + 1)) (xs (6 * n + 2))
  have hx := F.1.1
  have hb := F.1.2.1
  refine W.widen (k := cells + 1) (n := slots + 6) (Nat.le_add_right _ _) (Nat.le_add_right _ _) ?_
  refine lv_aload_n hx hb dL_law_340 rfl (lv_at hl 1 rfl) ?_
  refine L_rd (n := n) (j := 1) F hH.2.2.2 (lv_at hl 0 rfl) (lv_at hl 4 rfl) (by omega) hL dL_law_341 dL_law_342 dL_law_344 rfl dL_law_345 dL_law_346 ?_
  refine L_rd (n := n) (j := 2) F hH.2.2.2 (lv_at hl 0 rfl) (lv_at hl 4 rfl) (by omega) hL dL_law_347 dL_law_348 dL_law_350 rfl dL_law_351 dL_law_352 ?_
  refine L_c (av := [.int (xs (6 * n + 1)), .int (xs (6 * n + 2))]) (rest := []) F P hH (mX5_comes l (gA Γ ac) e1) hl.1 k2_80 qX5_comes rfl ⟨Nat.le_of_ble_eq_true rfl, Nat.le_of_ble_eq_true rfl⟩ hcs (Nat.le_of_ble_eq_true rfl) dL_law_353 (fun H locs hH => ?_)
  refine lv_aload_n hx hb dL_law_356 rfl (lv_at hl 2 rfl) ?_
  refine L_rd (n := n) (j := 1) F hH.2.2.2 (lv_at hl 0 rfl) (lv_at hl 4 rfl) (by omega) hL dL_law_357 dL_law_358 dL_law_360 rfl dL_law_361 dL_law_362 ?_
  refine L_rd (n := n) (j := 2) F hH.2.2.2 (lv_at hl 0 rfl) (lv_at hl 4 rfl) (by omega) hL dL_law_363 dL_law_364 dL_law_366 rfl dL_law_367 dL_law_368 ?_
  refine L_m (av := [.int (xs (6 * n + 1)), .int (xs (6 * n + 2))]) (rest := [.int r]) F P hH (mX6_comes l (gA Γ am) e2) hl.1 k5_75 qX6_comes rfl ⟨Nat.le_of_ble_eq_true rfl, Nat.le_of_ble_eq_true rfl⟩ hcs (Nat.le_of_ble_eq_true rfl) dL_law_369 (fun H locs hH => ?_)
  exact lv_icmp_eq (tgt := 1591) hx hb dL_law_372 (by decide) (fun _ => next _ _ _ _ _ _ _ _ _ R' hH hl) (fun h => absurd rfl h)
set_option maxHeartbeats 4000000 in
set_option maxRecDepth 100000 in
theorem L_minutes (F : Lf Γ p s m meth c b L xs) (P : Lp Γ s ac am ao) (hH : Lh Γ s ac am ao Sc Sm o H locs) (R : Rl Sc Sm x im sh) (hL : L ≤ 384) (hn : 6 * n + 5 < L) (hl : lv_has ls 8 (lws b ac am ao n)) (hcs : cells + 1 ≤ room_1.cells ∧ slots + 6 ≤ room_1.slots) (next : Lnx p l e s m below meth c (cells + 1) (slots + 6) Q Γ ac am ao b n) : W p l e room_1 s m #[Value.ref b] below meth c H locs cells slots Q (F0 m 377 ls []) := by
  obtain ⟨r, Sc', Sm', x', im', sh', e1, e2, R'⟩ := t_minutes R (xs (6 * n + 1))
  have hx := F.1.1
  have hb := F.1.2.1
  refine W.widen (k := cells + 1) (n := slots + 6) (Nat.le_add_right _ _) (Nat.le_add_right _ _) ?_
  refine lv_aload_n hx hb dL_law_377 rfl (lv_at hl 1 rfl) ?_
  refine L_rd (n := n) (j := 1) F hH.2.2.2 (lv_at hl 0 rfl) (lv_at hl 4 rfl) (by omega) hL dL_law_378 dL_law_379 dL_law_381 rfl dL_law_382 dL_law_383 ?_
  refine L_c (av := [.int (xs (6 * n + 1))]) (rest := []) F P hH (mX5_minutes l (gA Γ ac) e1) hl.1 k2_90 qX5_minutes rfl ⟨Nat.le_of_ble_eq_true rfl, Nat.le_of_ble_eq_true rfl⟩ hcs (Nat.le_of_ble_eq_true rfl) dL_law_384 (fun H locs hH => ?_)
  refine lv_aload_n hx hb dL_law_387 rfl (lv_at hl 2 rfl) ?_
  refine L_rd (n := n) (j := 1) F hH.2.2.2 (lv_at hl 0 rfl) (lv_at hl 4 rfl) (by omega) hL dL_law_388 dL_law_389 dL_law_391 rfl dL_law_392 dL_law_393 ?_
  refine L_m (av := [.int (xs (6 * n + 1))]) (rest := [.int r]) F P hH (mX6_minutes l (gA Γ am) e2) hl.1 k5_83 qX6_minutes rfl ⟨Nat.le_of_ble_eq_true rfl, Nat.le_of_ble_eq_true rfl⟩ hcs (Nat.le_of_ble_eq_true rfl) dL_law_394 (fun H locs hH => ?_)
  exact lv_icmp_eq (tgt := 1591) hx hb dL_law_397 (by decide) (fun _ => next _ _ _ _ _ _ _ _ _ R' hH hl) (fun h => absurd rfl h)
set_option maxHeartbeats 4000000 in
set_option maxRecDepth 100000 in
theorem L_which (F : Lf Γ p s m meth c b L xs) (P : Lp Γ s ac am ao) (hH : Lh Γ s ac am ao Sc Sm o H locs) (R : Rl Sc Sm x im sh) (hL : L ≤ 384) (hn : 6 * n + 5 < L) (hl : lv_has ls 8 (lws b ac am ao n)) (hcs : cells + 1 ≤ room_1.cells ∧ slots + 6 ≤ room_1.slots) (next : Lnx p l e s m below meth c (cells + 1) (slots + 6) Q Γ ac am ao b n) : W p l e room_1 s m #[Value.ref b] below meth c H locs cells slots Q (F0 m 402 ls []) := by
  obtain ⟨r, Sc', Sm', x', im', sh', e1, e2, R'⟩ := t_which R (xs (6 * n + 1))
  have hx := F.1.1
  have hb := F.1.2.1
  refine W.widen (k := cells + 1) (n := slots + 6) (Nat.le_add_right _ _) (Nat.le_add_right _ _) ?_
  refine lv_aload_n hx hb dL_law_402 rfl (lv_at hl 1 rfl) ?_
  refine L_rd (n := n) (j := 1) F hH.2.2.2 (lv_at hl 0 rfl) (lv_at hl 4 rfl) (by omega) hL dL_law_403 dL_law_404 dL_law_406 rfl dL_law_407 dL_law_408 ?_
  refine L_c (av := [.int (xs (6 * n + 1))]) (rest := []) F P hH (mX5_which l (gA Γ ac) e1) hl.1 k2_95 qX5_which rfl ⟨Nat.le_of_ble_eq_true rfl, Nat.le_of_ble_eq_true rfl⟩ hcs (Nat.le_of_ble_eq_true rfl) dL_law_409 (fun H locs hH => ?_)
  refine lv_aload_n hx hb dL_law_412 rfl (lv_at hl 2 rfl) ?_
  refine L_rd (n := n) (j := 1) F hH.2.2.2 (lv_at hl 0 rfl) (lv_at hl 4 rfl) (by omega) hL dL_law_413 dL_law_414 dL_law_416 rfl dL_law_417 dL_law_418 ?_
  refine L_m (av := [.int (xs (6 * n + 1))]) (rest := [.int r]) F P hH (mX6_which l (gA Γ am) e2) hl.1 k5_88 qX6_which rfl ⟨Nat.le_of_ble_eq_true rfl, Nat.le_of_ble_eq_true rfl⟩ hcs (Nat.le_of_ble_eq_true rfl) dL_law_419 (fun H locs hH => ?_)
  exact lv_icmp_eq (tgt := 1591) hx hb dL_law_422 (by decide) (fun _ => next _ _ _ _ _ _ _ _ _ R' hH hl) (fun h => absurd rfl h)
set_option maxHeartbeats 4000000 in
set_option maxRecDepth 100000 in
theorem L_best (F : Lf Γ p s m meth c b L xs) (P : Lp Γ s ac am ao) (hH : Lh Γ s ac am ao Sc Sm o H locs) (R : Rl Sc Sm x im sh) (hL : L ≤ 384) (hn : 6 * n + 5 < L) (hl : lv_has ls 8 (lws b ac am ao n)) (hcs : cells + 1 ≤ room_1.cells ∧ slots + 6 ≤ room_1.slots) (next : Lnx p l e s m below meth c (cells + 1) (slots + 6) Q Γ ac am ao b n) : W p l e room_1 s m #[Value.ref b] below meth c H locs cells slots Q (F0 m 427 ls []) := by
  obtain ⟨r, Sc', Sm', x', im', sh', e1, e2, R'⟩ := t_best R (xs (6 * n + 1))
  have hx := F.1.1
  have hb := F.1.2.1
  refine W.widen (k := cells + 1) (n := slots + 6) (Nat.le_add_right _ _) (Nat.le_add_right _ _) ?_
  refine lv_aload_n hx hb dL_law_427 rfl (lv_at hl 1 rfl) ?_
  refine L_rd (n := n) (j := 1) F hH.2.2.2 (lv_at hl 0 rfl) (lv_at hl 4 rfl) (by omega) hL dL_law_428 dL_law_429 dL_law_431 rfl dL_law_432 dL_law_433 ?_
  refine L_c (av := [.int (xs (6 * n + 1))]) (rest := []) F P hH (mX5_best l (gA Γ ac) e1) hl.1 k2_110 qX5_best rfl ⟨Nat.le_of_ble_eq_true rfl, Nat.le_of_ble_eq_true rfl⟩ hcs (Nat.le_of_ble_eq_true rfl) dL_law_434 (fun H locs hH => ?_)
  refine lv_aload_n hx hb dL_law_437 rfl (lv_at hl 2 rfl) ?_
  refine L_rd (n := n) (j := 1) F hH.2.2.2 (lv_at hl 0 rfl) (lv_at hl 4 rfl) (by omega) hL dL_law_438 dL_law_439 dL_law_441 rfl dL_law_442 dL_law_443 ?_
  refine L_m (av := [.int (xs (6 * n + 1))]) (rest := [.int r]) F P hH (mX6_best l (gA Γ am) e2) hl.1 k5_100 qX6_best rfl ⟨Nat.le_of_ble_eq_true rfl, Nat.le_of_ble_eq_true rfl⟩ hcs (Nat.le_of_ble_eq_true rfl) dL_law_444 (fun H locs hH => ?_)
  exact lv_icmp_eq (tgt := 1591) hx hb dL_law_447 (by decide) (fun _ => next _ _ _ _ _ _ _ _ _ R' hH hl) (fun h => absurd rfl h)
set_option maxHeartbeats 4000000 in
set_option maxRecDepth 100000 in
theorem L_regret (F : Lf Γ p s m meth c b L xs) (P : Lp Γ s ac am ao) (hH : Lh Γ s ac am ao Sc Sm o H locs) (R : Rl Sc Sm x im sh) (hL : L ≤ 384) (hn : 6 * n + 5 < L) (hl : lv_has ls 8 (lws b ac am ao n)) (hcs : cells + 1 ≤ room_1.cells ∧ slots + 6 ≤ room_1.slots) (next : Lnx p l e s m below meth c (cells + 1) (slots + 6) Q Γ ac am ao b n) : W p l e room_1 s m #[Value.ref b] below meth c H locs cells slots Q (F0 m 452 ls []) := by
  obtain ⟨r, Sc', Sm', x', im', sh', e1, e2, R'⟩ := t_regret R (xs (6 * n + 1))
  have hx := F.1.1
  have hb := F.1.2.1
  refine W.widen (k := cells + 1) (n := slots + 6) (Nat.le_add_right _ _) (Nat.le_add_right _ _) ?_
  refine lv_aload_n hx hb dL_law_452 rfl (lv_at hl 1 rfl) ?_
  refine L_rd (n := n) (j := 1) F hH.2.2.2 (lv_at hl 0 rfl) (lv_at hl 4 rfl) (by omega) hL dL_law_453 dL_law_454 dL_law_456 rfl dL_law_457 dL_law_458 ?_
  refine L_c (av := [.int (xs (6 * n + 1))]) (rest := []) F P hH (mX5_regret l (gA Γ ac) e1) hl.1 k2_119 qX5_regret rfl ⟨Nat.le_of_ble_eq_true rfl, Nat.le_of_ble_eq_true rfl⟩ hcs (Nat.le_of_ble_eq_true rfl) dL_law_459 (fun H locs hH => ?_)
  refine lv_aload_n hx hb dL_law_462 rfl (lv_at hl 2 rfl) ?_
  refine L_rd (n := n) (j := 1) F hH.2.2.2 (lv_at hl 0 rfl) (lv_at hl 4 rfl) (by omega) hL dL_law_463 dL_law_464 dL_law_466 rfl dL_law_467 dL_law_468 ?_
  refine L_m (av := [.int (xs (6 * n + 1))]) (rest := [.int r]) F P hH (mX6_regret l (gA Γ am) e2) hl.1 k5_108 qX6_regret rfl ⟨Nat.le_of_ble_eq_true rfl, Nat.le_of_ble_eq_true rfl⟩ hcs (Nat.le_of_ble_eq_true rfl) dL_law_469 (fun H locs hH => ?_)
  exact lv_icmp_eq (tgt := 1591) hx hb dL_law_472 (by decide) (fun _ => next _ _ _ _ _ _ _ _ _ R' hH hl) (fun h => absurd rfl h)
set_option maxHeartbeats 4000000 in
set_option maxRecDepth 100000 in
theorem L_time (F : Lf Γ p s m meth c b L xs) (P : Lp Γ s ac am ao) (hH : Lh Γ s ac am ao Sc Sm o H locs) (R : Rl Sc Sm x im sh) (hL : L ≤ 384) (hn : 6 * n + 5 < L) (hl : lv_has ls 8 (lws b ac am ao n)) (hcs : cells + 1 ≤ room_1.cells ∧ slots + 6 ≤ room_1.slots) (next : Lnx p l e s m below meth c (cells + 1) (slots + 6) Q Γ ac am ao b n) : W p l e room_1 s m #[Value.ref b] below meth c H locs cells slots Q (F0 m 477 ls []) := by
  obtain ⟨r, Sc', Sm', x', im', sh', e1, e2, R'⟩ := t_time R (xs (6 * n + 1)) (xs (6 * n + 2))
  have hx := F.1.1
  have hb := F.1.2.1
  refine W.widen (k := cells + 1) (n := slots + 6) (Nat.le_add_right _ _) (Nat.le_add_right _ _) ?_
  refine lv_aload_n hx hb dL_law_477 rfl (lv_at hl 1 rfl) ?_
  refine L_rd (n := n) (j := 1) F hH.2.2.2 (lv_at hl 0 rfl) (lv_at hl 4 rfl) (by omega) hL dL_law_478 dL_law_479 dL_law_481 rfl dL_law_482 dL_law_483 ?_
  refine L_rd (n := n) (j := 2) F hH.2.2.2 (lv_at hl 0 rfl) (lv_at hl 4 rfl) (by omega) hL dL_law_484 dL_law_485 dL_law_487 rfl dL_law_488 dL_law_489 ?_
  refine L_c (av := [.int (xs (6 * n + 1)), .int (xs (6 * n + 2))]) (rest := []) F P hH (mX5_time l (gA Γ ac) e1) hl.1 k2_132 qX5_time rfl ⟨Nat.le_of_ble_eq_true rfl, Nat.le_of_ble_eq_true rfl⟩ hcs (Nat.le_of_ble_eq_true rfl) dL_law_490 (fun H locs hH => ?_)
  refine lv_aload_n hx hb dL_law_493 rfl (lv_at hl 2 rfl) ?_
  refine L_rd (n := n) (j := 1) F hH.2.2.2 (lv_at hl 0 rfl) (lv_at hl 4 rfl) (by omega) hL dL_law_494 dL_law_495 dL_law_497 rfl dL_law_498 dL_law_499 ?_
  refine L_rd (n := n) (j := 2) F hH.2.2.2 (lv_at hl 0 rfl) (lv_at hl 4 rfl) (by omega) hL dL_law_500 dL_law_501 dL_law_503 rfl dL_law_504 dL_law_505 ?_
  refine L_m (av := [.int (xs (6 * n + 1)), .int (xs (6 * n + 2))]) (rest := [.int r]) F P hH (mX6_time l (gA Γ am) e2) hl.1 k5_116 qX6_time rfl ⟨Nat.le_of_ble_eq_true rfl, Nat.le_of_ble_eq_true rfl⟩ hcs (Nat.le_of_ble_eq_true rfl) dL_law_506 (fun H locs hH => ?_)
  exact lv_icmp_eq (tgt := 1591) hx hb dL_law_509 (by decide) (fun _ => next _ _ _ _ _ _ _ _ _ R' hH hl) (fun h => absurd rfl h)
set_option maxHeartbeats 4000000 in
set_option maxRecDepth 100000 in
theorem L_all (F : Lf Γ p s m meth c b L xs) (P : Lp Γ s ac am ao) (hH : Lh Γ s ac am ao Sc Sm o H locs) (R : Rl Sc Sm x im sh) (hL : L ≤ 384) (hn : 6 * n + 5 < L) (hl : lv_has ls 8 (lws b ac am ao n)) (hcs : cells + 1 ≤ room_1.cells ∧ slots + 6 ≤ room_1.slots) (next : Lnx p l e s m below meth c (cells + 1) (slots + 6) Q Γ ac am ao b n) : W p l e room_1 s m #[Value.ref b] below meth c H locs cells slots Q (F0 m 514 ls []) := by
  obtain ⟨r, Sc', Sm', x', im', sh', e1, e2, R'⟩ := t_all R
  have hx := F.1.1
  have hb := F.1.2.1
  refine W.widen (k := cells + 1) (n := slots + 6) (Nat.le_add_right _ _) (Nat.le_add_right _ _) ?_
  refine lv_aload_n hx hb dL_law_514 rfl (lv_at hl 1 rfl) ?_
  refine L_c (av := []) (rest := []) F P hH (mX5_all l (gA Γ ac) e1) hl.1 k2_137 qX5_all rfl ⟨Nat.le_of_ble_eq_true rfl, Nat.le_of_ble_eq_true rfl⟩ hcs (Nat.le_of_ble_eq_true rfl) dL_law_515 (fun H locs hH => ?_)
  refine lv_aload_n hx hb dL_law_518 rfl (lv_at hl 2 rfl) ?_
  refine L_m (av := []) (rest := [.int r]) F P hH (mX6_all l (gA Γ am) e2) hl.1 k5_124 qX6_all rfl ⟨Nat.le_of_ble_eq_true rfl, Nat.le_of_ble_eq_true rfl⟩ hcs (Nat.le_of_ble_eq_true rfl) dL_law_519 (fun H locs hH => ?_)
  exact lv_icmp_eq (tgt := 1591) hx hb dL_law_522 (by decide) (fun _ => next _ _ _ _ _ _ _ _ _ R' hH hl) (fun h => absurd rfl h)
set_option maxHeartbeats 4000000 in
set_option maxRecDepth 100000 in
theorem L_change (F : Lf Γ p s m meth c b L xs) (P : Lp Γ s ac am ao) (hH : Lh Γ s ac am ao Sc Sm o H locs) (R : Rl Sc Sm x im sh) (hL : L ≤ 384) (hn : 6 * n + 5 < L) (hl : lv_has ls 8 (lws b ac am ao n)) (hcs : cells + 1 ≤ room_1.cells ∧ slots + 6 ≤ room_1.slots) (next : Lnx p l e s m below meth c (cells + 1) (slots + 6) Q Γ ac am ao b n) : W p l e room_1 s m #[Value.ref b] below meth c H locs cells slots Q (F0 m 527 ls []) := by
  obtain ⟨r, Sc', Sm', x', im', sh', e1, e2, R'⟩ := t_change R (xs (6 * n + 1)) (xs (6 * n + 2)) (xs (6 * n + 3)) (xs (6 * n + 4))
  have hx := F.1.1
  have hb := F.1.2.1
  refine W.widen (k := cells + 1) (n := slots + 6) (Nat.le_add_right _ _) (Nat.le_add_right _ _) ?_
  refine lv_aload_n hx hb dL_law_527 rfl (lv_at hl 1 rfl) ?_
  refine L_rd (n := n) (j := 1) F hH.2.2.2 (lv_at hl 0 rfl) (lv_at hl 4 rfl) (by omega) hL dL_law_528 dL_law_529 dL_law_531 rfl dL_law_532 dL_law_533 ?_
  refine L_rd (n := n) (j := 2) F hH.2.2.2 (lv_at hl 0 rfl) (lv_at hl 4 rfl) (by omega) hL dL_law_534 dL_law_535 dL_law_537 rfl dL_law_538 dL_law_539 ?_
  refine L_rd (n := n) (j := 3) F hH.2.2.2 (lv_at hl 0 rfl) (lv_at hl 4 rfl) (by omega) hL dL_law_540 dL_law_541 dL_law_543 rfl dL_law_544 dL_law_545 ?_
  refine L_rd (n := n) (j := 4) F hH.2.2.2 (lv_at hl 0 rfl) (lv_at hl 4 rfl) (by omega) hL dL_law_546 dL_law_547 dL_law_549 rfl dL_law_550 dL_law_551 ?_
  refine L_c (av := [.int (xs (6 * n + 1)), .int (xs (6 * n + 2)), .int (xs (6 * n + 3)), .int (xs (6 * n + 4))]) (rest := []) F P hH (mX5_change l (gA Γ ac) e1) hl.1 k2_149 qX5_change rfl ⟨Nat.le_of_ble_eq_true rfl, Nat.le_of_ble_eq_true rfl⟩ hcs (Nat.le_of_ble_eq_true rfl) dL_law_552 (fun H locs hH => ?_)
  refine lv_aload_n hx hb dL_law_555 rfl (lv_at hl 2 rfl) ?_
  refine L_rd (n := n) (j := 1) F hH.2.2.2 (lv_at hl 0 rfl) (lv_at hl 4 rfl) (by omega) hL dL_law_556 dL_law_557 dL_law_559 rfl dL_law_560 dL_law_561 ?_
  refine L_rd (n := n) (j := 2) F hH.2.2.2 (lv_at hl 0 rfl) (lv_at hl 4 rfl) (by omega) hL dL_law_562 dL_law_563 dL_law_565 rfl dL_law_566 dL_law_567 ?_
  refine L_rd (n := n) (j := 3) F hH.2.2.2 (lv_at hl 0 rfl) (lv_at hl 4 rfl) (by omega) hL dL_law_568 dL_law_569 dL_law_571 rfl dL_law_572 dL_law_573 ?_
  refine L_rd (n := n) (j := 4) F hH.2.2.2 (lv_at hl 0 rfl) (lv_at hl 4 rfl) (by omega) hL dL_law_574 dL_law_575 dL_law_577 rfl dL_law_578 dL_law_579 ?_
  refine L_m (av := [.int (xs (6 * n + 1)), .int (xs (6 * n + 2)), .int (xs (6 * n + 3)), .int (xs (6 * n + 4))]) (rest := [.int r]) F P hH (mX6_change l (gA Γ am) e2) hl.1 k5_132 qX6_change rfl ⟨Nat.le_of_ble_eq_true rfl, Nat.le_of_ble_eq_true rfl⟩ hcs (Nat.le_of_ble_eq_true rfl) dL_law_580 (fun H locs hH => ?_)
  exact lv_icmp_eq (tgt := 1591) hx hb dL_law_583 (by decide) (fun _ => next _ _ _ _ _ _ _ _ _ R' hH hl) (fun h => absurd rfl h)
set_option maxHeartbeats 4000000 in
set_option maxRecDepth 100000 in
theorem L_changes (F : Lf Γ p s m meth c b L xs) (P : Lp Γ s ac am ao) (hH : Lh Γ s ac am ao Sc Sm o H locs) (R : Rl Sc Sm x im sh) (hL : L ≤ 384) (hn : 6 * n + 5 < L) (hl : lv_has ls 8 (lws b ac am ao n)) (hcs : cells + 1 ≤ room_1.cells ∧ slots + 6 ≤ room_1.slots) (next : Lnx p l e s m below meth c (cells + 1) (slots + 6) Q Γ ac am ao b n) : W p l e room_1 s m #[Value.ref b] below meth c H locs cells slots Q (F0 m 588 ls []) := by
  obtain ⟨r, Sc', Sm', x', im', sh', e1, e2, R'⟩ := t_changes R (xs (6 * n + 1)) (xs (6 * n + 2)) (xs (6 * n + 3))
  have hx := F.1.1
  have hb := F.1.2.1
  refine W.widen (k := cells + 1) (n := slots + 6) (Nat.le_add_right _ _) (Nat.le_add_right _ _) ?_
  refine lv_aload_n hx hb dL_law_588 rfl (lv_at hl 1 rfl) ?_
  refine L_rd (n := n) (j := 1) F hH.2.2.2 (lv_at hl 0 rfl) (lv_at hl 4 rfl) (by omega) hL dL_law_589 dL_law_590 dL_law_592 rfl dL_law_593 dL_law_594 ?_
  refine L_rd (n := n) (j := 2) F hH.2.2.2 (lv_at hl 0 rfl) (lv_at hl 4 rfl) (by omega) hL dL_law_595 dL_law_596 dL_law_598 rfl dL_law_599 dL_law_600 ?_
  refine L_rd (n := n) (j := 3) F hH.2.2.2 (lv_at hl 0 rfl) (lv_at hl 4 rfl) (by omega) hL dL_law_601 dL_law_602 dL_law_604 rfl dL_law_605 dL_law_606 ?_
  refine L_c (av := [.int (xs (6 * n + 1)), .int (xs (6 * n + 2)), .int (xs (6 * n + 3))]) (rest := []) F P hH (mX5_changes l (gA Γ ac) e1) hl.1 k2_180 qX5_changes rfl ⟨Nat.le_of_ble_eq_true rfl, Nat.le_of_ble_eq_true rfl⟩ hcs (Nat.le_of_ble_eq_true rfl) dL_law_607 (fun H locs hH => ?_)
  refine lv_aload_n hx hb dL_law_610 rfl (lv_at hl 2 rfl) ?_
  refine L_rd (n := n) (j := 1) F hH.2.2.2 (lv_at hl 0 rfl) (lv_at hl 4 rfl) (by omega) hL dL_law_611 dL_law_612 dL_law_614 rfl dL_law_615 dL_law_616 ?_
  refine L_rd (n := n) (j := 2) F hH.2.2.2 (lv_at hl 0 rfl) (lv_at hl 4 rfl) (by omega) hL dL_law_617 dL_law_618 dL_law_620 rfl dL_law_621 dL_law_622 ?_
  refine L_rd (n := n) (j := 3) F hH.2.2.2 (lv_at hl 0 rfl) (lv_at hl 4 rfl) (by omega) hL dL_law_623 dL_law_624 dL_law_626 rfl dL_law_627 dL_law_628 ?_
  refine L_m (av := [.int (xs (6 * n + 1)), .int (xs (6 * n + 2)), .int (xs (6 * n + 3))]) (rest := [.int r]) F P hH (mX6_changes l (gA Γ am) e2) hl.1 k5_153 qX6_changes rfl ⟨Nat.le_of_ble_eq_true rfl, Nat.le_of_ble_eq_true rfl⟩ hcs (Nat.le_of_ble_eq_true rfl) dL_law_629 (fun H locs hH => ?_)
  exact lv_icmp_eq (tgt := 1591) hx hb dL_law_632 (by decide) (fun _ => next _ _ _ _ _ _ _ _ _ R' hH hl) (fun h => absurd rfl h)
set_option maxHeartbeats 4000000 in
set_option maxRecDepth 100000 in
theorem L_paysMost (F : Lf Γ p s m meth c b L xs) (P : Lp Γ s ac am ao) (hH : Lh Γ s ac am ao Sc Sm o H locs) (R : Rl Sc Sm x im sh) (hL : L ≤ 384) (hn : 6 * n + 5 < L) (hl : lv_has ls 8 (lws b ac am ao n)) (hcs : cells + 1 ≤ room_1.cells ∧ slots + 6 ≤ room_1.slots) (next : Lnx p l e s m below meth c (cells + 1) (slots + 6) Q Γ ac am ao b n) : W p l e room_1 s m #[Value.ref b] below meth c H locs cells slots Q (F0 m 637 ls []) := by
  obtain ⟨r, Sc', Sm', x', im', sh', e1, e2, R'⟩ := t_paysMost R (xs (6 * n + 1))
  have hx := F.1.1
  have hb := F.1.2.1
  refine W.widen (k := cells + 1) (n := slots + 6) (Nat.le_add_right _ _) (Nat.le_add_right _ _) ?_
  refine lv_aload_n hx hb dL_law_637 rfl (lv_at hl 1 rfl) ?_
  refine L_rd (n := n) (j := 1) F hH.2.2.2 (lv_at hl 0 rfl) (lv_at hl 4 rfl) (by omega) hL dL_law_638 dL_law_639 dL_law_641 rfl dL_law_642 dL_law_643 ?_
  refine L_c (av := [.int (xs (6 * n + 1))]) (rest := []) F P hH (mX5_paysMost l (gA Γ ac) e1) hl.1 k2_184 qX5_paysMost rfl ⟨Nat.le_of_ble_eq_true rfl, Nat.le_of_ble_eq_true rfl⟩ hcs (Nat.le_of_ble_eq_true rfl) dL_law_644 (fun H locs hH => ?_)
  refine lv_aload_n hx hb dL_law_647 rfl (lv_at hl 2 rfl) ?_
  refine L_rd (n := n) (j := 1) F hH.2.2.2 (lv_at hl 0 rfl) (lv_at hl 4 rfl) (by omega) hL dL_law_648 dL_law_649 dL_law_651 rfl dL_law_652 dL_law_653 ?_
  refine L_m (av := [.int (xs (6 * n + 1))]) (rest := [.int r]) F P hH (mX6_paysMost l (gA Γ am) e2) hl.1 k5_157 qX6_paysMost rfl ⟨Nat.le_of_ble_eq_true rfl, Nat.le_of_ble_eq_true rfl⟩ hcs (Nat.le_of_ble_eq_true rfl) dL_law_654 (fun H locs hH => ?_)
  exact lv_icmp_eq (tgt := 1591) hx hb dL_law_657 (by decide) (fun _ => next _ _ _ _ _ _ _ _ _ R' hH hl) (fun h => absurd rfl h)
set_option maxHeartbeats 4000000 in
set_option maxRecDepth 100000 in
theorem L_rests (F : Lf Γ p s m meth c b L xs) (P : Lp Γ s ac am ao) (hH : Lh Γ s ac am ao Sc Sm o H locs) (R : Rl Sc Sm x im sh) (hL : L ≤ 384) (hn : 6 * n + 5 < L) (hl : lv_has ls 8 (lws b ac am ao n)) (hcs : cells + 1 ≤ room_1.cells ∧ slots + 6 ≤ room_1.slots) (next : Lnx p l e s m below meth c (cells + 1) (slots + 6) Q Γ ac am ao b n) : W p l e room_1 s m #[Value.ref b] below meth c H locs cells slots Q (F0 m 662 ls []) := by
  obtain ⟨r, Sc', Sm', x', im', sh', e1, e2, R'⟩ := t_rests R (xs (6 * n + 1)) (xs (6 * n + 2))
  have hx := F.1.1
  have hb := F.1.2.1
  refine W.widen (k := cells + 1) (n := slots + 6) (Nat.le_add_right _ _) (Nat.le_add_right _ _) ?_
  refine lv_aload_n hx hb dL_law_662 rfl (lv_at hl 1 rfl) ?_
  refine L_rd (n := n) (j := 1) F hH.2.2.2 (lv_at hl 0 rfl) (lv_at hl 4 rfl) (by omega) hL dL_law_663 dL_law_664 dL_law_666 rfl dL_law_667 dL_law_668 ?_
  refine L_rd (n := n) (j := 2) F hH.2.2.2 (lv_at hl 0 rfl) (lv_at hl 4 rfl) (by omega) hL dL_law_669 dL_law_670 dL_law_672 rfl dL_law_673 dL_law_674 ?_
  refine L_c (av := [.int (xs (6 * n + 1)), .int (xs (6 * n + 2))]) (rest := []) F P hH (mX5_rests l (gA Γ ac) e1) hl.1 k2_197 qX5_rests rfl ⟨Nat.le_of_ble_eq_true rfl, Nat.le_of_ble_eq_true rfl⟩ hcs (Nat.le_of_ble_eq_true rfl) dL_law_675 (fun H locs hH => ?_)
  refine lv_aload_n hx hb dL_law_678 rfl (lv_at hl 2 rfl) ?_
  refine L_rd (n := n) (j := 1) F hH.2.2.2 (lv_at hl 0 rfl) (lv_at hl 4 rfl) (by omega) hL dL_law_679 dL_law_680 dL_law_682 rfl dL_law_683 dL_law_684 ?_
  refine L_rd (n := n) (j := 2) F hH.2.2.2 (lv_at hl 0 rfl) (lv_at hl 4 rfl) (by omega) hL dL_law_685 dL_law_686 dL_law_688 rfl dL_law_689 dL_law_690 ?_
  refine L_m (av := [.int (xs (6 * n + 1)), .int (xs (6 * n + 2))]) (rest := [.int r]) F P hH (mX6_rests l (gA Γ am) e2) hl.1 k5_166 qX6_rests rfl ⟨Nat.le_of_ble_eq_true rfl, Nat.le_of_ble_eq_true rfl⟩ hcs (Nat.le_of_ble_eq_true rfl) dL_law_691 (fun H locs hH => ?_)
  exact lv_icmp_eq (tgt := 1591) hx hb dL_law_694 (by decide) (fun _ => next _ _ _ _ _ _ _ _ _ R' hH hl) (fun h => absurd rfl h)
set_option maxHeartbeats 4000000 in
set_option maxRecDepth 100000 in
theorem L_least (F : Lf Γ p s m meth c b L xs) (P : Lp Γ s ac am ao) (hH : Lh Γ s ac am ao Sc Sm o H locs) (R : Rl Sc Sm x im sh) (hL : L ≤ 384) (hn : 6 * n + 5 < L) (hl : lv_has ls 8 (lws b ac am ao n)) (hcs : cells + 1 ≤ room_1.cells ∧ slots + 6 ≤ room_1.slots) (next : Lnx p l e s m below meth c (cells + 1) (slots + 6) Q Γ ac am ao b n) : W p l e room_1 s m #[Value.ref b] below meth c H locs cells slots Q (F0 m 699 ls []) := by
  obtain ⟨r, Sc', Sm', x', im', sh', e1, e2, R'⟩ := t_least R
  have hx := F.1.1
  have hb := F.1.2.1
  refine W.widen (k := cells + 1) (n := slots + 6) (Nat.le_add_right _ _) (Nat.le_add_right _ _) ?_
  refine lv_aload_n hx hb dL_law_699 rfl (lv_at hl 1 rfl) ?_
  refine L_c (av := []) (rest := []) F P hH (mX5_least l (gA Γ ac) e1) hl.1 k2_201 qX5_least rfl ⟨Nat.le_of_ble_eq_true rfl, Nat.le_of_ble_eq_true rfl⟩ hcs (Nat.le_of_ble_eq_true rfl) dL_law_700 (fun H locs hH => ?_)
  refine lv_aload_n hx hb dL_law_703 rfl (lv_at hl 2 rfl) ?_
  refine L_m (av := []) (rest := [.int r]) F P hH (mX6_least l (gA Γ am) e2) hl.1 k5_170 qX6_least rfl ⟨Nat.le_of_ble_eq_true rfl, Nat.le_of_ble_eq_true rfl⟩ hcs (Nat.le_of_ble_eq_true rfl) dL_law_704 (fun H locs hH => ?_)
  exact lv_icmp_eq (tgt := 1591) hx hb dL_law_707 (by decide) (fun _ => next _ _ _ _ _ _ _ _ _ R' hH hl) (fun h => absurd rfl h)
set_option maxHeartbeats 4000000 in
set_option maxRecDepth 100000 in
theorem L_oneLine (F : Lf Γ p s m meth c b L xs) (P : Lp Γ s ac am ao) (hH : Lh Γ s ac am ao Sc Sm o H locs) (R : Rl Sc Sm x im sh) (hL : L ≤ 384) (hn : 6 * n + 5 < L) (hl : lv_has ls 8 (lws b ac am ao n)) (hcs : cells + 1 ≤ room_1.cells ∧ slots + 6 ≤ room_1.slots) (next : Lnx p l e s m below meth c (cells + 1) (slots + 6) Q Γ ac am ao b n) : W p l e room_1 s m #[Value.ref b] below meth c H locs cells slots Q (F0 m 712 ls []) := by
  obtain ⟨r, Sc', Sm', x', im', sh', e1, e2, R'⟩ := t_oneLine R
  have hx := F.1.1
  have hb := F.1.2.1
  refine W.widen (k := cells + 1) (n := slots + 6) (Nat.le_add_right _ _) (Nat.le_add_right _ _) ?_
  refine lv_aload_n hx hb dL_law_712 rfl (lv_at hl 1 rfl) ?_
  refine L_c (av := []) (rest := []) F P hH (mX5_oneLine l (gA Γ ac) e1) hl.1 k2_230 qX5_oneLine rfl ⟨Nat.le_of_ble_eq_true rfl, Nat.le_of_ble_eq_true rfl⟩ hcs (Nat.le_of_ble_eq_true rfl) dL_law_713 (fun H locs hH => ?_)
  refine lv_aload_n hx hb dL_law_716 rfl (lv_at hl 2 rfl) ?_
  refine L_m (av := []) (rest := [.int r]) F P hH (mX6_oneLine l (gA Γ am) e2) hl.1 k5_190 qX6_oneLine rfl ⟨Nat.le_of_ble_eq_true rfl, Nat.le_of_ble_eq_true rfl⟩ hcs (Nat.le_of_ble_eq_true rfl) dL_law_717 (fun H locs hH => ?_)
  exact lv_icmp_eq (tgt := 1591) hx hb dL_law_720 (by decide) (fun _ => next _ _ _ _ _ _ _ _ _ R' hH hl) (fun h => absurd rfl h)
set_option maxHeartbeats 4000000 in
set_option maxRecDepth 100000 in
theorem L_beside (F : Lf Γ p s m meth c b L xs) (P : Lp Γ s ac am ao) (hH : Lh Γ s ac am ao Sc Sm o H locs) (R : Rl Sc Sm x im sh) (hL : L ≤ 384) (hn : 6 * n + 5 < L) (hl : lv_has ls 8 (lws b ac am ao n)) (hcs : cells + 1 ≤ room_1.cells ∧ slots + 6 ≤ room_1.slots) (next : Lnx p l e s m below meth c (cells + 1) (slots + 6) Q Γ ac am ao b n) : W p l e room_1 s m #[Value.ref b] below meth c H locs cells slots Q (F0 m 725 ls []) := by
  obtain ⟨r, Sc', Sm', x', im', sh', e1, e2, R'⟩ := t_beside R (xs (6 * n + 1)) (xs (6 * n + 2)) (xs (6 * n + 3))
  have hx := F.1.1
  have hb := F.1.2.1
  refine W.widen (k := cells + 1) (n := slots + 6) (Nat.le_add_right _ _) (Nat.le_add_right _ _) ?_
  refine lv_aload_n hx hb dL_law_725 rfl (lv_at hl 1 rfl) ?_
  refine L_rd (n := n) (j := 1) F hH.2.2.2 (lv_at hl 0 rfl) (lv_at hl 4 rfl) (by omega) hL dL_law_726 dL_law_727 dL_law_729 rfl dL_law_730 dL_law_731 ?_
  refine L_rd (n := n) (j := 2) F hH.2.2.2 (lv_at hl 0 rfl) (lv_at hl 4 rfl) (by omega) hL dL_law_732 dL_law_733 dL_law_735 rfl dL_law_736 dL_law_737 ?_
  refine L_rd (n := n) (j := 3) F hH.2.2.2 (lv_at hl 0 rfl) (lv_at hl 4 rfl) (by omega) hL dL_law_738 dL_law_739 dL_law_741 rfl dL_law_742 dL_law_743 ?_
  refine L_c (av := [.int (xs (6 * n + 1)), .int (xs (6 * n + 2)), .int (xs (6 * n + 3))]) (rest := []) F P hH (mX5_beside l (gA Γ ac) e1) hl.1 k2_238 qX5_beside rfl ⟨Nat.le_of_ble_eq_true rfl, Nat.le_of_ble_eq_true rfl⟩ hcs (Nat.le_of_ble_eq_true rfl) dL_law_744 (fun H locs hH => ?_)
  refine lv_aload_n hx hb dL_law_747 rfl (lv_at hl 2 rfl) ?_
  refine L_rd (n := n) (j := 1) F hH.2.2.2 (lv_at hl 0 rfl) (lv_at hl 4 rfl) (by omega) hL dL_law_748 dL_law_749 dL_law_751 rfl dL_law_752 dL_law_753 ?_
  refine L_rd (n := n) (j := 2) F hH.2.2.2 (lv_at hl 0 rfl) (lv_at hl 4 rfl) (by omega) hL dL_law_754 dL_law_755 dL_law_757 rfl dL_law_758 dL_law_759 ?_
  refine L_rd (n := n) (j := 3) F hH.2.2.2 (lv_at hl 0 rfl) (lv_at hl 4 rfl) (by omega) hL dL_law_760 dL_law_761 dL_law_763 rfl dL_law_764 dL_law_765 ?_
  refine L_m (av := [.int (xs (6 * n + 1)), .int (xs (6 * n + 2)), .int (xs (6 * n + 3))]) (rest := [.int r]) F P hH (mX6_beside l (gA Γ am) e2) hl.1 k5_194 qX6_beside rfl ⟨Nat.le_of_ble_eq_true rfl, Nat.le_of_ble_eq_true rfl⟩ hcs (Nat.le_of_ble_eq_true rfl) dL_law_766 (fun H locs hH => ?_)
  exact lv_icmp_eq (tgt := 1591) hx hb dL_law_769 (by decide) (fun _ => next _ _ _ _ _ _ _ _ _ R' hH hl) (fun h => absurd rfl h)
set_option maxHeartbeats 4000000 in
set_option maxRecDepth 100000 in
theorem L_comers (F : Lf Γ p s m meth c b L xs) (P : Lp Γ s ac am ao) (hH : Lh Γ s ac am ao Sc Sm o H locs) (R : Rl Sc Sm x im sh) (hL : L ≤ 384) (hn : 6 * n + 5 < L) (hl : lv_has ls 8 (lws b ac am ao n)) (hcs : cells + 1 ≤ room_1.cells ∧ slots + 6 ≤ room_1.slots) (next : Lnx p l e s m below meth c (cells + 1) (slots + 6) Q Γ ac am ao b n) : W p l e room_1 s m #[Value.ref b] below meth c H locs cells slots Q (F0 m 774 ls []) := by
  obtain ⟨r, Sc', Sm', x', im', sh', e1, e2, R'⟩ := t_comers R (xs (6 * n + 1)) (xs (6 * n + 2)) (xs (6 * n + 3)) (xs (6 * n + 4))
  have hx := F.1.1
  have hb := F.1.2.1
  refine W.widen (k := cells + 1) (n := slots + 6) (Nat.le_add_right _ _) (Nat.le_add_right _ _) ?_
  refine lv_aload_n hx hb dL_law_774 rfl (lv_at hl 1 rfl) ?_
  refine L_rd (n := n) (j := 1) F hH.2.2.2 (lv_at hl 0 rfl) (lv_at hl 4 rfl) (by omega) hL dL_law_775 dL_law_776 dL_law_778 rfl dL_law_779 dL_law_780 ?_
  refine L_rd (n := n) (j := 2) F hH.2.2.2 (lv_at hl 0 rfl) (lv_at hl 4 rfl) (by omega) hL dL_law_781 dL_law_782 dL_law_784 rfl dL_law_785 dL_law_786 ?_
  refine L_rd (n := n) (j := 3) F hH.2.2.2 (lv_at hl 0 rfl) (lv_at hl 4 rfl) (by omega) hL dL_law_787 dL_law_788 dL_law_790 rfl dL_law_791 dL_law_792 ?_
  refine L_rd (n := n) (j := 4) F hH.2.2.2 (lv_at hl 0 rfl) (lv_at hl 4 rfl) (by omega) hL dL_law_793 dL_law_794 dL_law_796 rfl dL_law_797 dL_law_798 ?_
  refine L_c (av := [.int (xs (6 * n + 1)), .int (xs (6 * n + 2)), .int (xs (6 * n + 3)), .int (xs (6 * n + 4))]) (rest := []) F P hH (mX5_comers l (gA Γ ac) e1) hl.1 k3_3 qX5_comers rfl ⟨Nat.le_of_ble_eq_true rfl, Nat.le_of_ble_eq_true rfl⟩ hcs (Nat.le_of_ble_eq_true rfl) dL_law_799 (fun H locs hH => ?_)
  refine lv_aload_n hx hb dL_law_802 rfl (lv_at hl 2 rfl) ?_
  refine L_rd (n := n) (j := 1) F hH.2.2.2 (lv_at hl 0 rfl) (lv_at hl 4 rfl) (by omega) hL dL_law_803 dL_law_804 dL_law_806 rfl dL_law_807 dL_law_808 ?_
  refine L_rd (n := n) (j := 2) F hH.2.2.2 (lv_at hl 0 rfl) (lv_at hl 4 rfl) (by omega) hL dL_law_809 dL_law_810 dL_law_812 rfl dL_law_813 dL_law_814 ?_
  refine L_rd (n := n) (j := 3) F hH.2.2.2 (lv_at hl 0 rfl) (lv_at hl 4 rfl) (by omega) hL dL_law_815 dL_law_816 dL_law_818 rfl dL_law_819 dL_law_820 ?_
  refine L_rd (n := n) (j := 4) F hH.2.2.2 (lv_at hl 0 rfl) (lv_at hl 4 rfl) (by omega) hL dL_law_821 dL_law_822 dL_law_824 rfl dL_law_825 dL_law_826 ?_
  refine L_m (av := [.int (xs (6 * n + 1)), .int (xs (6 * n + 2)), .int (xs (6 * n + 3)), .int (xs (6 * n + 4))]) (rest := [.int r]) F P hH (mX6_comers l (gA Γ am) e2) hl.1 k5_199 qX6_comers rfl ⟨Nat.le_of_ble_eq_true rfl, Nat.le_of_ble_eq_true rfl⟩ hcs (Nat.le_of_ble_eq_true rfl) dL_law_827 (fun H locs hH => ?_)
  exact lv_icmp_eq (tgt := 1591) hx hb dL_law_830 (by decide) (fun _ => next _ _ _ _ _ _ _ _ _ R' hH hl) (fun h => absurd rfl h)
end Lc
