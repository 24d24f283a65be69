-- X6_opens
theorem qX6_opens : Cond.instanceMethod yX6_opens ∈ Ub ∧ Cond.selects RX6 yX6_opens yX6_opens ∈ Ub ∧ Cond.initialized RX6 ∈ Ub ∧ Cond.code yX6_opens cX6_opens 10 (some FieldType.int) ∈ Ub ∧ (yX6_opens.cls = RX6 ∧ yX6_opens.cls ≠ "java/lang/invoke/MethodHandle" ∧ yX6_opens.cls ≠ "java/lang/invoke/VarHandle" ∧ (parseMethodDescriptor yX6_opens.desc).map (fun d => d.parameters.length) = some 3) := ⟨k5_214, k5_215, k1_5, k5_216, by decide +kernel⟩
def fX6_opens_215  (K61 : mM → Int32 → Int32 → Int32 → Int32 → Int32 → Option (Int32 × mM)) (S : mM) (x1 : Int32) (x2 : Int32) (x3 : Int32) (x5 : Int32) (x6 : Int32) : Option (Int32 × mM) :=
  K61 S x1 x2 x3 x5 (x6 + (nI 1))
set_option maxHeartbeats 4000000 in
set_option maxRecDepth 100000 in
theorem wX6_opens_215 {p : Program} {l : Launch} {e : Env} {s : State} {m : MethodId} {args : Array Value} {below : List Frame} {meth : Method} {c : Code} {Γ : gG} {rz : Int32} {Sz : mM} (C : Cx Γ 28 p s m args meth c RX6 cX6_opens 10 (some .int))  {K61 : mM → Int32 → Int32 → Int32 → Int32 → Int32 → Option (Int32 × mM)} (hK61 : ∀ (S : mM) (x1 : Int32) (x2 : Int32) (x3 : Int32) (x5 : Int32) (x6 : Int32) , K61 S x1 x2 x3 x5 x6 = some (rz, Sz) → ∀ (H : Heap) (locs : List Loc) (ls : Array Slot), St Γ 28 (mE Γ S) s.heap H locs → lv_has ls 10 [(0, .ref (Γ.2.2 (0))), (1, .int x1), (2, .int x2), (3, .int x3), (5, .int x5), (6, .int x6)] → W p l e { frames := 6, cells := 0, slots := 0, locals := 133 } s m args below meth c H locs 0 0 (MQ below (gQi Γ 28 rz (mE Γ Sz)) args s 0 0 (wA Γ 28)) (F0 m 61 ls [])) : ∀ (S : mM) (x1 : Int32) (x2 : Int32) (x3 : Int32) (x5 : Int32) (x6 : Int32) , fX6_opens_215  K61 S x1 x2 x3 x5 x6 = some (rz, Sz) → ∀ (H : Heap) (locs : List Loc) (ls : Array Slot), St Γ 28 (mE Γ S) s.heap H locs → lv_has ls 10 [(0, .ref (Γ.2.2 (0))), (1, .int x1), (2, .int x2), (3, .int x3), (5, .int x5), (6, .int x6)] → W p l e { frames := 6, cells := 0, slots := 0, locals := 133 } s m args below meth c H locs 0 0 (MQ below (gQi Γ 28 rz (mE Γ Sz)) args s 0 0 (wA Γ 28)) (F0 m 215 ls []) := by
  obtain ⟨hx, hb, -, -, hown, hts, -, hwx, -⟩ := id C
  intro S x1 x2 x3 x5 x6 hf H locs ls hP hl
  unfold fX6_opens_215 at hf
  refine lv_iinc (v := x6 + (nI 1)) (lv' := [(6, .int (x6 + (nI 1))), (0, .ref (Γ.2.2 (0))), (1, .int x1), (2, .int x2), (3, .int x3), (5, .int x5)]) hx hb dX6_opens_215 hl (k := 5) rfl rfl (by decide) rfl (fun ls hl => ?_)
  refine lv_goto (tgt := 61) hx hb dX6_opens_218 (by decide) ?_
  exact hK61 S x1 x2 x3 x5 (x6 + (nI 1))  hf _ _ _ hP (lv_sub hl [1, 2, 3, 4, 5, 0] rfl)
def fX6_opens_196  (K61 : mM → Int32 → Int32 → Int32 → Int32 → Int32 → Option (Int32 × mM)) (S : mM) (x1 : Int32) (x2 : Int32) (x3 : Int32) (x5 : Int32) (x6 : Int32) (x7 : Int32) : Option (Int32 × mM) :=
  bd (fX6_whichLane S) fun v16 S16 => ( if v16 < 0 then fX6_opens_215  K61  S16 x1 x2 x3 x5 x6 else bv (fX6_comeIn S16 v16 x7) fun S18 => ( fX6_opens_215  K61  S18 x1 x2 x3 x5 x6))
set_option maxHeartbeats 4000000 in
set_option maxRecDepth 100000 in
theorem wX6_opens_196 {p : Program} {l : Launch} {e : Env} {s : State} {m : MethodId} {args : Array Value} {below : List Frame} {meth : Method} {c : Code} {Γ : gG} {rz : Int32} {Sz : mM} (C : Cx Γ 28 p s m args meth c RX6 cX6_opens 10 (some .int))  {K61 : mM → Int32 → Int32 → Int32 → Int32 → Int32 → Option (Int32 × mM)} (hK61 : ∀ (S : mM) (x1 : Int32) (x2 : Int32) (x3 : Int32) (x5 : Int32) (x6 : Int32) , K61 S x1 x2 x3 x5 x6 = some (rz, Sz) → ∀ (H : Heap) (locs : List Loc) (ls : Array Slot), St Γ 28 (mE Γ S) s.heap H locs → lv_has ls 10 [(0, .ref (Γ.2.2 (0))), (1, .int x1), (2, .int x2), (3, .int x3), (5, .int x5), (6, .int x6)] → W p l e { frames := 6, cells := 0, slots := 0, locals := 133 } s m args below meth c H locs 0 0 (MQ below (gQi Γ 28 rz (mE Γ Sz)) args s 0 0 (wA Γ 28)) (F0 m 61 ls [])) : ∀ (S : mM) (x1 : Int32) (x2 : Int32) (x3 : Int32) (x5 : Int32) (x6 : Int32) (x7 : Int32) , fX6_opens_196  K61 S x1 x2 x3 x5 x6 x7 = some (rz, Sz) → ∀ (H : Heap) (locs : List Loc) (ls : Array Slot), St Γ 28 (mE Γ S) s.heap H locs → lv_has ls 10 [(0, .ref (Γ.2.2 (0))), (1, .int x1), (2, .int x2), (3, .int x3), (5, .int x5), (6, .int x6), (7, .int x7)] → W p l e { frames := 6, cells := 0, slots := 0, locals := 133 } s m args below meth c H locs 0 0 (MQ below (gQi Γ 28 rz (mE Γ Sz)) args s 0 0 (wA Γ 28)) (F0 m 196 ls []) := by
  obtain ⟨hx, hb, -, -, hown, hts, -, hwx, -⟩ := id C
  intro S x1 x2 x3 x5 x6 x7 hf H locs ls hP hl
  unfold fX6_opens_196 at hf
  refine lv_aload_n hx hb dX6_opens_196 rfl (lv_at hl 0 rfl) ?_
  refine bd_i hf (fun v16 S16 hq16 hf => ?_)
  refine goI (runV (rest := []) (b := 0) (mX6_whichLane l Γ  hq16) C hP hl.1 (by decide) mE0 rfl k5_92 qX6_whichLane.1 qX6_whichLane.2.1 qX6_whichLane.2.2.1 qX6_whichLane.2.2.2.1 rfl qX6_whichLane.2.2.2.2 ⟨Nat.le_of_ble_eq_true rfl, Nat.le_of_ble_eq_true rfl⟩ ⟨Nat.le_refl 0, Nat.le_refl 0⟩ (Nat.le_of_ble_eq_true rfl) dX6_opens_197) hP (fun H locs hP => ?_)
  refine lv_istore (lv' := [(9, .int v16), (0, .ref (Γ.2.2 (0))), (1, .int x1), (2, .int x2), (3, .int x3), (5, .int x5), (6, .int x6), (7, .int x7)]) hx hb dX6_opens_200 hl (by decide) rfl (fun ls hl => ?_)
  refine lv_iload hx hb dX6_opens_202 (lv_at hl 0 rfl) ?_
  refine lv_if_lt (tgt := 215) hx hb dX6_opens_204 (by decide) (fun hc17 => ?_) (fun hc17 => ?_)
  · have hf := if_t hc17 hf
    exact wX6_opens_215 C  hK61  S16 x1 x2 x3 x5 x6  hf _ _ _ hP (lv_sub hl [1, 2, 3, 4, 5, 6] rfl)
  · have hf := if_f hc17 hf
    refine lv_aload_n hx hb dX6_opens_207 rfl (lv_at hl 1 rfl) ?_
    refine lv_iload hx hb dX6_opens_208 (lv_at hl 0 rfl) ?_
    refine lv_iload hx hb dX6_opens_210 (lv_at hl 7 rfl) ?_
    refine bv_i hf (fun S18 hq18 hf => ?_)
    refine goV (runV (rest := []) (b := 0) (mX6_comeIn l Γ  hq18) C hP hl.1 (by decide) mE0 rfl k5_4 qX6_comeIn.1 qX6_comeIn.2.1 qX6_comeIn.2.2.1 qX6_comeIn.2.2.2.1 rfl qX6_comeIn.2.2.2.2 ⟨Nat.le_of_ble_eq_true rfl, Nat.le_of_ble_eq_true rfl⟩ ⟨Nat.le_refl 0, Nat.le_refl 0⟩ (Nat.le_of_ble_eq_true rfl) dX6_opens_212) hP (fun H locs hP => ?_)
    exact wX6_opens_215 C  hK61  S18 x1 x2 x3 x5 x6  hf _ _ _ hP (lv_sub hl [1, 2, 3, 4, 5, 6] rfl)
def fX6_opens_135  (K61 : mM → Int32 → Int32 → Int32 → Int32 → Int32 → Option (Int32 × mM)) (S : mM) (x1 : Int32) (x2 : Int32) (x3 : Int32) (x5 : Int32) (x6 : Int32) (x7 : Int32) : Option (Int32 × mM) :=
  gi (S.1 0 0) 5 (sv (mS S 1 ((S.1 0 0).toNatClampNeg) (nI 6)) fun S22 => ( gi (S22.1 0 0) 5 (sv (mS S22 2 ((S22.1 0 0).toNatClampNeg) (nI 0)) fun S25 => ( gi (S25.1 0 0) 5 (sv (mS S25 3 ((S25.1 0 0).toNatClampNeg) (nI 0)) fun S28 => ( gi (S28.1 0 0) 5 (sv (mS S28 4 ((S28.1 0 0).toNatClampNeg) (nI 0)) fun S31 => ( gi (S31.1 0 0) 5 (sv (mS S31 5 ((S31.1 0 0).toNatClampNeg) (nI 0)) fun S34 => ( sv (mS S34 0 0 ((S34.1 0 0) + (nI 1))) fun S35 => ( fX6_opens_196  K61  S35 x1 x2 x3 x5 x6 x7)))))))))))
set_option maxHeartbeats 4000000 in
set_option maxRecDepth 100000 in
theorem wX6_opens_135 {p : Program} {l : Launch} {e : Env} {s : State} {m : MethodId} {args : Array Value} {below : List Frame} {meth : Method} {c : Code} {Γ : gG} {rz : Int32} {Sz : mM} (C : Cx Γ 28 p s m args meth c RX6 cX6_opens 10 (some .int))  {K61 : mM → Int32 → Int32 → Int32 → Int32 → Int32 → Option (Int32 × mM)} (hK61 : ∀ (S : mM) (x1 : Int32) (x2 : Int32) (x3 : Int32) (x5 : Int32) (x6 : Int32) , K61 S x1 x2 x3 x5 x6 = some (rz, Sz) → ∀ (H : Heap) (locs : List Loc) (ls : Array Slot), St Γ 28 (mE Γ S) s.heap H locs → lv_has ls 10 [(0, .ref (Γ.2.2 (0))), (1, .int x1), (2, .int x2), (3, .int x3), (5, .int x5), (6, .int x6)] → W p l e { frames := 6, cells := 0, slots := 0, locals := 133 } s m args below meth c H locs 0 0 (MQ below (gQi Γ 28 rz (mE Γ Sz)) args s 0 0 (wA Γ 28)) (F0 m 61 ls [])) : ∀ (S : mM) (x1 : Int32) (x2 : Int32) (x3 : Int32) (x5 : Int32) (x6 : Int32) (x7 : Int32) , fX6_opens_135  K61 S x1 x2 x3 x5 x6 x7 = some (rz, Sz) → ∀ (H : Heap) (locs : List Loc) (ls : Array Slot), St Γ 28 (mE Γ S) s.heap H locs → lv_has ls 10 [(0, .ref (Γ.2.2 (0))), (1, .int x1), (2, .int x2), (3, .int x3), (5, .int x5), (6, .int x6), (7, .int x7)] → W p l e { frames := 6, cells := 0, slots := 0, locals := 133 } s m args below meth c H locs 0 0 (MQ below (gQi Γ 28 rz (mE Γ Sz)) args s 0 0 (wA Γ 28)) (F0 m 135 ls []) := by
  obtain ⟨hx, hb, -, -, hown, hts, -, hwx, -⟩ := id C
  intro S x1 x2 x3 x5 x6 x7 hf H locs ls hP hl
  unfold fX6_opens_135 at hf
  refine lv_aload_n hx hb dX6_opens_135 rfl (lv_at hl 0 rfl) ?_
  refine m_get C hP 3 (by decide) k4_56 rfl (v := .ref (Γ.2.2 (1))) rfl dX6_opens_136 ?_
  refine lv_aload_n hx hb dX6_opens_139 rfl (lv_at hl 0 rfl) ?_
  refine m_get C hP 0 (by decide) k4_53 rfl (v := .int (S.1 0 0)) rfl dX6_opens_140 ?_
  refine lv_bipush (v := nI 6) hx hb dX6_opens_143 rfl ?_
  refine gi_i hf (fun hi20 hj21 hf => ?_)
  refine m_ist C hP mA_1 hi20 dX6_opens_145 (fun H locs hP => ?_)
  refine sv_i hf (fun S22 e22 hf => ?_)
  rw [← e22] at hP
  refine lv_aload_n hx hb dX6_opens_146 rfl (lv_at hl 0 rfl) ?_
  refine m_get C hP 4 (by decide) k4_57 rfl (v := .ref (Γ.2.2 (2))) rfl dX6_opens_147 ?_
  refine lv_aload_n hx hb dX6_opens_150 rfl (lv_at hl 0 rfl) ?_
  refine m_get C hP 0 (by decide) k4_53 rfl (v := .int (S22.1 0 0)) rfl dX6_opens_151 ?_
  refine lv_iconst (v := nI 0) hx hb dX6_opens_154 rfl ?_
  refine gi_i hf (fun hi23 hj24 hf => ?_)
  refine m_ist C hP mA_2 hi23 dX6_opens_155 (fun H locs hP => ?_)
  refine sv_i hf (fun S25 e25 hf => ?_)
  rw [← e25] at hP
  refine lv_aload_n hx hb dX6_opens_156 rfl (lv_at hl 0 rfl) ?_
  refine m_get C hP 5 (by decide) k4_58 rfl (v := .ref (Γ.2.2 (3))) rfl dX6_opens_157 ?_
  refine lv_aload_n hx hb dX6_opens_160 rfl (lv_at hl 0 rfl) ?_
  refine m_get C hP 0 (by decide) k4_53 rfl (v := .int (S25.1 0 0)) rfl dX6_opens_161 ?_
  refine lv_iconst (v := nI 0) hx hb dX6_opens_164 rfl ?_
  refine gi_i hf (fun hi26 hj27 hf => ?_)
  refine m_ist C hP mA_3 hi26 dX6_opens_165 (fun H locs hP => ?_)
  refine sv_i hf (fun S28 e28 hf => ?_)
  rw [← e28] at hP
  refine lv_aload_n hx hb dX6_opens_166 rfl (lv_at hl 0 rfl) ?_
  refine m_get C hP 6 (by decide) k4_59 rfl (v := .ref (Γ.2.2 (4))) rfl dX6_opens_167 ?_
  refine lv_aload_n hx hb dX6_opens_170 rfl (lv_at hl 0 rfl) ?_
  refine m_get C hP 0 (by decide) k4_53 rfl (v := .int (S28.1 0 0)) rfl dX6_opens_171 ?_
  refine lv_iconst (v := nI 0) hx hb dX6_opens_174 rfl ?_
  refine gi_i hf (fun hi29 hj30 hf => ?_)
  refine m_ist C hP mA_4 hi29 dX6_opens_175 (fun H locs hP => ?_)
  refine sv_i hf (fun S31 e31 hf => ?_)
  rw [← e31] at hP
  refine lv_aload_n hx hb dX6_opens_176 rfl (lv_at hl 0 rfl) ?_
  refine m_get C hP 7 (by decide) k4_60 rfl (v := .ref (Γ.2.2 (5))) rfl dX6_opens_177 ?_
  refine lv_aload_n hx hb dX6_opens_180 rfl (lv_at hl 0 rfl) ?_
  refine m_get C hP 0 (by decide) k4_53 rfl (v := .int (S31.1 0 0)) rfl dX6_opens_181 ?_
  refine lv_iconst (v := nI 0) hx hb dX6_opens_184 rfl ?_
  refine gi_i hf (fun hi32 hj33 hf => ?_)
  refine m_ist C hP mA_5 hi32 dX6_opens_185 (fun H locs hP => ?_)
  refine sv_i hf (fun S34 e34 hf => ?_)
  rw [← e34] at hP
  refine lv_aload_n hx hb dX6_opens_186 rfl (lv_at hl 0 rfl) ?_
  refine lv_dup hx hb dX6_opens_187 rfl ?_
  refine m_get C hP 0 (by decide) k4_53 rfl (v := .int (S34.1 0 0)) rfl dX6_opens_188 ?_
  refine lv_iconst (v := nI 1) hx hb dX6_opens_191 rfl ?_
  refine lv_iadd hx hb dX6_opens_192 ?_
  refine m_put C hP 0 (by decide) k4_53 dX6_opens_193 (fun H locs hP => ?_)
  refine sv_i hf (fun S35 e35 hf => ?_)
  rw [← e35] at hP
  exact wX6_opens_196 C  hK61  S35 x1 x2 x3 x5 x6 x7  hf _ _ _ hP (lv_sub hl [0, 1, 2, 3, 4, 5, 6] rfl)
def fX6_opens_83  (K61 : mM → Int32 → Int32 → Int32 → Int32 → Int32 → Option (Int32 × mM)) (S : mM) (x1 : Int32) (x2 : Int32) (x3 : Int32) (x5 : Int32) (x6 : Int32) (y1 : Int32) : Option (Int32 × mM) :=
  bd (fX6_goBy S y1) fun v11 S11 => ( gi (((nI 100) * x1) + x6) 800 (bd (fX6_bestLane S11 ((S11.2.1 26 (((nI 100) * x1) + x6).toNatClampNeg).toInt32)) fun v14 S14 => ( if (nI 5) ≤ (S14.1 0 0) then fX6_opens_196  K61  S14 x1 x2 x3 x5 x6 ((S11.2.1 26 (((nI 100) * x1) + x6).toNatClampNeg).toInt32) else if v14 < 0 then fX6_opens_135  K61  S14 x1 x2 x3 x5 x6 ((S11.2.1 26 (((nI 100) * x1) + x6).toNatClampNeg).toInt32) else bd (fX6_timeIn S14 v14 ((S11.2.1 26 (((nI 100) * x1) + x6).toNatClampNeg).toInt32)) fun v36 S36 => ( if v36 ≤ x3 then fX6_opens_196  K61  S36 x1 x2 x3 x5 x6 ((S11.2.1 26 (((nI 100) * x1) + x6).toNatClampNeg).toInt32) else fX6_opens_135  K61  S36 x1 x2 x3 x5 x6 ((S11.2.1 26 (((nI 100) * x1) + x6).toNatClampNeg).toInt32)))))
set_option maxHeartbeats 4000000 in
set_option maxRecDepth 100000 in
theorem wX6_opens_83 {p : Program} {l : Launch} {e : Env} {s : State} {m : MethodId} {args : Array Value} {below : List Frame} {meth : Method} {c : Code} {Γ : gG} {rz : Int32} {Sz : mM} (C : Cx Γ 28 p s m args meth c RX6 cX6_opens 10 (some .int))  {K61 : mM → Int32 → Int32 → Int32 → Int32 → Int32 → Option (Int32 × mM)} (hK61 : ∀ (S : mM) (x1 : Int32) (x2 : Int32) (x3 : Int32) (x5 : Int32) (x6 : Int32) , K61 S x1 x2 x3 x5 x6 = some (rz, Sz) → ∀ (H : Heap) (locs : List Loc) (ls : Array Slot), St Γ 28 (mE Γ S) s.heap H locs → lv_has ls 10 [(0, .ref (Γ.2.2 (0))), (1, .int x1), (2, .int x2), (3, .int x3), (5, .int x5), (6, .int x6)] → W p l e { frames := 6, cells := 0, slots := 0, locals := 133 } s m args below meth c H locs 0 0 (MQ below (gQi Γ 28 rz (mE Γ Sz)) args s 0 0 (wA Γ 28)) (F0 m 61 ls [])) : ∀ (S : mM) (x1 : Int32) (x2 : Int32) (x3 : Int32) (x5 : Int32) (x6 : Int32) (y1 : Int32) , fX6_opens_83  K61 S x1 x2 x3 x5 x6 y1 = some (rz, Sz) → ∀ (H : Heap) (locs : List Loc) (ls : Array Slot), St Γ 28 (mE Γ S) s.heap H locs → lv_has ls 10 [(0, .ref (Γ.2.2 (0))), (1, .int x1), (2, .int x2), (3, .int x3), (5, .int x5), (6, .int x6)] → W p l e { frames := 6, cells := 0, slots := 0, locals := 133 } s m args below meth c H locs 0 0 (MQ below (gQi Γ 28 rz (mE Γ Sz)) args s 0 0 (wA Γ 28)) (F0 m 83 ls [.int y1, .ref (Γ.2.2 (0))]) := by
  obtain ⟨hx, hb, -, -, hown, hts, -, hwx, -⟩ := id C
  intro S x1 x2 x3 x5 x6 y1 hf H locs ls hP hl
  unfold fX6_opens_83 at hf
  refine bd_i hf (fun v11 S11 hq11 hf => ?_)
  refine goI (runV (rest := []) (b := 0) (mX6_goBy l Γ  hq11) C hP hl.1 (by decide) mE0 rfl k5_18 qX6_goBy.1 qX6_goBy.2.1 qX6_goBy.2.2.1 qX6_goBy.2.2.2.1 rfl qX6_goBy.2.2.2.2 ⟨Nat.le_of_ble_eq_true rfl, Nat.le_of_ble_eq_true rfl⟩ ⟨Nat.le_refl 0, Nat.le_refl 0⟩ (Nat.le_of_ble_eq_true rfl) dX6_opens_83) hP (fun H locs hP => ?_)
  refine lv_pop hx hb dX6_opens_86 rfl ?_
  refine lv_aload_n hx hb dX6_opens_87 rfl (lv_at hl 0 rfl) ?_
  refine m_get C hP 40 (by decide) k4_93 rfl (v := .ref (Γ.2.2 (26))) rfl dX6_opens_88 ?_
  refine lv_bipush (v := nI 100) hx hb dX6_opens_91 rfl ?_
  refine lv_iload_n hx hb dX6_opens_93 rfl (lv_at hl 1 rfl) ?_
  refine lv_imul hx hb dX6_opens_94 ?_
  refine lv_iload hx hb dX6_opens_95 (lv_at hl 5 rfl) ?_
  refine lv_iadd hx hb dX6_opens_97 ?_
  refine gi_i hf (fun hi12 hj13 hf => ?_)
  refine m_lld C hP mB_26 hi12 dX6_opens_98 ?_
  refine lv_l2i (v := (S11.2.1 26 (((nI 100) * x1) + x6).toNatClampNeg).toInt32) hx hb dX6_opens_99 rfl ?_
  refine lv_istore (lv' := [(7, .int ((S11.2.1 26 (((nI 100) * x1) + x6).toNatClampNeg).toInt32)), (0, .ref (Γ.2.2 (0))), (1, .int x1), (2, .int x2), (3, .int x3), (5, .int x5), (6, .int x6)]) hx hb dX6_opens_100 hl (by decide) rfl (fun ls hl => ?_)
  refine lv_aload_n hx hb dX6_opens_102 rfl (lv_at hl 1 rfl) ?_
  refine lv_iload hx hb dX6_opens_103 (lv_at hl 0 rfl) ?_
  refine bd_i hf (fun v14 S14 hq14 hf => ?_)
  refine goI (runV (rest := []) (b := 0) (mX6_bestLane l Γ  hq14) C hP hl.1 (by decide) mE0 rfl k5_104 qX6_bestLane.1 qX6_bestLane.2.1 qX6_bestLane.2.2.1 qX6_bestLane.2.2.2.1 rfl qX6_bestLane.2.2.2.2 ⟨Nat.le_of_ble_eq_true rfl, Nat.le_of_ble_eq_true rfl⟩ ⟨Nat.le_refl 0, Nat.le_refl 0⟩ (Nat.le_of_ble_eq_true rfl) dX6_opens_105) hP (fun H locs hP => ?_)
  refine lv_istore (lv' := [(8, .int v14), (7, .int ((S11.2.1 26 (((nI 100) * x1) + x6).toNatClampNeg).toInt32)), (0, .ref (Γ.2.2 (0))), (1, .int x1), (2, .int x2), (3, .int x3), (5, .int x5), (6, .int x6)]) hx hb dX6_opens_108 hl (by decide) rfl (fun ls hl => ?_)
  refine lv_aload_n hx hb dX6_opens_110 rfl (lv_at hl 2 rfl) ?_
  refine m_get C hP 0 (by decide) k4_53 rfl (v := .int (S14.1 0 0)) rfl dX6_opens_111 ?_
  refine lv_iconst (v := nI 5) hx hb dX6_opens_114 rfl ?_
  refine lv_icmp_ge (tgt := 196) hx hb dX6_opens_115 (by decide) (fun hc15 => ?_) (fun hc15 => ?_)
  · have hf := if_t hc15 hf
    exact wX6_opens_196 C  hK61  S14 x1 x2 x3 x5 x6 ((S11.2.1 26 (((nI 100) * x1) + x6).toNatClampNeg).toInt32)  hf _ _ _ hP (lv_sub hl [2, 3, 4, 5, 6, 7, 1] rfl)
  · have hf := if_f hc15 hf
    refine lv_iload hx hb dX6_opens_118 (lv_at hl 0 rfl) ?_
    refine lv_if_lt (tgt := 135) hx hb dX6_opens_120 (by decide) (fun hc19 => ?_) (fun hc19 => ?_)
    · have hf := if_t hc19 hf
      exact wX6_opens_135 C  hK61  S14 x1 x2 x3 x5 x6 ((S11.2.1 26 (((nI 100) * x1) + x6).toNatClampNeg).toInt32)  hf _ _ _ hP (lv_sub hl [2, 3, 4, 5, 6, 7, 1] rfl)
    · have hf := if_f hc19 hf
      refine lv_aload_n hx hb dX6_opens_123 rfl (lv_at hl 2 rfl) ?_
      refine lv_iload hx hb dX6_opens_124 (lv_at hl 0 rfl) ?_
      refine lv_iload hx hb dX6_opens_126 (lv_at hl 1 rfl) ?_
      refine bd_i hf (fun v36 S36 hq36 hf => ?_)
      refine goI (runV (rest := []) (b := 0) (mX6_timeIn l Γ  hq36) C hP hl.1 (by decide) mE0 rfl k5_79 qX6_timeIn.1 qX6_timeIn.2.1 qX6_timeIn.2.2.1 qX6_timeIn.2.2.2.1 rfl qX6_timeIn.2.2.2.2 ⟨Nat.le_of_ble_eq_true rfl, Nat.le_of_ble_eq_true rfl⟩ ⟨Nat.le_refl 0, Nat.le_refl 0⟩ (Nat.le_of_ble_eq_true rfl) dX6_opens_128) hP (fun H locs hP => ?_)
      refine lv_iload_n hx hb dX6_opens_131 rfl (lv_at hl 5 rfl) ?_
      refine lv_icmp_le (tgt := 196) hx hb dX6_opens_132 (by decide) (fun hc37 => ?_) (fun hc37 => ?_)
      · have hf := if_t hc37 hf
        exact wX6_opens_196 C  hK61  S36 x1 x2 x3 x5 x6 ((S11.2.1 26 (((nI 100) * x1) + x6).toNatClampNeg).toInt32)  hf _ _ _ hP (lv_sub hl [2, 3, 4, 5, 6, 7, 1] rfl)
      · have hf := if_f hc37 hf
        exact wX6_opens_135 C  hK61  S36 x1 x2 x3 x5 x6 ((S11.2.1 26 (((nI 100) * x1) + x6).toNatClampNeg).toInt32)  hf _ _ _ hP (lv_sub hl [2, 3, 4, 5, 6, 7, 1] rfl)
def fX6_opens_61   : Nat → mM → Int32 → Int32 → Int32 → Int32 → Int32 → Option (Int32 × mM)
  | 0, _, _, _, _, _, _ => none
  | n + 1, S, x1, x2, x3, x5, x6 =>
    gi x1 8 (if (S.1 25 (x1).toNatClampNeg) ≤ x6 then bv (fX6_close S) fun S9 => ( some ((S.1 0 0) - x5, S9)) else if x6 ≤ 0 then fX6_opens_83  (fX6_opens_61   n)  S x1 x2 x3 x5 x6 (nI 0) else fX6_opens_83  (fX6_opens_61   n)  S x1 x2 x3 x5 x6 x2)
set_option maxHeartbeats 4000000 in
set_option maxRecDepth 100000 in
theorem wX6_opens_61 {p : Program} {l : Launch} {e : Env} {s : State} {m : MethodId} {args : Array Value} {below : List Frame} {meth : Method} {c : Code} {Γ : gG} {rz : Int32} {Sz : mM} (C : Cx Γ 28 p s m args meth c RX6 cX6_opens 10 (some .int))   : ∀ n : Nat, ∀ (S : mM) (x1 : Int32) (x2 : Int32) (x3 : Int32) (x5 : Int32) (x6 : Int32) , fX6_opens_61   n S x1 x2 x3 x5 x6 = some (rz, Sz) → ∀ (H : Heap) (locs : List Loc) (ls : Array Slot), St Γ 28 (mE Γ S) s.heap H locs → lv_has ls 10 [(0, .ref (Γ.2.2 (0))), (1, .int x1), (2, .int x2), (3, .int x3), (5, .int x5), (6, .int x6)] → W p l e { frames := 6, cells := 0, slots := 0, locals := 133 } s m args below meth c H locs 0 0 (MQ below (gQi Γ 28 rz (mE Γ Sz)) args s 0 0 (wA Γ 28)) (F0 m 61 ls []) := by
  obtain ⟨hx, hb, -, -, hown, hts, -, hwx, -⟩ := id C
  intro n
  induction n with
  | zero =>
    intro S x1 x2 x3 x5 x6 hf
    unfold fX6_opens_61 at hf
    cases hf
  | succ n ih =>
    intro S x1 x2 x3 x5 x6 hf H locs ls hP hl
    unfold fX6_opens_61 at hf
    refine lv_iload hx hb dX6_opens_61 (lv_at hl 5 rfl) ?_
    refine lv_aload_n hx hb dX6_opens_63 rfl (lv_at hl 0 rfl) ?_
    refine m_get C hP 39 (by decide) k4_92 rfl (v := .ref (Γ.2.2 (25))) rfl dX6_opens_64 ?_
    refine lv_iload_n hx hb dX6_opens_67 rfl (lv_at hl 1 rfl) ?_
    refine gi_i hf (fun hi6 hj7 hf => ?_)
    refine m_ild C hP mA_25 hi6 dX6_opens_68 ?_
    refine lv_icmp_ge (tgt := 221) hx hb dX6_opens_69 (by decide) (fun hc8 => ?_) (fun hc8 => ?_)
    · have hf := if_t hc8 hf
      refine lv_aload_n hx hb dX6_opens_221 rfl (lv_at hl 0 rfl) ?_
      refine m_get C hP 0 (by decide) k4_53 rfl (v := .int (S.1 0 0)) rfl dX6_opens_222 ?_
      refine lv_iload hx hb dX6_opens_225 (lv_at hl 4 rfl) ?_
      refine lv_isub hx hb dX6_opens_227 ?_
      refine lv_istore (lv' := [(6, .int ((S.1 0 0) - x5)), (0, .ref (Γ.2.2 (0))), (1, .int x1), (2, .int x2), (3, .int x3), (5, .int x5)]) hx hb dX6_opens_228 hl (by decide) rfl (fun ls hl => ?_)
      refine lv_aload_n hx hb dX6_opens_230 rfl (lv_at hl 1 rfl) ?_
      refine bv_i hf (fun S9 hq9 hf => ?_)
      refine goV (runV (rest := []) (b := 0) (mX6_close l Γ  hq9) C hP hl.1 (by decide) mE0 rfl k5_34 qX6_close.1 qX6_close.2.1 qX6_close.2.2.1 qX6_close.2.2.2.1 rfl qX6_close.2.2.2.2 ⟨Nat.le_of_ble_eq_true rfl, Nat.le_of_ble_eq_true rfl⟩ ⟨Nat.le_refl 0, Nat.le_refl 0⟩ (Nat.le_of_ble_eq_true rfl) dX6_opens_231) hP (fun H locs hP => ?_)
      refine lv_iload hx hb dX6_opens_234 (lv_at hl 0 rfl) ?_
      exact r_iret (X := mE Γ) C hP hf dX6_opens_236
    · have hf := if_f hc8 hf
      refine lv_aload_n hx hb dX6_opens_72 rfl (lv_at hl 0 rfl) ?_
      refine lv_iload hx hb dX6_opens_73 (lv_at hl 5 rfl) ?_
      refine lv_if_le (tgt := 82) hx hb dX6_opens_75 (by decide) (fun hc10 => ?_) (fun hc10 => ?_)
      · have hf := if_t hc10 hf
        refine lv_iconst (v := nI 0) hx hb dX6_opens_82 rfl ?_
        exact wX6_opens_83 C  ih  S x1 x2 x3 x5 x6 (nI 0)  hf _ _ _ hP (lv_sub hl [0, 1, 2, 3, 4, 5] rfl)
      · have hf := if_f hc10 hf
        refine lv_iload_n hx hb dX6_opens_78 rfl (lv_at hl 2 rfl) ?_
        refine lv_goto (tgt := 83) hx hb dX6_opens_79 (by decide) ?_
        exact wX6_opens_83 C  ih  S x1 x2 x3 x5 x6 x2  hf _ _ _ hP (lv_sub hl [0, 1, 2, 3, 4, 5] rfl)
def fX6_opens_38   (S : mM) (x1 : Int32) (x2 : Int32) (x3 : Int32) (y0 : Int32) : Option (Int32 × mM) :=
  if (0 : Int32) ≤ y0 then bv (fX6_open S) fun S5 => ( fX6_opens_61   lF S5 x1 x2 x3 (S5.1 0 0) (nI 0)) else some (y0, S)
set_option maxHeartbeats 4000000 in
set_option maxRecDepth 100000 in
theorem wX6_opens_38 {p : Program} {l : Launch} {e : Env} {s : State} {m : MethodId} {args : Array Value} {below : List Frame} {meth : Method} {c : Code} {Γ : gG} {rz : Int32} {Sz : mM} (C : Cx Γ 28 p s m args meth c RX6 cX6_opens 10 (some .int))   : ∀ (S : mM) (x1 : Int32) (x2 : Int32) (x3 : Int32) (y0 : Int32) , fX6_opens_38   S x1 x2 x3 y0 = some (rz, Sz) → ∀ (H : Heap) (locs : List Loc) (ls : Array Slot), St Γ 28 (mE Γ S) s.heap H locs → lv_has ls 10 [(0, .ref (Γ.2.2 (0))), (1, .int x1), (2, .int x2), (3, .int x3)] → W p l e { frames := 6, cells := 0, slots := 0, locals := 133 } s m args below meth c H locs 0 0 (MQ below (gQi Γ 28 rz (mE Γ Sz)) args s 0 0 (wA Γ 28)) (F0 m 38 ls [.int y0]) := by
  obtain ⟨hx, hb, -, -, hown, hts, -, hwx, -⟩ := id C
  intro S x1 x2 x3 y0 hf H locs ls hP hl
  unfold fX6_opens_38 at hf
  refine lv_istore (lv' := [(4, .int y0), (0, .ref (Γ.2.2 (0))), (1, .int x1), (2, .int x2), (3, .int x3)]) hx hb dX6_opens_38 hl (by decide) rfl (fun ls hl => ?_)
  refine lv_iload hx hb dX6_opens_40 (lv_at hl 0 rfl) ?_
  refine lv_if_ge (tgt := 48) hx hb dX6_opens_42 (by decide) (fun hc4 => ?_) (fun hc4 => ?_)
  · have hf := if_t hc4 hf
    refine lv_aload_n hx hb dX6_opens_48 rfl (lv_at hl 1 rfl) ?_
    refine bv_i hf (fun S5 hq5 hf => ?_)
    refine goV (runV (rest := []) (b := 0) (mX6_open l Γ  hq5) C hP hl.1 (by decide) mE0 rfl k4_232 qX6_open.1 qX6_open.2.1 qX6_open.2.2.1 qX6_open.2.2.2.1 rfl qX6_open.2.2.2.2 ⟨Nat.le_of_ble_eq_true rfl, Nat.le_of_ble_eq_true rfl⟩ ⟨Nat.le_refl 0, Nat.le_refl 0⟩ (Nat.le_of_ble_eq_true rfl) dX6_opens_49) hP (fun H locs hP => ?_)
    refine lv_aload_n hx hb dX6_opens_52 rfl (lv_at hl 1 rfl) ?_
    refine m_get C hP 0 (by decide) k4_53 rfl (v := .int (S5.1 0 0)) rfl dX6_opens_53 ?_
    refine lv_istore (lv' := [(5, .int (S5.1 0 0)), (4, .int y0), (0, .ref (Γ.2.2 (0))), (1, .int x1), (2, .int x2), (3, .int x3)]) hx hb dX6_opens_56 hl (by decide) rfl (fun ls hl => ?_)
    refine lv_iconst (v := nI 0) hx hb dX6_opens_58 rfl ?_
    refine lv_istore (lv' := [(6, .int (nI 0)), (5, .int (S5.1 0 0)), (4, .int y0), (0, .ref (Γ.2.2 (0))), (1, .int x1), (2, .int x2), (3, .int x3)]) hx hb dX6_opens_59 hl (by decide) rfl (fun ls hl => ?_)
    exact wX6_opens_61 C   lF S5 x1 x2 x3 (S5.1 0 0) (nI 0)  hf _ _ _ hP (lv_sub hl [3, 4, 5, 6, 1, 0] rfl)
  · have hf := if_f hc4 hf
    refine lv_iload hx hb dX6_opens_45 (lv_at hl 0 rfl) ?_
    exact r_iret (X := mE Γ) C hP hf dX6_opens_47
def fX6_opens_29   (S : mM) (x1 : Int32) (x2 : Int32) (x3 : Int32) : Option (Int32 × mM) :=
  fX6_opens_38    S x1 x2 x3 (-1)
set_option maxHeartbeats 4000000 in
set_option maxRecDepth 100000 in
theorem wX6_opens_29 {p : Program} {l : Launch} {e : Env} {s : State} {m : MethodId} {args : Array Value} {below : List Frame} {meth : Method} {c : Code} {Γ : gG} {rz : Int32} {Sz : mM} (C : Cx Γ 28 p s m args meth c RX6 cX6_opens 10 (some .int))   : ∀ (S : mM) (x1 : Int32) (x2 : Int32) (x3 : Int32) , fX6_opens_29   S x1 x2 x3 = some (rz, Sz) → ∀ (H : Heap) (locs : List Loc) (ls : Array Slot), St Γ 28 (mE Γ S) s.heap H locs → lv_has ls 10 [(0, .ref (Γ.2.2 (0))), (1, .int x1), (2, .int x2), (3, .int x3)] → W p l e { frames := 6, cells := 0, slots := 0, locals := 133 } s m args below meth c H locs 0 0 (MQ below (gQi Γ 28 rz (mE Γ Sz)) args s 0 0 (wA Γ 28)) (F0 m 29 ls []) := by
  obtain ⟨hx, hb, -, -, hown, hts, -, hwx, -⟩ := id C
  intro S x1 x2 x3 hf H locs ls hP hl
  unfold fX6_opens_29 at hf
  refine lv_iconst (v := (-1)) hx hb dX6_opens_29 rfl ?_
  refine lv_goto (tgt := 38) hx hb dX6_opens_30 (by decide) ?_
  exact wX6_opens_38 C    S x1 x2 x3 (-1)  hf _ _ _ hP (lv_sub hl [0, 1, 2, 3] rfl)
def fX6_opens  (S : mM) (x1 : Int32) (x2 : Int32) (x3 : Int32) : Option (Int32 × mM) :=
  sv (mS S 0 9 (nI 0)) fun S1 => ( bd (fX6_in S1 x2.toInt64 0 9) fun v2 S2 => ( if v2 = 0 then fX6_opens_29    S2 x1 x2 x3 else bd (fX6_in S2 x3.toInt64 0 99) fun v38 S38 => ( if v38 = 0 then fX6_opens_29    S38 x1 x2 x3 else bd (fX6_wrongSorts S38 x1) fun v40 S40 => ( fX6_opens_38    S40 x1 x2 x3 v40))))
set_option maxHeartbeats 4000000 in
set_option maxRecDepth 100000 in
theorem mX6_opens (l : Launch) (Γ : gG)   {S : mM} {x1 : Int32} {x2 : Int32} {x3 : Int32} {rz : Int32} {Sz : mM} (hf : fX6_opens S x1 x2 x3 = some (rz, Sz)) : CtI l Γ 28 yX6_opens cX6_opens 10 .int 6 133 [.ref (Γ.2.2 (0)), .int x1, .int x2, .int x3] (mE Γ S) rz (mE Γ Sz) := by
  refine met_body (Γ := Γ) (lv := [(0, .ref (Γ.2.2 (0))), (1, .int x1), (2, .int x2), (3, .int x3)]) RX6 (by decide) rfl rfl rfl ?_
  intro p e s m below meth c H locs ls C hP hl
  obtain ⟨hx, hb, -, -, hown, hts, -, hwx, -⟩ := id C
  unfold fX6_opens at hf
  refine lv_aload_n hx hb dX6_opens_0 rfl (lv_at hl 0 rfl) ?_
  refine lv_iconst (v := nI 0) hx hb dX6_opens_1 rfl ?_
  refine m_put C hP 9 (by decide) k4_62 dX6_opens_2 (fun H locs hP => ?_)
  refine sv_i hf (fun S1 e1 hf => ?_)
  rw [← e1] at hP
  refine lv_iload_n hx hb dX6_opens_5 rfl (lv_at hl 2 rfl) ?_
  refine lv_i2l (v := x2.toInt64) hx hb dX6_opens_6 rfl ?_
  refine lv_lconst (v := 0) hx hb dX6_opens_7 (by decide) ?_
  refine lv_ldc2 (v := 9) hx hb hown (hts _ k5_203) dX6_opens_8 ?_
  refine bd_i hf (fun v2 S2 hq2 hf => ?_)
  refine goI (runS (rest := []) (mX6_in l Γ  hq2) C hP hl.1 k4_215 qX6_in.1 qX6_in.2.1 qX6_in.2.2.1 rfl qX6_in.2.2.2 ⟨Nat.le_of_ble_eq_true rfl, Nat.le_of_ble_eq_true rfl⟩ ⟨Nat.le_refl 0, Nat.le_refl 0⟩ (Nat.le_of_ble_eq_true rfl) dX6_opens_11) hP (fun H locs hP => ?_)
  refine lv_if_eq (tgt := 29) hx hb dX6_opens_14 (by decide) (fun hc3 => ?_) (fun hc3 => ?_)
  · have hf := if_t hc3 hf
    exact wX6_opens_29 C    S2 x1 x2 x3  hf _ _ _ hP (lv_sub hl [0, 1, 2, 3] rfl)
  · have hf := if_f hc3 hf
    refine lv_iload_n hx hb dX6_opens_17 rfl (lv_at hl 3 rfl) ?_
    refine lv_i2l (v := x3.toInt64) hx hb dX6_opens_18 rfl ?_
    refine lv_lconst (v := 0) hx hb dX6_opens_19 (by decide) ?_
    refine lv_ldc2 (v := 99) hx hb hown (hts _ k5_161) dX6_opens_20 ?_
    refine bd_i hf (fun v38 S38 hq38 hf => ?_)
    refine goI (runS (rest := []) (mX6_in l Γ  hq38) C hP hl.1 k4_215 qX6_in.1 qX6_in.2.1 qX6_in.2.2.1 rfl qX6_in.2.2.2 ⟨Nat.le_of_ble_eq_true rfl, Nat.le_of_ble_eq_true rfl⟩ ⟨Nat.le_refl 0, Nat.le_refl 0⟩ (Nat.le_of_ble_eq_true rfl) dX6_opens_23) hP (fun H locs hP => ?_)
    refine lv_if_ne (tgt := 33) hx hb dX6_opens_26 (by decide) (fun hc39 => ?_) (fun hc39 => ?_)
    · have hf := if_f hc39 hf
      refine lv_aload_n hx hb dX6_opens_33 rfl (lv_at hl 0 rfl) ?_
      refine lv_iload_n hx hb dX6_opens_34 rfl (lv_at hl 1 rfl) ?_
      refine bd_i hf (fun v40 S40 hq40 hf => ?_)
      refine goI (runV (rest := []) (b := 0) (mX6_wrongSorts l Γ  hq40) C hP hl.1 (by decide) mE0 rfl k5_205 qX6_wrongSorts.1 qX6_wrongSorts.2.1 qX6_wrongSorts.2.2.1 qX6_wrongSorts.2.2.2.1 rfl qX6_wrongSorts.2.2.2.2 ⟨Nat.le_of_ble_eq_true rfl, Nat.le_of_ble_eq_true rfl⟩ ⟨Nat.le_refl 0, Nat.le_refl 0⟩ (Nat.le_of_ble_eq_true rfl) dX6_opens_35) hP (fun H locs hP => ?_)
      exact wX6_opens_38 C    S40 x1 x2 x3 v40  hf _ _ _ hP (lv_sub hl [0, 1, 2, 3] rfl)
    · have hf := if_t hc39 hf
      exact wX6_opens_29 C    S38 x1 x2 x3  hf _ _ _ hP (lv_sub hl [0, 1, 2, 3] rfl)
-- X6_bySorts
theorem qX6_bySorts : Cond.instanceMethod yX6_bySorts ∈ Ub ∧ Cond.selects RX6 yX6_bySorts yX6_bySorts ∈ Ub ∧ Cond.initialized RX6 ∈ Ub ∧ Cond.code yX6_bySorts cX6_bySorts 12 (some FieldType.int) ∈ Ub ∧ (yX6_bySorts.cls = RX6 ∧ yX6_bySorts.cls ≠ "java/lang/invoke/MethodHandle" ∧ yX6_bySorts.cls ≠ "java/lang/invoke/VarHandle" ∧ (parseMethodDescriptor yX6_bySorts.desc).map (fun d => d.parameters.length) = some 2) := ⟨k5_218, k5_219, k1_5, k5_220, by decide +kernel⟩
def fX6_bySorts_248  (K42 : mM → Int32 → Int32 → Int32 → Int32 → Int32 → Option (Int32 × mM)) (S : mM) (x1 : Int32) (x2 : Int32) (x4 : Int32) (x5 : Int32) (x6 : Int32) : Option (Int32 × mM) :=
  K42 S x1 x2 x4 x5 (x6 + (nI 1))
set_option maxHeartbeats 4000000 in
set_option maxRecDepth 100000 in
theorem wX6_bySorts_248 {p : Program} {l : Launch} {e : Env} {s : State} {m : MethodId} {args : Array Value} {below : List Frame} {meth : Method} {c : Code} {Γ : gG} {rz : Int32} {Sz : mM} (C : Cx Γ 28 p s m args meth c RX6 cX6_bySorts 12 (some .int))  {K42 : mM → Int32 → Int32 → Int32 → Int32 → Int32 → Option (Int32 × mM)} (hK42 : ∀ (S : mM) (x1 : Int32) (x2 : Int32) (x4 : Int32) (x5 : Int32) (x6 : Int32) , K42 S x1 x2 x4 x5 x6 = some (rz, Sz) → ∀ (H : Heap) (locs : List Loc) (ls : Array Slot), St Γ 28 (mE Γ S) s.heap H locs → lv_has ls 12 [(0, .ref (Γ.2.2 (0))), (1, .int x1), (2, .int x2), (4, .int x4), (5, .int x5), (6, .int x6)] → W p l e { frames := 4, cells := 0, slots := 0, locals := 91 } s m args below meth c H locs 0 0 (MQ below (gQi Γ 28 rz (mE Γ Sz)) args s 0 0 (wA Γ 28)) (F0 m 42 ls [])) : ∀ (S : mM) (x1 : Int32) (x2 : Int32) (x4 : Int32) (x5 : Int32) (x6 : Int32) , fX6_bySorts_248  K42 S x1 x2 x4 x5 x6 = some (rz, Sz) → ∀ (H : Heap) (locs : List Loc) (ls : Array Slot), St Γ 28 (mE Γ S) s.heap H locs → lv_has ls 12 [(0, .ref (Γ.2.2 (0))), (1, .int x1), (2, .int x2), (4, .int x4), (5, .int x5), (6, .int x6)] → W p l e { frames := 4, cells := 0, slots := 0, locals := 91 } s m args below meth c H locs 0 0 (MQ below (gQi Γ 28 rz (mE Γ Sz)) args s 0 0 (wA Γ 28)) (F0 m 248 ls []) := by
  obtain ⟨hx, hb, -, -, hown, hts, -, hwx, -⟩ := id C
  intro S x1 x2 x4 x5 x6 hf H locs ls hP hl
  unfold fX6_bySorts_248 at hf
  refine lv_iinc (v := x6 + (nI 1)) (lv' := [(6, .int (x6 + (nI 1))), (0, .ref (Γ.2.2 (0))), (1, .int x1), (2, .int x2), (4, .int x4), (5, .int x5)]) hx hb dX6_bySorts_248 hl (k := 5) rfl rfl (by decide) rfl (fun ls hl => ?_)
  refine lv_goto (tgt := 42) hx hb dX6_bySorts_251 (by decide) ?_
  exact hK42 S x1 x2 x4 x5 (x6 + (nI 1))  hf _ _ _ hP (lv_sub hl [1, 2, 3, 4, 5, 0] rfl)
def fX6_bySorts_240  (K42 : mM → Int32 → Int32 → Int32 → Int32 → Int32 → Option (Int32 × mM)) (S : mM) (x1 : Int32) (x2 : Int32) (x6 : Int32) (x8 : Int32) : Option (Int32 × mM) :=
  fX6_bySorts_248  K42  S x1 x2 x6 x8 x6
set_option maxHeartbeats 4000000 in
set_option maxRecDepth 100000 in
theorem wX6_bySorts_240 {p : Program} {l : Launch} {e : Env} {s : State} {m : MethodId} {args : Array Value} {below : List Frame} {meth : Method} {c : Code} {Γ : gG} {rz : Int32} {Sz : mM} (C : Cx Γ 28 p s m args meth c RX6 cX6_bySorts 12 (some .int))  {K42 : mM → Int32 → Int32 → Int32 → Int32 → Int32 → Option (Int32 × mM)} (hK42 : ∀ (S : mM) (x1 : Int32) (x2 : Int32) (x4 : Int32) (x5 : Int32) (x6 : Int32) , K42 S x1 x2 x4 x5 x6 = some (rz, Sz) → ∀ (H : Heap) (locs : List Loc) (ls : Array Slot), St Γ 28 (mE Γ S) s.heap H locs → lv_has ls 12 [(0, .ref (Γ.2.2 (0))), (1, .int x1), (2, .int x2), (4, .int x4), (5, .int x5), (6, .int x6)] → W p l e { frames := 4, cells := 0, slots := 0, locals := 91 } s m args below meth c H locs 0 0 (MQ below (gQi Γ 28 rz (mE Γ Sz)) args s 0 0 (wA Γ 28)) (F0 m 42 ls [])) : ∀ (S : mM) (x1 : Int32) (x2 : Int32) (x6 : Int32) (x8 : Int32) , fX6_bySorts_240  K42 S x1 x2 x6 x8 = some (rz, Sz) → ∀ (H : Heap) (locs : List Loc) (ls : Array Slot), St Γ 28 (mE Γ S) s.heap H locs → lv_has ls 12 [(0, .ref (Γ.2.2 (0))), (1, .int x1), (2, .int x2), (6, .int x6), (8, .int x8)] → W p l e { frames := 4, cells := 0, slots := 0, locals := 91 } s m args below meth c H locs 0 0 (MQ below (gQi Γ 28 rz (mE Γ Sz)) args s 0 0 (wA Γ 28)) (F0 m 240 ls []) := by
  obtain ⟨hx, hb, -, -, hown, hts, -, hwx, -⟩ := id C
  intro S x1 x2 x6 x8 hf H locs ls hP hl
  unfold fX6_bySorts_240 at hf
  refine lv_iload hx hb dX6_bySorts_240 (lv_at hl 3 rfl) ?_
  refine lv_istore (lv' := [(4, .int x6), (0, .ref (Γ.2.2 (0))), (1, .int x1), (2, .int x2), (6, .int x6), (8, .int x8)]) hx hb dX6_bySorts_242 hl (by decide) rfl (fun ls hl => ?_)
  refine lv_iload hx hb dX6_bySorts_244 (lv_at hl 5 rfl) ?_
  refine lv_istore (lv' := [(5, .int x8), (4, .int x6), (0, .ref (Γ.2.2 (0))), (1, .int x1), (2, .int x2), (6, .int x6), (8, .int x8)]) hx hb dX6_bySorts_246 hl (by decide) rfl (fun ls hl => ?_)
  exact wX6_bySorts_248 C  hK42  S x1 x2 x6 x8 x6  hf _ _ _ hP (lv_sub hl [2, 3, 4, 1, 0, 5] rfl)
def fX6_bySorts_207  (K42 : mM → Int32 → Int32 → Int32 → Int32 → Int32 → Option (Int32 × mM)) (K128 : mM → Int32 → Int32 → Int32 → Int32 → Int32 → Int32 → Int32 → Option (Int32 × mM)) (S : mM) (x1 : Int32) (x2 : Int32) (x4 : Int32) (x5 : Int32) (x6 : Int32) (x8 : Int32) (x9 : Int32) (x10 : Int32) (y0 : Int32) : Option (Int32 × mM) :=
  bd (fX6_sendTo S y0 x10) fun v21 S21 => ( K128 S21 x1 x2 x4 x5 x6 (x8 + v21) (x9 + (nI 1)))
set_option maxHeartbeats 4000000 in
set_option maxRecDepth 100000 in
theorem wX6_bySorts_207 {p : Program} {l : Launch} {e : Env} {s : State} {m : MethodId} {args : Array Value} {below : List Frame} {meth : Method} {c : Code} {Γ : gG} {rz : Int32} {Sz : mM} (C : Cx Γ 28 p s m args meth c RX6 cX6_bySorts 12 (some .int))  {K42 : mM → Int32 → Int32 → Int32 → Int32 → Int32 → Option (Int32 × mM)} (hK42 : ∀ (S : mM) (x1 : Int32) (x2 : Int32) (x4 : Int32) (x5 : Int32) (x6 : Int32) , K42 S x1 x2 x4 x5 x6 = some (rz, Sz) → ∀ (H : Heap) (locs : List Loc) (ls : Array Slot), St Γ 28 (mE Γ S) s.heap H locs → lv_has ls 12 [(0, .ref (Γ.2.2 (0))), (1, .int x1), (2, .int x2), (4, .int x4), (5, .int x5), (6, .int x6)] → W p l e { frames := 4, cells := 0, slots := 0, locals := 91 } s m args below meth c H locs 0 0 (MQ below (gQi Γ 28 rz (mE Γ Sz)) args s 0 0 (wA Γ 28)) (F0 m 42 ls [])) {K128 : mM → Int32 → Int32 → Int32 → Int32 → Int32 → Int32 → Int32 → Option (Int32 × mM)} (hK128 : ∀ (S : mM) (x1 : Int32) (x2 : Int32) (x4 : Int32) (x5 : Int32) (x6 : Int32) (x8 : Int32) (x9 : Int32) , K128 S x1 x2 x4 x5 x6 x8 x9 = some (rz, Sz) → ∀ (H : Heap) (locs : List Loc) (ls : Array Slot), St Γ 28 (mE Γ S) s.heap H locs → lv_has ls 12 [(0, .ref (Γ.2.2 (0))), (1, .int x1), (2, .int x2), (4, .int x4), (5, .int x5), (6, .int x6), (8, .int x8), (9, .int x9)] → W p l e { frames := 4, cells := 0, slots := 0, locals := 91 } s m args below meth c H locs 0 0 (MQ below (gQi Γ 28 rz (mE Γ Sz)) args s 0 0 (wA Γ 28)) (F0 m 128 ls [])) : ∀ (S : mM) (x1 : Int32) (x2 : Int32) (x4 : Int32) (x5 : Int32) (x6 : Int32) (x8 : Int32) (x9 : Int32) (x10 : Int32) (y0 : Int32) , fX6_bySorts_207  K42 K128 S x1 x2 x4 x5 x6 x8 x9 x10 y0 = some (rz, Sz) → ∀ (H : Heap) (locs : List Loc) (ls : Array Slot), St Γ 28 (mE Γ S) s.heap H locs → lv_has ls 12 [(0, .ref (Γ.2.2 (0))), (1, .int x1), (2, .int x2), (4, .int x4), (5, .int x5), (6, .int x6), (8, .int x8), (9, .int x9), (10, .int x10)] → W p l e { frames := 4, cells := 0, slots := 0, locals := 91 } s m args below meth c H locs 0 0 (MQ below (gQi Γ 28 rz (mE Γ Sz)) args s 0 0 (wA Γ 28)) (F0 m 207 ls [.int y0]) := by
  obtain ⟨hx, hb, -, -, hown, hts, -, hwx, -⟩ := id C
  intro S x1 x2 x4 x5 x6 x8 x9 x10 y0 hf H locs ls hP hl
  unfold fX6_bySorts_207 at hf
  refine lv_istore (lv' := [(11, .int y0), (0, .ref (Γ.2.2 (0))), (1, .int x1), (2, .int x2), (4, .int x4), (5, .int x5), (6, .int x6), (8, .int x8), (9, .int x9), (10, .int x10)]) hx hb dX6_bySorts_207 hl (by decide) rfl (fun ls hl => ?_)
  refine lv_iload hx hb dX6_bySorts_209 (lv_at hl 7 rfl) ?_
  refine lv_aload_n hx hb dX6_bySorts_211 rfl (lv_at hl 1 rfl) ?_
  refine lv_iload hx hb dX6_bySorts_212 (lv_at hl 0 rfl) ?_
  refine lv_iload hx hb dX6_bySorts_214 (lv_at hl 9 rfl) ?_
  refine bd_i hf (fun v21 S21 hq21 hf => ?_)
  refine goI (runV (rest := [.int x8]) (b := 0) (mX6_sendTo l Γ  hq21) C hP hl.1 (by decide) mE0 rfl k5_186 qX6_sendTo.1 qX6_sendTo.2.1 qX6_sendTo.2.2.1 qX6_sendTo.2.2.2.1 rfl qX6_sendTo.2.2.2.2 ⟨Nat.le_of_ble_eq_true rfl, Nat.le_of_ble_eq_true rfl⟩ ⟨Nat.le_refl 0, Nat.le_refl 0⟩ (Nat.le_of_ble_eq_true rfl) dX6_bySorts_216) hP (fun H locs hP => ?_)
  refine lv_iadd hx hb dX6_bySorts_219 ?_
  refine lv_istore (lv' := [(8, .int (x8 + v21)), (11, .int y0), (0, .ref (Γ.2.2 (0))), (1, .int x1), (2, .int x2), (4, .int x4), (5, .int x5), (6, .int x6), (9, .int x9), (10, .int x10)]) hx hb dX6_bySorts_220 hl (by decide) rfl (fun ls hl => ?_)
  refine lv_iinc (v := x9 + (nI 1)) (lv' := [(9, .int (x9 + (nI 1))), (8, .int (x8 + v21)), (11, .int y0), (0, .ref (Γ.2.2 (0))), (1, .int x1), (2, .int x2), (4, .int x4), (5, .int x5), (6, .int x6), (10, .int x10)]) hx hb dX6_bySorts_222 hl (k := 8) rfl rfl (by decide) rfl (fun ls hl => ?_)
  refine lv_goto (tgt := 128) hx hb dX6_bySorts_225 (by decide) ?_
  exact hK128 S21 x1 x2 x4 x5 x6 (x8 + v21) (x9 + (nI 1))  hf _ _ _ hP (lv_sub hl [3, 4, 5, 6, 7, 8, 1, 0] rfl)
def fX6_bySorts_128  (K42 : mM → Int32 → Int32 → Int32 → Int32 → Int32 → Option (Int32 × mM)) : Nat → mM → Int32 → Int32 → Int32 → Int32 → Int32 → Int32 → Int32 → Option (Int32 × mM)
  | 0, _, _, _, _, _, _, _, _ => none
  | n + 1, S, x1, x2, x4, x5, x6, x8, x9 =>
    gi x1 8 (if (S.1 25 (x1).toNatClampNeg) ≤ x9 then if x4 < 0 then fX6_bySorts_240  K42  S x1 x2 x6 x8 else if x5 ≤ x8 then fX6_bySorts_248  K42  S x1 x2 x4 x5 x6 else fX6_bySorts_240  K42  S x1 x2 x6 x8 else gi (((nI 100) * x1) + x9) 800 (if ((S.2.1 26 (((nI 100) * x1) + x9).toNatClampNeg).toInt32) = 0 then fX6_bySorts_207  K42 (fX6_bySorts_128  K42 n)  S x1 x2 x4 x5 x6 x8 x9 ((S.2.1 26 (((nI 100) * x1) + x9).toNatClampNeg).toInt32) (x6 - x6 / (nI 10) * (nI 10)) else if ((S.2.1 26 (((nI 100) * x1) + x9).toNatClampNeg).toInt32) = (nI 1) then fX6_bySorts_207  K42 (fX6_bySorts_128  K42 n)  S x1 x2 x4 x5 x6 x8 x9 ((S.2.1 26 (((nI 100) * x1) + x9).toNatClampNeg).toInt32) ((x6 / (nI 10)) - (x6 / (nI 10)) / (nI 10) * (nI 10)) else if ((S.2.1 26 (((nI 100) * x1) + x9).toNatClampNeg).toInt32) = (nI 2) then fX6_bySorts_207  K42 (fX6_bySorts_128  K42 n)  S x1 x2 x4 x5 x6 x8 x9 ((S.2.1 26 (((nI 100) * x1) + x9).toNatClampNeg).toInt32) ((x6 / (nI 100)) - (x6 / (nI 100)) / (nI 10) * (nI 10)) else fX6_bySorts_207  K42 (fX6_bySorts_128  K42 n)  S x1 x2 x4 x5 x6 x8 x9 ((S.2.1 26 (((nI 100) * x1) + x9).toNatClampNeg).toInt32) (x6 / (nI 1000))))
set_option maxHeartbeats 4000000 in
set_option maxRecDepth 100000 in
theorem wX6_bySorts_128 {p : Program} {l : Launch} {e : Env} {s : State} {m : MethodId} {args : Array Value} {below : List Frame} {meth : Method} {c : Code} {Γ : gG} {rz : Int32} {Sz : mM} (C : Cx Γ 28 p s m args meth c RX6 cX6_bySorts 12 (some .int))  {K42 : mM → Int32 → Int32 → Int32 → Int32 → Int32 → Option (Int32 × mM)} (hK42 : ∀ (S : mM) (x1 : Int32) (x2 : Int32) (x4 : Int32) (x5 : Int32) (x6 : Int32) , K42 S x1 x2 x4 x5 x6 = some (rz, Sz) → ∀ (H : Heap) (locs : List Loc) (ls : Array Slot), St Γ 28 (mE Γ S) s.heap H locs → lv_has ls 12 [(0, .ref (Γ.2.2 (0))), (1, .int x1), (2, .int x2), (4, .int x4), (5, .int x5), (6, .int x6)] → W p l e { frames := 4, cells := 0, slots := 0, locals := 91 } s m args below meth c H locs 0 0 (MQ below (gQi Γ 28 rz (mE Γ Sz)) args s 0 0 (wA Γ 28)) (F0 m 42 ls [])) : ∀ n : Nat, ∀ (S : mM) (x1 : Int32) (x2 : Int32) (x4 : Int32) (x5 : Int32) (x6 : Int32) (x8 : Int32) (x9 : Int32) , fX6_bySorts_128  K42 n S x1 x2 x4 x5 x6 x8 x9 = some (rz, Sz) → ∀ (H : Heap) (locs : List Loc) (ls : Array Slot), St Γ 28 (mE Γ S) s.heap H locs → lv_has ls 12 [(0, .ref (Γ.2.2 (0))), (1, .int x1), (2, .int x2), (4, .int x4), (5, .int x5), (6, .int x6), (8, .int x8), (9, .int x9)] → W p l e { frames := 4, cells := 0, slots := 0, locals := 91 } s m args below meth c H locs 0 0 (MQ below (gQi Γ 28 rz (mE Γ Sz)) args s 0 0 (wA Γ 28)) (F0 m 128 ls []) := by
  obtain ⟨hx, hb, -, -, hown, hts, -, hwx, -⟩ := id C
  intro n
  induction n with
  | zero =>
    intro S x1 x2 x4 x5 x6 x8 x9 hf
    unfold fX6_bySorts_128 at hf
    cases hf
  | succ n ih =>
    intro S x1 x2 x4 x5 x6 x8 x9 hf H locs ls hP hl
    unfold fX6_bySorts_128 at hf
    refine lv_iload hx hb dX6_bySorts_128 (lv_at hl 7 rfl) ?_
    refine lv_aload_n hx hb dX6_bySorts_130 rfl (lv_at hl 0 rfl) ?_
    refine m_get C hP 39 (by decide) k4_92 rfl (v := .ref (Γ.2.2 (25))) rfl dX6_bySorts_131 ?_
    refine lv_iload_n hx hb dX6_bySorts_134 rfl (lv_at hl 1 rfl) ?_
    refine gi_i hf (fun hi11 hj12 hf => ?_)
    refine m_ild C hP mA_25 hi11 dX6_bySorts_135 ?_
    refine lv_icmp_ge (tgt := 228) hx hb dX6_bySorts_136 (by decide) (fun hc13 => ?_) (fun hc13 => ?_)
    · have hf := if_t hc13 hf
      refine lv_iload hx hb dX6_bySorts_228 (lv_at hl 3 rfl) ?_
      refine lv_if_lt (tgt := 240) hx hb dX6_bySorts_230 (by decide) (fun hc14 => ?_) (fun hc14 => ?_)
      · have hf := if_t hc14 hf
        exact wX6_bySorts_240 C  hK42  S x1 x2 x6 x8  hf _ _ _ hP (lv_sub hl [0, 1, 2, 5, 6] rfl)
      · have hf := if_f hc14 hf
        refine lv_iload hx hb dX6_bySorts_233 (lv_at hl 6 rfl) ?_
        refine lv_iload hx hb dX6_bySorts_235 (lv_at hl 4 rfl) ?_
        refine lv_icmp_ge (tgt := 248) hx hb dX6_bySorts_237 (by decide) (fun hc15 => ?_) (fun hc15 => ?_)
        · have hf := if_t hc15 hf
          exact wX6_bySorts_248 C  hK42  S x1 x2 x4 x5 x6  hf _ _ _ hP (lv_sub hl [0, 1, 2, 3, 4, 5] rfl)
        · have hf := if_f hc15 hf
          exact wX6_bySorts_240 C  hK42  S x1 x2 x6 x8  hf _ _ _ hP (lv_sub hl [0, 1, 2, 5, 6] rfl)
    · have hf := if_f hc13 hf
      refine lv_aload_n hx hb dX6_bySorts_139 rfl (lv_at hl 0 rfl) ?_
      refine m_get C hP 40 (by decide) k4_93 rfl (v := .ref (Γ.2.2 (26))) rfl dX6_bySorts_140 ?_
      refine lv_bipush (v := nI 100) hx hb dX6_bySorts_143 rfl ?_
      refine lv_iload_n hx hb dX6_bySorts_145 rfl (lv_at hl 1 rfl) ?_
      refine lv_imul hx hb dX6_bySorts_146 ?_
      refine lv_iload hx hb dX6_bySorts_147 (lv_at hl 7 rfl) ?_
      refine lv_iadd hx hb dX6_bySorts_149 ?_
      refine gi_i hf (fun hi16 hj17 hf => ?_)
      refine m_lld C hP mB_26 hi16 dX6_bySorts_150 ?_
      refine lv_l2i (v := (S.2.1 26 (((nI 100) * x1) + x9).toNatClampNeg).toInt32) hx hb dX6_bySorts_151 rfl ?_
      refine lv_istore (lv' := [(10, .int ((S.2.1 26 (((nI 100) * x1) + x9).toNatClampNeg).toInt32)), (0, .ref (Γ.2.2 (0))), (1, .int x1), (2, .int x2), (4, .int x4), (5, .int x5), (6, .int x6), (8, .int x8), (9, .int x9)]) hx hb dX6_bySorts_152 hl (by decide) rfl (fun ls hl => ?_)
      refine lv_iload hx hb dX6_bySorts_154 (lv_at hl 0 rfl) ?_
      refine lv_if_ne (tgt := 167) hx hb dX6_bySorts_156 (by decide) (fun hc18 => ?_) (fun hc18 => ?_)
      · have hf := if_f hc18 hf
        refine lv_iload hx hb dX6_bySorts_167 (lv_at hl 0 rfl) ?_
        refine lv_iconst (v := nI 1) hx hb dX6_bySorts_169 rfl ?_
        refine lv_icmp_ne (tgt := 184) hx hb dX6_bySorts_170 (by decide) (fun hc19 => ?_) (fun hc19 => ?_)
        · have hf := if_f hc19 hf
          refine lv_iload hx hb dX6_bySorts_184 (lv_at hl 0 rfl) ?_
          refine lv_iconst (v := nI 2) hx hb dX6_bySorts_186 rfl ?_
          refine lv_icmp_ne (tgt := 201) hx hb dX6_bySorts_187 (by decide) (fun hc20 => ?_) (fun hc20 => ?_)
          · have hf := if_f hc20 hf
            refine lv_iload hx hb dX6_bySorts_201 (lv_at hl 6 rfl) ?_
            refine lv_sipush (v := nI 1000) hx hb dX6_bySorts_203 rfl ?_
            refine lv_idiv hx hb dX6_bySorts_206 (by decide) ?_
            exact wX6_bySorts_207 C  hK42 ih  S x1 x2 x4 x5 x6 x8 x9 ((S.2.1 26 (((nI 100) * x1) + x9).toNatClampNeg).toInt32) (x6 / (nI 1000))  hf _ _ _ hP (lv_sub hl [1, 2, 3, 4, 5, 6, 7, 8, 0] rfl)
          · have hf := if_t hc20 hf
            refine lv_iload hx hb dX6_bySorts_190 (lv_at hl 6 rfl) ?_
            refine lv_bipush (v := nI 100) hx hb dX6_bySorts_192 rfl ?_
            refine lv_idiv hx hb dX6_bySorts_194 (by decide) ?_
            refine lv_bipush (v := nI 10) hx hb dX6_bySorts_195 rfl ?_
            refine lv_irem hx hb dX6_bySorts_197 (by decide) ?_
            refine lv_goto (tgt := 207) hx hb dX6_bySorts_198 (by decide) ?_
            exact wX6_bySorts_207 C  hK42 ih  S x1 x2 x4 x5 x6 x8 x9 ((S.2.1 26 (((nI 100) * x1) + x9).toNatClampNeg).toInt32) ((x6 / (nI 100)) - (x6 / (nI 100)) / (nI 10) * (nI 10))  hf _ _ _ hP (lv_sub hl [1, 2, 3, 4, 5, 6, 7, 8, 0] rfl)
        · have hf := if_t hc19 hf
          refine lv_iload hx hb dX6_bySorts_173 (lv_at hl 6 rfl) ?_
          refine lv_bipush (v := nI 10) hx hb dX6_bySorts_175 rfl ?_
          refine lv_idiv hx hb dX6_bySorts_177 (by decide) ?_
          refine lv_bipush (v := nI 10) hx hb dX6_bySorts_178 rfl ?_
          refine lv_irem hx hb dX6_bySorts_180 (by decide) ?_
          refine lv_goto (tgt := 207) hx hb dX6_bySorts_181 (by decide) ?_
          exact wX6_bySorts_207 C  hK42 ih  S x1 x2 x4 x5 x6 x8 x9 ((S.2.1 26 (((nI 100) * x1) + x9).toNatClampNeg).toInt32) ((x6 / (nI 10)) - (x6 / (nI 10)) / (nI 10) * (nI 10))  hf _ _ _ hP (lv_sub hl [1, 2, 3, 4, 5, 6, 7, 8, 0] rfl)
      · have hf := if_t hc18 hf
        refine lv_iload hx hb dX6_bySorts_159 (lv_at hl 6 rfl) ?_
        refine lv_bipush (v := nI 10) hx hb dX6_bySorts_161 rfl ?_
        refine lv_irem hx hb dX6_bySorts_163 (by decide) ?_
        refine lv_goto (tgt := 207) hx hb dX6_bySorts_164 (by decide) ?_
        exact wX6_bySorts_207 C  hK42 ih  S x1 x2 x4 x5 x6 x8 x9 ((S.2.1 26 (((nI 100) * x1) + x9).toNatClampNeg).toInt32) (x6 - x6 / (nI 10) * (nI 10))  hf _ _ _ hP (lv_sub hl [1, 2, 3, 4, 5, 6, 7, 8, 0] rfl)
def fX6_bySorts_110  (K42 : mM → Int32 → Int32 → Int32 → Int32 → Int32 → Option (Int32 × mM)) (S : mM) (x1 : Int32) (x2 : Int32) (x4 : Int32) (x5 : Int32) (x6 : Int32) (y0 : Int32) : Option (Int32 × mM) :=
  if y0 = 0 then fX6_bySorts_248  K42  S x1 x2 x4 x5 x6 else bv (fX6_beginFree S (nI 1)) fun S10 => ( fX6_bySorts_128  K42 lF S10 x1 x2 x4 x5 x6 (nI 0) (nI 0))
set_option maxHeartbeats 4000000 in
set_option maxRecDepth 100000 in
theorem wX6_bySorts_110 {p : Program} {l : Launch} {e : Env} {s : State} {m : MethodId} {args : Array Value} {below : List Frame} {meth : Method} {c : Code} {Γ : gG} {rz : Int32} {Sz : mM} (C : Cx Γ 28 p s m args meth c RX6 cX6_bySorts 12 (some .int))  {K42 : mM → Int32 → Int32 → Int32 → Int32 → Int32 → Option (Int32 × mM)} (hK42 : ∀ (S : mM) (x1 : Int32) (x2 : Int32) (x4 : Int32) (x5 : Int32) (x6 : Int32) , K42 S x1 x2 x4 x5 x6 = some (rz, Sz) → ∀ (H : Heap) (locs : List Loc) (ls : Array Slot), St Γ 28 (mE Γ S) s.heap H locs → lv_has ls 12 [(0, .ref (Γ.2.2 (0))), (1, .int x1), (2, .int x2), (4, .int x4), (5, .int x5), (6, .int x6)] → W p l e { frames := 4, cells := 0, slots := 0, locals := 91 } s m args below meth c H locs 0 0 (MQ below (gQi Γ 28 rz (mE Γ Sz)) args s 0 0 (wA Γ 28)) (F0 m 42 ls [])) : ∀ (S : mM) (x1 : Int32) (x2 : Int32) (x4 : Int32) (x5 : Int32) (x6 : Int32) (y0 : Int32) , fX6_bySorts_110  K42 S x1 x2 x4 x5 x6 y0 = some (rz, Sz) → ∀ (H : Heap) (locs : List Loc) (ls : Array Slot), St Γ 28 (mE Γ S) s.heap H locs → lv_has ls 12 [(0, .ref (Γ.2.2 (0))), (1, .int x1), (2, .int x2), (4, .int x4), (5, .int x5), (6, .int x6)] → W p l e { frames := 4, cells := 0, slots := 0, locals := 91 } s m args below meth c H locs 0 0 (MQ below (gQi Γ 28 rz (mE Γ Sz)) args s 0 0 (wA Γ 28)) (F0 m 110 ls [.int y0]) := by
  obtain ⟨hx, hb, -, -, hown, hts, -, hwx, -⟩ := id C
  intro S x1 x2 x4 x5 x6 y0 hf H locs ls hP hl
  unfold fX6_bySorts_110 at hf
  refine lv_istore (lv' := [(7, .int y0), (0, .ref (Γ.2.2 (0))), (1, .int x1), (2, .int x2), (4, .int x4), (5, .int x5), (6, .int x6)]) hx hb dX6_bySorts_110 hl (by decide) rfl (fun ls hl => ?_)
  refine lv_iload hx hb dX6_bySorts_112 (lv_at hl 0 rfl) ?_
  refine lv_if_eq (tgt := 248) hx hb dX6_bySorts_114 (by decide) (fun hc9 => ?_) (fun hc9 => ?_)
  · have hf := if_t hc9 hf
    exact wX6_bySorts_248 C  hK42  S x1 x2 x4 x5 x6  hf _ _ _ hP (lv_sub hl [1, 2, 3, 4, 5, 6] rfl)
  · have hf := if_f hc9 hf
    refine lv_aload_n hx hb dX6_bySorts_117 rfl (lv_at hl 1 rfl) ?_
    refine lv_iconst (v := nI 1) hx hb dX6_bySorts_118 rfl ?_
    refine bv_i hf (fun S10 hq10 hf => ?_)
    refine goV (runV (rest := []) (b := 0) (mX6_beginFree l Γ  hq10) C hP hl.1 (by decide) mE0 rfl k5_178 qX6_beginFree.1 qX6_beginFree.2.1 qX6_beginFree.2.2.1 qX6_beginFree.2.2.2.1 rfl qX6_beginFree.2.2.2.2 ⟨Nat.le_of_ble_eq_true rfl, Nat.le_of_ble_eq_true rfl⟩ ⟨Nat.le_refl 0, Nat.le_refl 0⟩ (Nat.le_of_ble_eq_true rfl) dX6_bySorts_119) hP (fun H locs hP => ?_)
    refine lv_iconst (v := nI 0) hx hb dX6_bySorts_122 rfl ?_
    refine lv_istore (lv' := [(8, .int (nI 0)), (7, .int y0), (0, .ref (Γ.2.2 (0))), (1, .int x1), (2, .int x2), (4, .int x4), (5, .int x5), (6, .int x6)]) hx hb dX6_bySorts_123 hl (by decide) rfl (fun ls hl => ?_)
    refine lv_iconst (v := nI 0) hx hb dX6_bySorts_125 rfl ?_
    refine lv_istore (lv' := [(9, .int (nI 0)), (8, .int (nI 0)), (7, .int y0), (0, .ref (Γ.2.2 (0))), (1, .int x1), (2, .int x2), (4, .int x4), (5, .int x5), (6, .int x6)]) hx hb dX6_bySorts_126 hl (by decide) rfl (fun ls hl => ?_)
    exact wX6_bySorts_128 C  hK42 lF S10 x1 x2 x4 x5 x6 (nI 0) (nI 0)  hf _ _ _ hP (lv_sub hl [3, 4, 5, 6, 7, 8, 1, 0] rfl)
def fX6_bySorts_109  (K42 : mM → Int32 → Int32 → Int32 → Int32 → Int32 → Option (Int32 × mM)) (S : mM) (x1 : Int32) (x2 : Int32) (x4 : Int32) (x5 : Int32) (x6 : Int32) : Option (Int32 × mM) :=
  fX6_bySorts_110  K42  S x1 x2 x4 x5 x6 (nI 0)
set_option maxHeartbeats 4000000 in
set_option maxRecDepth 100000 in
theorem wX6_bySorts_109 {p : Program} {l : Launch} {e : Env} {s : State} {m : MethodId} {args : Array Value} {below : List Frame} {meth : Method} {c : Code} {Γ : gG} {rz : Int32} {Sz : mM} (C : Cx Γ 28 p s m args meth c RX6 cX6_bySorts 12 (some .int))  {K42 : mM → Int32 → Int32 → Int32 → Int32 → Int32 → Option (Int32 × mM)} (hK42 : ∀ (S : mM) (x1 : Int32) (x2 : Int32) (x4 : Int32) (x5 : Int32) (x6 : Int32) , K42 S x1 x2 x4 x5 x6 = some (rz, Sz) → ∀ (H : Heap) (locs : List Loc) (ls : Array Slot), St Γ 28 (mE Γ S) s.heap H locs → lv_has ls 12 [(0, .ref (Γ.2.2 (0))), (1, .int x1), (2, .int x2), (4, .int x4), (5, .int x5), (6, .int x6)] → W p l e { frames := 4, cells := 0, slots := 0, locals := 91 } s m args below meth c H locs 0 0 (MQ below (gQi Γ 28 rz (mE Γ Sz)) args s 0 0 (wA Γ 28)) (F0 m 42 ls [])) : ∀ (S : mM) (x1 : Int32) (x2 : Int32) (x4 : Int32) (x5 : Int32) (x6 : Int32) , fX6_bySorts_109  K42 S x1 x2 x4 x5 x6 = some (rz, Sz) → ∀ (H : Heap) (locs : List Loc) (ls : Array Slot), St Γ 28 (mE Γ S) s.heap H locs → lv_has ls 12 [(0, .ref (Γ.2.2 (0))), (1, .int x1), (2, .int x2), (4, .int x4), (5, .int x5), (6, .int x6)] → W p l e { frames := 4, cells := 0, slots := 0, locals := 91 } s m args below meth c H locs 0 0 (MQ below (gQi Γ 28 rz (mE Γ Sz)) args s 0 0 (wA Γ 28)) (F0 m 109 ls []) := by
  obtain ⟨hx, hb, -, -, hown, hts, -, hwx, -⟩ := id C
  intro S x1 x2 x4 x5 x6 hf H locs ls hP hl
  unfold fX6_bySorts_109 at hf
  refine lv_iconst (v := nI 0) hx hb dX6_bySorts_109 rfl ?_
  exact wX6_bySorts_110 C  hK42  S x1 x2 x4 x5 x6 (nI 0)  hf _ _ _ hP (lv_sub hl [0, 1, 2, 3, 4, 5] rfl)
def fX6_bySorts_42   : Nat → mM → Int32 → Int32 → Int32 → Int32 → Int32 → Option (Int32 × mM)
  | 0, _, _, _, _, _, _ => none
  | n + 1, S, x1, x2, x4, x5, x6 =>
    if (nI 5000) ≤ x6 then if x2 = 0 then some (x4, S) else some (x5, S) else if (S.1 0 0) ≤ (x6 - x6 / (nI 10) * (nI 10)) then fX6_bySorts_109  (fX6_bySorts_42   n)  S x1 x2 x4 x5 x6 else if (S.1 0 0) ≤ ((x6 / (nI 10)) - (x6 / (nI 10)) / (nI 10) * (nI 10)) then fX6_bySorts_109  (fX6_bySorts_42   n)  S x1 x2 x4 x5 x6 else if (S.1 0 0) ≤ ((x6 / (nI 100)) - (x6 / (nI 100)) / (nI 10) * (nI 10)) then fX6_bySorts_109  (fX6_bySorts_42   n)  S x1 x2 x4 x5 x6 else if (S.1 0 0) ≤ (x6 / (nI 1000)) then fX6_bySorts_109  (fX6_bySorts_42   n)  S x1 x2 x4 x5 x6 else fX6_bySorts_110  (fX6_bySorts_42   n)  S x1 x2 x4 x5 x6 (nI 1)
set_option maxHeartbeats 4000000 in
set_option maxRecDepth 100000 in
theorem wX6_bySorts_42 {p : Program} {l : Launch} {e : Env} {s : State} {m : MethodId} {args : Array Value} {below : List Frame} {meth : Method} {c : Code} {Γ : gG} {rz : Int32} {Sz : mM} (C : Cx Γ 28 p s m args meth c RX6 cX6_bySorts 12 (some .int))   : ∀ n : Nat, ∀ (S : mM) (x1 : Int32) (x2 : Int32) (x4 : Int32) (x5 : Int32) (x6 : Int32) , fX6_bySorts_42   n S x1 x2 x4 x5 x6 = some (rz, Sz) → ∀ (H : Heap) (locs : List Loc) (ls : Array Slot), St Γ 28 (mE Γ S) s.heap H locs → lv_has ls 12 [(0, .ref (Γ.2.2 (0))), (1, .int x1), (2, .int x2), (4, .int x4), (5, .int x5), (6, .int x6)] → W p l e { frames := 4, cells := 0, slots := 0, locals := 91 } s m args below meth c H locs 0 0 (MQ below (gQi Γ 28 rz (mE Γ Sz)) args s 0 0 (wA Γ 28)) (F0 m 42 ls []) := by
  obtain ⟨hx, hb, -, -, hown, hts, -, hwx, -⟩ := id C
  intro n
  induction n with
  | zero =>
    intro S x1 x2 x4 x5 x6 hf
    unfold fX6_bySorts_42 at hf
    cases hf
  | succ n ih =>
    intro S x1 x2 x4 x5 x6 hf H locs ls hP hl
    unfold fX6_bySorts_42 at hf
    refine lv_iload hx hb dX6_bySorts_42 (lv_at hl 5 rfl) ?_
    refine lv_sipush (v := nI 5000) hx hb dX6_bySorts_44 rfl ?_
    refine lv_icmp_ge (tgt := 254) hx hb dX6_bySorts_47 (by decide) (fun hc6 => ?_) (fun hc6 => ?_)
    · have hf := if_t hc6 hf
      refine lv_iload_n hx hb dX6_bySorts_254 rfl (lv_at hl 2 rfl) ?_
      refine lv_if_ne (tgt := 263) hx hb dX6_bySorts_255 (by decide) (fun hc7 => ?_) (fun hc7 => ?_)
      · have hf := if_f hc7 hf
        refine lv_iload hx hb dX6_bySorts_263 (lv_at hl 4 rfl) ?_
        exact r_iret (X := mE Γ) C hP hf dX6_bySorts_265
      · have hf := if_t hc7 hf
        refine lv_iload hx hb dX6_bySorts_258 (lv_at hl 3 rfl) ?_
        refine lv_goto (tgt := 265) hx hb dX6_bySorts_260 (by decide) ?_
        exact r_iret (X := mE Γ) C hP hf dX6_bySorts_265
    · have hf := if_f hc6 hf
      refine lv_iload hx hb dX6_bySorts_50 (lv_at hl 5 rfl) ?_
      refine lv_bipush (v := nI 10) hx hb dX6_bySorts_52 rfl ?_
      refine lv_irem hx hb dX6_bySorts_54 (by decide) ?_
      refine lv_aload_n hx hb dX6_bySorts_55 rfl (lv_at hl 0 rfl) ?_
      refine m_get C hP 0 (by decide) k4_53 rfl (v := .int (S.1 0 0)) rfl dX6_bySorts_56 ?_
      refine lv_icmp_ge (tgt := 109) hx hb dX6_bySorts_59 (by decide) (fun hc8 => ?_) (fun hc8 => ?_)
      · have hf := if_t hc8 hf
        exact wX6_bySorts_109 C  ih  S x1 x2 x4 x5 x6  hf _ _ _ hP (lv_sub hl [0, 1, 2, 3, 4, 5] rfl)
      · have hf := if_f hc8 hf
        refine lv_iload hx hb dX6_bySorts_62 (lv_at hl 5 rfl) ?_
        refine lv_bipush (v := nI 10) hx hb dX6_bySorts_64 rfl ?_
        refine lv_idiv hx hb dX6_bySorts_66 (by decide) ?_
        refine lv_bipush (v := nI 10) hx hb dX6_bySorts_67 rfl ?_
        refine lv_irem hx hb dX6_bySorts_69 (by decide) ?_
        refine lv_aload_n hx hb dX6_bySorts_70 rfl (lv_at hl 0 rfl) ?_
        refine m_get C hP 0 (by decide) k4_53 rfl (v := .int (S.1 0 0)) rfl dX6_bySorts_71 ?_
        refine lv_icmp_ge (tgt := 109) hx hb dX6_bySorts_74 (by decide) (fun hc22 => ?_) (fun hc22 => ?_)
        · have hf := if_t hc22 hf
          exact wX6_bySorts_109 C  ih  S x1 x2 x4 x5 x6  hf _ _ _ hP (lv_sub hl [0, 1, 2, 3, 4, 5] rfl)
        · have hf := if_f hc22 hf
          refine lv_iload hx hb dX6_bySorts_77 (lv_at hl 5 rfl) ?_
          refine lv_bipush (v := nI 100) hx hb dX6_bySorts_79 rfl ?_
          refine lv_idiv hx hb dX6_bySorts_81 (by decide) ?_
          refine lv_bipush (v := nI 10) hx hb dX6_bySorts_82 rfl ?_
          refine lv_irem hx hb dX6_bySorts_84 (by decide) ?_
          refine lv_aload_n hx hb dX6_bySorts_85 rfl (lv_at hl 0 rfl) ?_
          refine m_get C hP 0 (by decide) k4_53 rfl (v := .int (S.1 0 0)) rfl dX6_bySorts_86 ?_
          refine lv_icmp_ge (tgt := 109) hx hb dX6_bySorts_89 (by decide) (fun hc23 => ?_) (fun hc23 => ?_)
          · have hf := if_t hc23 hf
            exact wX6_bySorts_109 C  ih  S x1 x2 x4 x5 x6  hf _ _ _ hP (lv_sub hl [0, 1, 2, 3, 4, 5] rfl)
          · have hf := if_f hc23 hf
            refine lv_iload hx hb dX6_bySorts_92 (lv_at hl 5 rfl) ?_
            refine lv_sipush (v := nI 1000) hx hb dX6_bySorts_94 rfl ?_
            refine lv_idiv hx hb dX6_bySorts_97 (by decide) ?_
            refine lv_aload_n hx hb dX6_bySorts_98 rfl (lv_at hl 0 rfl) ?_
            refine m_get C hP 0 (by decide) k4_53 rfl (v := .int (S.1 0 0)) rfl dX6_bySorts_99 ?_
            refine lv_icmp_ge (tgt := 109) hx hb dX6_bySorts_102 (by decide) (fun hc24 => ?_) (fun hc24 => ?_)
            · have hf := if_t hc24 hf
              exact wX6_bySorts_109 C  ih  S x1 x2 x4 x5 x6  hf _ _ _ hP (lv_sub hl [0, 1, 2, 3, 4, 5] rfl)
            · have hf := if_f hc24 hf
              refine lv_iconst (v := nI 1) hx hb dX6_bySorts_105 rfl ?_
              refine lv_goto (tgt := 110) hx hb dX6_bySorts_106 (by decide) ?_
              exact wX6_bySorts_110 C  ih  S x1 x2 x4 x5 x6 (nI 1)  hf _ _ _ hP (lv_sub hl [0, 1, 2, 3, 4, 5] rfl)
def fX6_bySorts_24   (S : mM) (x1 : Int32) (x2 : Int32) (y0 : Int32) : Option (Int32 × mM) :=
  if (0 : Int32) ≤ y0 then fX6_bySorts_42   lF S x1 x2 (-4) (-4) (nI 0) else some (y0, S)
set_option maxHeartbeats 4000000 in
set_option maxRecDepth 100000 in
theorem wX6_bySorts_24 {p : Program} {l : Launch} {e : Env} {s : State} {m : MethodId} {args : Array Value} {below : List Frame} {meth : Method} {c : Code} {Γ : gG} {rz : Int32} {Sz : mM} (C : Cx Γ 28 p s m args meth c RX6 cX6_bySorts 12 (some .int))   : ∀ (S : mM) (x1 : Int32) (x2 : Int32) (y0 : Int32) , fX6_bySorts_24   S x1 x2 y0 = some (rz, Sz) → ∀ (H : Heap) (locs : List Loc) (ls : Array Slot), St Γ 28 (mE Γ S) s.heap H locs → lv_has ls 12 [(0, .ref (Γ.2.2 (0))), (1, .int x1), (2, .int x2)] → W p l e { frames := 4, cells := 0, slots := 0, locals := 91 } s m args below meth c H locs 0 0 (MQ below (gQi Γ 28 rz (mE Γ Sz)) args s 0 0 (wA Γ 28)) (F0 m 24 ls [.int y0]) := by
  obtain ⟨hx, hb, -, -, hown, hts, -, hwx, -⟩ := id C
  intro S x1 x2 y0 hf H locs ls hP hl
  unfold fX6_bySorts_24 at hf
  refine lv_istore_n (lv' := [(3, .int y0), (0, .ref (Γ.2.2 (0))), (1, .int x1), (2, .int x2)]) hx hb dX6_bySorts_24 rfl hl (by decide) rfl (fun ls hl => ?_)
  refine lv_iload_n hx hb dX6_bySorts_25 rfl (lv_at hl 0 rfl) ?_
  refine lv_if_ge (tgt := 31) hx hb dX6_bySorts_26 (by decide) (fun hc5 => ?_) (fun hc5 => ?_)
  · have hf := if_t hc5 hf
    refine lv_bipush (v := (-4)) hx hb dX6_bySorts_31 rfl ?_
    refine lv_istore (lv' := [(4, .int ((-4))), (3, .int y0), (0, .ref (Γ.2.2 (0))), (1, .int x1), (2, .int x2)]) hx hb dX6_bySorts_33 hl (by decide) rfl (fun ls hl => ?_)
    refine lv_bipush (v := (-4)) hx hb dX6_bySorts_35 rfl ?_
    refine lv_istore (lv' := [(5, .int ((-4))), (4, .int ((-4))), (3, .int y0), (0, .ref (Γ.2.2 (0))), (1, .int x1), (2, .int x2)]) hx hb dX6_bySorts_37 hl (by decide) rfl (fun ls hl => ?_)
    refine lv_iconst (v := nI 0) hx hb dX6_bySorts_39 rfl ?_
    refine lv_istore (lv' := [(6, .int (nI 0)), (5, .int ((-4))), (4, .int ((-4))), (3, .int y0), (0, .ref (Γ.2.2 (0))), (1, .int x1), (2, .int x2)]) hx hb dX6_bySorts_40 hl (by decide) rfl (fun ls hl => ?_)
    exact wX6_bySorts_42 C   lF S x1 x2 (-4) (-4) (nI 0)  hf _ _ _ hP (lv_sub hl [4, 5, 6, 2, 1, 0] rfl)
  · have hf := if_f hc5 hf
    refine lv_iload_n hx hb dX6_bySorts_29 rfl (lv_at hl 0 rfl) ?_
    exact r_iret (X := mE Γ) C hP hf dX6_bySorts_30
def fX6_bySorts  (S : mM) (x1 : Int32) (x2 : Int32) : Option (Int32 × mM) :=
  sv (mS S 0 9 (nI 0)) fun S1 => ( bd (fX6_in S1 x2.toInt64 0 1) fun v2 S2 => ( if v2 = 0 then fX6_bySorts_24    S2 x1 x2 (-1) else bd (fX6_wrongSorts S2 x1) fun v4 S4 => ( fX6_bySorts_24    S4 x1 x2 v4)))
set_option maxHeartbeats 4000000 in
set_option maxRecDepth 100000 in
theorem mX6_bySorts (l : Launch) (Γ : gG)   {S : mM} {x1 : Int32} {x2 : Int32} {rz : Int32} {Sz : mM} (hf : fX6_bySorts S x1 x2 = some (rz, Sz)) : CtI l Γ 28 yX6_bySorts cX6_bySorts 12 .int 4 91 [.ref (Γ.2.2 (0)), .int x1, .int x2] (mE Γ S) rz (mE Γ Sz) := by
  refine met_body (Γ := Γ) (lv := [(0, .ref (Γ.2.2 (0))), (1, .int x1), (2, .int x2)]) RX6 (by decide) rfl rfl rfl ?_
  intro p e s m below meth c H locs ls C hP hl
  obtain ⟨hx, hb, -, -, hown, hts, -, hwx, -⟩ := id C
  unfold fX6_bySorts at hf
  refine lv_aload_n hx hb dX6_bySorts_0 rfl (lv_at hl 0 rfl) ?_
  refine lv_iconst (v := nI 0) hx hb dX6_bySorts_1 rfl ?_
  refine m_put C hP 9 (by decide) k4_62 dX6_bySorts_2 (fun H locs hP => ?_)
  refine sv_i hf (fun S1 e1 hf => ?_)
  rw [← e1] at hP
  refine lv_iload_n hx hb dX6_bySorts_5 rfl (lv_at hl 2 rfl) ?_
  refine lv_i2l (v := x2.toInt64) hx hb dX6_bySorts_6 rfl ?_
  refine lv_lconst (v := 0) hx hb dX6_bySorts_7 (by decide) ?_
  refine lv_lconst (v := 1) hx hb dX6_bySorts_8 (by decide) ?_
  refine bd_i hf (fun v2 S2 hq2 hf => ?_)
  refine goI (runS (rest := []) (mX6_in l Γ  hq2) C hP hl.1 k4_215 qX6_in.1 qX6_in.2.1 qX6_in.2.2.1 rfl qX6_in.2.2.2 ⟨Nat.le_of_ble_eq_true rfl, Nat.le_of_ble_eq_true rfl⟩ ⟨Nat.le_refl 0, Nat.le_refl 0⟩ (Nat.le_of_ble_eq_true rfl) dX6_bySorts_9) hP (fun H locs hP => ?_)
  refine lv_if_ne (tgt := 19) hx hb dX6_bySorts_12 (by decide) (fun hc3 => ?_) (fun hc3 => ?_)
  · have hf := if_f hc3 hf
    refine lv_aload_n hx hb dX6_bySorts_19 rfl (lv_at hl 0 rfl) ?_
    refine lv_iload_n hx hb dX6_bySorts_20 rfl (lv_at hl 1 rfl) ?_
    refine bd_i hf (fun v4 S4 hq4 hf => ?_)
    refine goI (runV (rest := []) (b := 0) (mX6_wrongSorts l Γ  hq4) C hP hl.1 (by decide) mE0 rfl k5_205 qX6_wrongSorts.1 qX6_wrongSorts.2.1 qX6_wrongSorts.2.2.1 qX6_wrongSorts.2.2.2.1 rfl qX6_wrongSorts.2.2.2.2 ⟨Nat.le_of_ble_eq_true rfl, Nat.le_of_ble_eq_true rfl⟩ ⟨Nat.le_refl 0, Nat.le_refl 0⟩ (Nat.le_of_ble_eq_true rfl) dX6_bySorts_21) hP (fun H locs hP => ?_)
    exact wX6_bySorts_24 C    S4 x1 x2 v4  hf _ _ _ hP (lv_sub hl [0, 1, 2] rfl)
  · have hf := if_t hc3 hf
    refine lv_iconst (v := (-1)) hx hb dX6_bySorts_15 rfl ?_
    refine lv_goto (tgt := 24) hx hb dX6_bySorts_16 (by decide) ?_
    exact wX6_bySorts_24 C    S2 x1 x2 (-1)  hf _ _ _ hP (lv_sub hl [0, 1, 2] rfl)
-- X6_advice
theorem qX6_advice : Cond.instanceMethod yX6_advice ∈ Ub ∧ Cond.selects RX6 yX6_advice yX6_advice ∈ Ub ∧ Cond.initialized RX6 ∈ Ub ∧ Cond.code yX6_advice cX6_advice 4 (some FieldType.int) ∈ Ub ∧ (yX6_advice.cls = RX6 ∧ yX6_advice.cls ≠ "java/lang/invoke/MethodHandle" ∧ yX6_advice.cls ≠ "java/lang/invoke/VarHandle" ∧ (parseMethodDescriptor yX6_advice.desc).map (fun d => d.parameters.length) = some 2) := ⟨k5_222, k5_223, k1_5, k5_224, by decide +kernel⟩
def fX6_advice  (S : mM) (x1 : Int32) (x2 : Int32) : Option (Int32 × mM) :=
  sv (mS S 0 9 (nI 0)) fun S1 => ( bd (fX6_isSort S1 x1) fun v2 S2 => ( if v2 = 0 then some ((-1), S2) else bd (fX6_in S2 x2.toInt64 0 99) fun v4 S4 => ( if v4 = 0 then some ((-1), S4) else bd (fX6_regretOf S4 x1) fun v6 S6 => ( if (0 : Int32) ≤ v6 then some (v6 * x2, S6) else some (v6, S6)))))
set_option maxHeartbeats 4000000 in
set_option maxRecDepth 100000 in
theorem mX6_advice (l : Launch) (Γ : gG)   {S : mM} {x1 : Int32} {x2 : Int32} {rz : Int32} {Sz : mM} (hf : fX6_advice S x1 x2 = some (rz, Sz)) : CtI l Γ 28 yX6_advice cX6_advice 4 .int 7 155 [.ref (Γ.2.2 (0)), .int x1, .int x2] (mE Γ S) rz (mE Γ Sz) := by
  refine met_body (Γ := Γ) (lv := [(0, .ref (Γ.2.2 (0))), (1, .int x1), (2, .int x2)]) RX6 (by decide) rfl rfl rfl ?_
  intro p e s m below meth c H locs ls C hP hl
  obtain ⟨hx, hb, -, -, hown, hts, -, hwx, -⟩ := id C
  unfold fX6_advice at hf
  refine lv_aload_n hx hb dX6_advice_0 rfl (lv_at hl 0 rfl) ?_
  refine lv_iconst (v := nI 0) hx hb dX6_advice_1 rfl ?_
  refine m_put C hP 9 (by decide) k4_62 dX6_advice_2 (fun H locs hP => ?_)
  refine sv_i hf (fun S1 e1 hf => ?_)
  rw [← e1] at hP
  refine lv_iload_n hx hb dX6_advice_5 rfl (lv_at hl 1 rfl) ?_
  refine bd_i hf (fun v2 S2 hq2 hf => ?_)
  refine goI (runS (rest := []) (mX6_isSort l Γ  hq2) C hP hl.1 k5_71 qX6_isSort.1 qX6_isSort.2.1 qX6_isSort.2.2.1 rfl qX6_isSort.2.2.2 ⟨Nat.le_of_ble_eq_true rfl, Nat.le_of_ble_eq_true rfl⟩ ⟨Nat.le_refl 0, Nat.le_refl 0⟩ (Nat.le_of_ble_eq_true rfl) dX6_advice_6) hP (fun H locs hP => ?_)
  refine lv_if_eq (tgt := 24) hx hb dX6_advice_9 (by decide) (fun hc3 => ?_) (fun hc3 => ?_)
  · have hf := if_t hc3 hf
    refine lv_iconst (v := (-1)) hx hb dX6_advice_24 rfl ?_
    exact r_iret (X := mE Γ) C hP hf dX6_advice_25
  · have hf := if_f hc3 hf
    refine lv_iload_n hx hb dX6_advice_12 rfl (lv_at hl 2 rfl) ?_
    refine lv_i2l (v := x2.toInt64) hx hb dX6_advice_13 rfl ?_
    refine lv_lconst (v := 0) hx hb dX6_advice_14 (by decide) ?_
    refine lv_ldc2 (v := 99) hx hb hown (hts _ k5_161) dX6_advice_15 ?_
    refine bd_i hf (fun v4 S4 hq4 hf => ?_)
    refine goI (runS (rest := []) (mX6_in l Γ  hq4) C hP hl.1 k4_215 qX6_in.1 qX6_in.2.1 qX6_in.2.2.1 rfl qX6_in.2.2.2 ⟨Nat.le_of_ble_eq_true rfl, Nat.le_of_ble_eq_true rfl⟩ ⟨Nat.le_refl 0, Nat.le_refl 0⟩ (Nat.le_of_ble_eq_true rfl) dX6_advice_18) hP (fun H locs hP => ?_)
    refine lv_if_ne (tgt := 26) hx hb dX6_advice_21 (by decide) (fun hc5 => ?_) (fun hc5 => ?_)
    · have hf := if_f hc5 hf
      refine lv_aload_n hx hb dX6_advice_26 rfl (lv_at hl 0 rfl) ?_
      refine lv_iload_n hx hb dX6_advice_27 rfl (lv_at hl 1 rfl) ?_
      refine bd_i hf (fun v6 S6 hq6 hf => ?_)
      refine goI (runV (rest := []) (b := 0) (mX6_regretOf l Γ  hq6) C hP hl.1 (by decide) mE0 rfl k5_112 qX6_regretOf.1 qX6_regretOf.2.1 qX6_regretOf.2.2.1 qX6_regretOf.2.2.2.1 rfl qX6_regretOf.2.2.2.2 ⟨Nat.le_of_ble_eq_true rfl, Nat.le_of_ble_eq_true rfl⟩ ⟨Nat.le_refl 0, Nat.le_refl 0⟩ (Nat.le_of_ble_eq_true rfl) dX6_advice_28) hP (fun H locs hP => ?_)
      refine lv_istore_n (lv' := [(3, .int v6), (0, .ref (Γ.2.2 (0))), (1, .int x1), (2, .int x2)]) hx hb dX6_advice_31 rfl hl (by decide) rfl (fun ls hl => ?_)
      refine lv_iload_n hx hb dX6_advice_32 rfl (lv_at hl 0 rfl) ?_
      refine lv_if_ge (tgt := 40) hx hb dX6_advice_33 (by decide) (fun hc7 => ?_) (fun hc7 => ?_)
      · have hf := if_t hc7 hf
        refine lv_iload_n hx hb dX6_advice_40 rfl (lv_at hl 0 rfl) ?_
        refine lv_iload_n hx hb dX6_advice_41 rfl (lv_at hl 3 rfl) ?_
        refine lv_imul hx hb dX6_advice_42 ?_
        exact r_iret (X := mE Γ) C hP hf dX6_advice_43
      · have hf := if_f hc7 hf
        refine lv_iload_n hx hb dX6_advice_36 rfl (lv_at hl 0 rfl) ?_
        refine lv_goto (tgt := 43) hx hb dX6_advice_37 (by decide) ?_
        exact r_iret (X := mE Γ) C hP hf dX6_advice_43
    · have hf := if_t hc5 hf
      refine lv_iconst (v := (-1)) hx hb dX6_advice_24 rfl ?_
      exact r_iret (X := mE Γ) C hP hf dX6_advice_25
-- X6_findNews
theorem qX6_findNews : Cond.instanceMethod yX6_findNews ∈ Ub ∧ Cond.selects RX6 yX6_findNews yX6_findNews ∈ Ub ∧ Cond.initialized RX6 ∈ Ub ∧ Cond.code yX6_findNews cX6_findNews 8 (none : Option Jvm.ClassFile.FieldType) ∈ Ub ∧ (yX6_findNews.cls = RX6 ∧ yX6_findNews.cls ≠ "java/lang/invoke/MethodHandle" ∧ yX6_findNews.cls ≠ "java/lang/invoke/VarHandle" ∧ (parseMethodDescriptor yX6_findNews.desc).map (fun d => d.parameters.length) = some 3) := ⟨k5_237, ks_63, k1_5, k5_238, by decide +kernel⟩
def fX6_findNews_100  (K10 : mM → Int32 → Int32 → Int32 → Option mM) (S : mM) (x2 : Int32) (x3 : Int32) (x4 : Int32) (y1 : Int32) (y2 : Int32) : Option mM :=
  gi y1 61 (sv (mS S 19 ((y1).toNatClampNeg) y2) fun S14 => ( K10 S14 x2 x3 (x4 + (nI 1))))
set_option maxHeartbeats 4000000 in
set_option maxRecDepth 100000 in
theorem wX6_findNews_100 {p : Program} {l : Launch} {e : Env} {s : State} {m : MethodId} {args : Array Value} {below : List Frame} {meth : Method} {c : Code} {Γ : gG} {Sz : mM} (C : Cx Γ 28 p s m args meth c RX6 cX6_findNews 8 none)  {K10 : mM → Int32 → Int32 → Int32 → Option mM} (hK10 : ∀ (S : mM) (x2 : Int32) (x3 : Int32) (x4 : Int32) , K10 S x2 x3 x4 = some Sz → ∀ (H : Heap) (locs : List Loc) (ls : Array Slot), St Γ 28 (mE Γ S) s.heap H locs → lv_has ls 8 [(0, .ref (Γ.2.2 (0))), (2, .int x2), (3, .int x3), (4, .int x4)] → W p l e { frames := 0, cells := 0, slots := 0, locals := 0 } s m args below meth c H locs 0 0 (MQ below (gQv Γ 28 (mE Γ Sz)) args s 0 0 (wA Γ 28)) (F0 m 10 ls [])) : ∀ (S : mM) (x2 : Int32) (x3 : Int32) (x4 : Int32) (y1 : Int32) (y2 : Int32) , fX6_findNews_100  K10 S x2 x3 x4 y1 y2 = some Sz → ∀ (H : Heap) (locs : List Loc) (ls : Array Slot), St Γ 28 (mE Γ S) s.heap H locs → lv_has ls 8 [(0, .ref (Γ.2.2 (0))), (2, .int x2), (3, .int x3), (4, .int x4)] → W p l e { frames := 0, cells := 0, slots := 0, locals := 0 } s m args below meth c H locs 0 0 (MQ below (gQv Γ 28 (mE Γ Sz)) args s 0 0 (wA Γ 28)) (F0 m 100 ls [.int y2, .int y1, .ref (Γ.2.2 (19))]) := by
  obtain ⟨hx, hb, -, -, hown, hts, -, hwx, -⟩ := id C
  intro S x2 x3 x4 y1 y2 hf H locs ls hP hl
  unfold fX6_findNews_100 at hf
  refine gi_i hf (fun hi12 hj13 hf => ?_)
  refine m_ist C hP mA_19 hi12 dX6_findNews_100 (fun H locs hP => ?_)
  refine sv_i hf (fun S14 e14 hf => ?_)
  rw [← e14] at hP
  refine lv_iinc (v := x4 + (nI 1)) (lv' := [(4, .int (x4 + (nI 1))), (0, .ref (Γ.2.2 (0))), (2, .int x2), (3, .int x3)]) hx hb dX6_findNews_101 hl (k := 3) rfl rfl (by decide) rfl (fun ls hl => ?_)
  refine lv_goto (tgt := 10) hx hb dX6_findNews_104 (by decide) ?_
  exact hK10 S14 x2 x3 (x4 + (nI 1))  hf _ _ _ hP (lv_sub hl [1, 2, 3, 0] rfl)
def fX6_findNews_40  (K10 : mM → Int32 → Int32 → Int32 → Option mM) (S : mM) (x2 : Int32) (x3 : Int32) (x4 : Int32) (y1 : Int32) : Option mM :=
  gi y1 61 (gi (x4 - (nI 1)) 61 (if ((S.1 19 (x4 - (nI 1)).toNatClampNeg) - ((nI 2) * (((S.1 19 (y1).toNatClampNeg) * x3) / (nI 10)))) ≤ (nI 9999) then if ((-9999) : Int32) ≤ ((S.1 19 (x4 - (nI 1)).toNatClampNeg) - ((nI 2) * (((S.1 19 (y1).toNatClampNeg) * x3) / (nI 10)))) then fX6_findNews_100  K10  S x2 x3 x4 x4 ((S.1 19 (x4 - (nI 1)).toNatClampNeg) - ((nI 2) * (((S.1 19 (y1).toNatClampNeg) * x3) / (nI 10)))) else fX6_findNews_100  K10  S x2 x3 x4 x4 (-9999) else fX6_findNews_100  K10  S x2 x3 x4 x4 (nI 9999)))
set_option maxHeartbeats 4000000 in
set_option maxRecDepth 100000 in
theorem wX6_findNews_40 {p : Program} {l : Launch} {e : Env} {s : State} {m : MethodId} {args : Array Value} {below : List Frame} {meth : Method} {c : Code} {Γ : gG} {Sz : mM} (C : Cx Γ 28 p s m args meth c RX6 cX6_findNews 8 none)  {K10 : mM → Int32 → Int32 → Int32 → Option mM} (hK10 : ∀ (S : mM) (x2 : Int32) (x3 : Int32) (x4 : Int32) , K10 S x2 x3 x4 = some Sz → ∀ (H : Heap) (locs : List Loc) (ls : Array Slot), St Γ 28 (mE Γ S) s.heap H locs → lv_has ls 8 [(0, .ref (Γ.2.2 (0))), (2, .int x2), (3, .int x3), (4, .int x4)] → W p l e { frames := 0, cells := 0, slots := 0, locals := 0 } s m args below meth c H locs 0 0 (MQ below (gQv Γ 28 (mE Γ Sz)) args s 0 0 (wA Γ 28)) (F0 m 10 ls [])) : ∀ (S : mM) (x2 : Int32) (x3 : Int32) (x4 : Int32) (y1 : Int32) , fX6_findNews_40  K10 S x2 x3 x4 y1 = some Sz → ∀ (H : Heap) (locs : List Loc) (ls : Array Slot), St Γ 28 (mE Γ S) s.heap H locs → lv_has ls 8 [(0, .ref (Γ.2.2 (0))), (2, .int x2), (3, .int x3), (4, .int x4)] → W p l e { frames := 0, cells := 0, slots := 0, locals := 0 } s m args below meth c H locs 0 0 (MQ below (gQv Γ 28 (mE Γ Sz)) args s 0 0 (wA Γ 28)) (F0 m 40 ls [.int y1, .ref (Γ.2.2 (19))]) := by
  obtain ⟨hx, hb, -, -, hown, hts, -, hwx, -⟩ := id C
  intro S x2 x3 x4 y1 hf H locs ls hP hl
  unfold fX6_findNews_40 at hf
  refine gi_i hf (fun hi6 hj7 hf => ?_)
  refine m_ild C hP mA_19 hi6 dX6_findNews_40 ?_
  refine lv_iload_n hx hb dX6_findNews_41 rfl (lv_at hl 2 rfl) ?_
  refine lv_imul hx hb dX6_findNews_42 ?_
  refine lv_bipush (v := nI 10) hx hb dX6_findNews_43 rfl ?_
  refine lv_idiv hx hb dX6_findNews_45 (by decide) ?_
  refine lv_istore (lv' := [(6, .int (((S.1 19 (y1).toNatClampNeg) * x3) / (nI 10))), (0, .ref (Γ.2.2 (0))), (2, .int x2), (3, .int x3), (4, .int x4)]) hx hb dX6_findNews_46 hl (by decide) rfl (fun ls hl => ?_)
  refine lv_aload_n hx hb dX6_findNews_48 rfl (lv_at hl 1 rfl) ?_
  refine m_get C hP 32 (by decide) k4_85 rfl (v := .ref (Γ.2.2 (19))) rfl dX6_findNews_49 ?_
  refine lv_iload hx hb dX6_findNews_52 (lv_at hl 4 rfl) ?_
  refine lv_iconst (v := nI 1) hx hb dX6_findNews_54 rfl ?_
  refine lv_isub hx hb dX6_findNews_55 ?_
  refine gi_i hf (fun hi8 hj9 hf => ?_)
  refine m_ild C hP mA_19 hi8 dX6_findNews_56 ?_
  refine lv_iconst (v := nI 2) hx hb dX6_findNews_57 rfl ?_
  refine lv_iload hx hb dX6_findNews_58 (lv_at hl 0 rfl) ?_
  refine lv_imul hx hb dX6_findNews_60 ?_
  refine lv_isub hx hb dX6_findNews_61 ?_
  refine lv_istore (lv' := [(7, .int ((S.1 19 (x4 - (nI 1)).toNatClampNeg) - ((nI 2) * (((S.1 19 (y1).toNatClampNeg) * x3) / (nI 10))))), (6, .int (((S.1 19 (y1).toNatClampNeg) * x3) / (nI 10))), (0, .ref (Γ.2.2 (0))), (2, .int x2), (3, .int x3), (4, .int x4)]) hx hb dX6_findNews_62 hl (by decide) rfl (fun ls hl => ?_)
  refine lv_aload_n hx hb dX6_findNews_64 rfl (lv_at hl 2 rfl) ?_
  refine m_get C hP 32 (by decide) k4_85 rfl (v := .ref (Γ.2.2 (19))) rfl dX6_findNews_65 ?_
  refine lv_iload hx hb dX6_findNews_68 (lv_at hl 5 rfl) ?_
  refine lv_iload hx hb dX6_findNews_70 (lv_at hl 0 rfl) ?_
  refine lv_sipush (v := nI 9999) hx hb dX6_findNews_72 rfl ?_
  refine lv_icmp_le (tgt := 84) hx hb dX6_findNews_75 (by decide) (fun hc10 => ?_) (fun hc10 => ?_)
  · have hf := if_t hc10 hf
    refine lv_iload hx hb dX6_findNews_84 (lv_at hl 0 rfl) ?_
    refine lv_sipush (v := (-9999)) hx hb dX6_findNews_86 rfl ?_
    refine lv_icmp_ge (tgt := 98) hx hb dX6_findNews_89 (by decide) (fun hc11 => ?_) (fun hc11 => ?_)
    · have hf := if_t hc11 hf
      refine lv_iload hx hb dX6_findNews_98 (lv_at hl 0 rfl) ?_
      exact wX6_findNews_100 C  hK10  S x2 x3 x4 x4 ((S.1 19 (x4 - (nI 1)).toNatClampNeg) - ((nI 2) * (((S.1 19 (y1).toNatClampNeg) * x3) / (nI 10))))  hf _ _ _ hP (lv_sub hl [2, 3, 4, 5] rfl)
    · have hf := if_f hc11 hf
      refine lv_sipush (v := (-9999)) hx hb dX6_findNews_92 rfl ?_
      refine lv_goto (tgt := 100) hx hb dX6_findNews_95 (by decide) ?_
      exact wX6_findNews_100 C  hK10  S x2 x3 x4 x4 (-9999)  hf _ _ _ hP (lv_sub hl [2, 3, 4, 5] rfl)
  · have hf := if_f hc10 hf
    refine lv_sipush (v := nI 9999) hx hb dX6_findNews_78 rfl ?_
    refine lv_goto (tgt := 100) hx hb dX6_findNews_81 (by decide) ?_
    exact wX6_findNews_100 C  hK10  S x2 x3 x4 x4 (nI 9999)  hf _ _ _ hP (lv_sub hl [2, 3, 4, 5] rfl)
def fX6_findNews_10   : Nat → mM → Int32 → Int32 → Int32 → Option mM
  | 0, _, _, _, _ => none
  | n + 1, S, x2, x3, x4 =>
    if (nI 60) < x4 then some S else if (0 : Int32) ≤ ((x4 - (nI 1)) - x2) then fX6_findNews_40  (fX6_findNews_10   n)  S x2 x3 x4 ((x4 - (nI 1)) - x2) else fX6_findNews_40  (fX6_findNews_10   n)  S x2 x3 x4 (nI 0)
set_option maxHeartbeats 4000000 in
set_option maxRecDepth 100000 in
theorem wX6_findNews_10 {p : Program} {l : Launch} {e : Env} {s : State} {m : MethodId} {args : Array Value} {below : List Frame} {meth : Method} {c : Code} {Γ : gG} {Sz : mM} (C : Cx Γ 28 p s m args meth c RX6 cX6_findNews 8 none)   : ∀ n : Nat, ∀ (S : mM) (x2 : Int32) (x3 : Int32) (x4 : Int32) , fX6_findNews_10   n S x2 x3 x4 = some Sz → ∀ (H : Heap) (locs : List Loc) (ls : Array Slot), St Γ 28 (mE Γ S) s.heap H locs → lv_has ls 8 [(0, .ref (Γ.2.2 (0))), (2, .int x2), (3, .int x3), (4, .int x4)] → W p l e { frames := 0, cells := 0, slots := 0, locals := 0 } s m args below meth c H locs 0 0 (MQ below (gQv Γ 28 (mE Γ Sz)) args s 0 0 (wA Γ 28)) (F0 m 10 ls []) := by
  obtain ⟨hx, hb, -, -, hown, hts, -, hwx, -⟩ := id C
  intro n
  induction n with
  | zero =>
    intro S x2 x3 x4 hf
    unfold fX6_findNews_10 at hf
    cases hf
  | succ n ih =>
    intro S x2 x3 x4 hf H locs ls hP hl
    unfold fX6_findNews_10 at hf
    refine lv_iload hx hb dX6_findNews_10 (lv_at hl 3 rfl) ?_
    refine lv_bipush (v := nI 60) hx hb dX6_findNews_12 rfl ?_
    refine lv_icmp_gt (tgt := 107) hx hb dX6_findNews_14 (by decide) (fun hc4 => ?_) (fun hc4 => ?_)
    · have hf := if_t hc4 hf
      exact r_vret (X := mE Γ) C hP hf dX6_findNews_107
    · have hf := if_f hc4 hf
      refine lv_iload hx hb dX6_findNews_17 (lv_at hl 3 rfl) ?_
      refine lv_iconst (v := nI 1) hx hb dX6_findNews_19 rfl ?_
      refine lv_isub hx hb dX6_findNews_20 ?_
      refine lv_iload_n hx hb dX6_findNews_21 rfl (lv_at hl 1 rfl) ?_
      refine lv_isub hx hb dX6_findNews_22 ?_
      refine lv_istore (lv' := [(5, .int ((x4 - (nI 1)) - x2)), (0, .ref (Γ.2.2 (0))), (2, .int x2), (3, .int x3), (4, .int x4)]) hx hb dX6_findNews_23 hl (by decide) rfl (fun ls hl => ?_)
      refine lv_aload_n hx hb dX6_findNews_25 rfl (lv_at hl 1 rfl) ?_
      refine m_get C hP 32 (by decide) k4_85 rfl (v := .ref (Γ.2.2 (19))) rfl dX6_findNews_26 ?_
      refine lv_iload hx hb dX6_findNews_29 (lv_at hl 0 rfl) ?_
      refine lv_if_ge (tgt := 38) hx hb dX6_findNews_31 (by decide) (fun hc5 => ?_) (fun hc5 => ?_)
      · have hf := if_t hc5 hf
        refine lv_iload hx hb dX6_findNews_38 (lv_at hl 0 rfl) ?_
        exact wX6_findNews_40 C  ih  S x2 x3 x4 ((x4 - (nI 1)) - x2)  hf _ _ _ hP (lv_sub hl [1, 2, 3, 4] rfl)
      · have hf := if_f hc5 hf
        refine lv_iconst (v := nI 0) hx hb dX6_findNews_34 rfl ?_
        refine lv_goto (tgt := 40) hx hb dX6_findNews_35 (by decide) ?_
        exact wX6_findNews_40 C  ih  S x2 x3 x4 (nI 0)  hf _ _ _ hP (lv_sub hl [1, 2, 3, 4] rfl)
def fX6_findNews  (S : mM) (x1 : Int32) (x2 : Int32) (x3 : Int32) : Option mM :=
  gi (nI 0) 61 (sv (mS S 19 ((nI 0).toNatClampNeg) x1) fun S3 => ( fX6_findNews_10   lF S3 x2 x3 (nI 1)))
set_option maxHeartbeats 4000000 in
set_option maxRecDepth 100000 in
theorem mX6_findNews (l : Launch) (Γ : gG)   {S : mM} {x1 : Int32} {x2 : Int32} {x3 : Int32} {Sz : mM} (hf : fX6_findNews S x1 x2 x3 = some Sz) : CtV l Γ 28 yX6_findNews cX6_findNews 8 0 0 [.ref (Γ.2.2 (0)), .int x1, .int x2, .int x3] (mE Γ S) (mE Γ Sz) := by
  refine met_body (Γ := Γ) (lv := [(0, .ref (Γ.2.2 (0))), (1, .int x1), (2, .int x2), (3, .int x3)]) RX6 (by decide) rfl rfl rfl ?_
  intro p e s m below meth c H locs ls C hP hl
  obtain ⟨hx, hb, -, -, hown, hts, -, hwx, -⟩ := id C
  unfold fX6_findNews at hf
  refine lv_aload_n hx hb dX6_findNews_0 rfl (lv_at hl 0 rfl) ?_
  refine m_get C hP 32 (by decide) k4_85 rfl (v := .ref (Γ.2.2 (19))) rfl dX6_findNews_1 ?_
  refine lv_iconst (v := nI 0) hx hb dX6_findNews_4 rfl ?_
  refine lv_iload_n hx hb dX6_findNews_5 rfl (lv_at hl 1 rfl) ?_
  refine gi_i hf (fun hi1 hj2 hf => ?_)
  refine m_ist C hP mA_19 hi1 dX6_findNews_6 (fun H locs hP => ?_)
  refine sv_i hf (fun S3 e3 hf => ?_)
  rw [← e3] at hP
  refine lv_iconst (v := nI 1) hx hb dX6_findNews_7 rfl ?_
  refine lv_istore (lv' := [(4, .int (nI 1)), (0, .ref (Γ.2.2 (0))), (1, .int x1), (2, .int x2), (3, .int x3)]) hx hb dX6_findNews_8 hl (by decide) rfl (fun ls hl => ?_)
  exact wX6_findNews_10 C   lF S3 x2 x3 (nI 1)  hf _ _ _ hP (lv_sub hl [1, 3, 4, 0] rfl)
-- X6_isNews
theorem qX6_isNews : Cond.static yX6_isNews ∈ Ub ∧ Cond.initialized RX6 ∈ Ub ∧ Cond.code yX6_isNews cX6_isNews 3 (some FieldType.boolean) ∈ Ub ∧ (yX6_isNews.cls = RX6 ∧ yX6_isNews.cls ≠ "java/lang/invoke/MethodHandle" ∧ yX6_isNews.cls ≠ "java/lang/invoke/VarHandle" ∧ (parseMethodDescriptor yX6_isNews.desc).map (fun d => d.parameters.length) = some 3) := ⟨k5_230, k1_5, k5_231, by decide +kernel⟩
def fX6_isNews  (S : mM) (x0 : Int32) (x1 : Int32) (x2 : Int32) : Option (Int32 × mM) :=
  bd (fX6_in S x0.toInt64 (-99) 99) fun v1 S1 => ( if v1 = 0 then some (nI 0, S1) else bd (fX6_in S1 x1.toInt64 0 5) fun v3 S3 => ( if v3 = 0 then some (nI 0, S3) else bd (fX6_in S3 x2.toInt64 0 20) fun v5 S5 => ( if v5 = 0 then some (nI 0, S5) else some (nI 1, S5))))
set_option maxHeartbeats 4000000 in
set_option maxRecDepth 100000 in
theorem mX6_isNews (l : Launch) (Γ : gG)   {S : mM} {x0 : Int32} {x1 : Int32} {x2 : Int32} {rz : Int32} {Sz : mM} (hf : fX6_isNews S x0 x1 x2 = some (rz, Sz)) : CtI l Γ 28 yX6_isNews cX6_isNews 3 .boolean 1 25 [.int x0, .int x1, .int x2] (mE Γ S) rz (mE Γ Sz) := by
  refine met_body (Γ := Γ) (lv := [(0, .int x0), (1, .int x1), (2, .int x2)]) RX6 (by decide) rfl rfl rfl ?_
  intro p e s m below meth c H locs ls C hP hl
  obtain ⟨hx, hb, -, -, hown, hts, -, hwx, -⟩ := id C
  unfold fX6_isNews at hf
  refine lv_iload_n hx hb dX6_isNews_0 rfl (lv_at hl 0 rfl) ?_
  refine lv_i2l (v := x0.toInt64) hx hb dX6_isNews_1 rfl ?_
  refine lv_ldc2 (v := -99) hx hb hown (hts _ k5_232) dX6_isNews_2 ?_
  refine lv_ldc2 (v := 99) hx hb hown (hts _ k5_161) dX6_isNews_5 ?_
  refine bd_i hf (fun v1 S1 hq1 hf => ?_)
  refine goI (runS (rest := []) (mX6_in l Γ  hq1) C hP hl.1 k4_215 qX6_in.1 qX6_in.2.1 qX6_in.2.2.1 rfl qX6_in.2.2.2 ⟨Nat.le_of_ble_eq_true rfl, Nat.le_of_ble_eq_true rfl⟩ ⟨Nat.le_refl 0, Nat.le_refl 0⟩ (Nat.le_of_ble_eq_true rfl) dX6_isNews_8) hP (fun H locs hP => ?_)
  refine lv_if_eq (tgt := 42) hx hb dX6_isNews_11 (by decide) (fun hc2 => ?_) (fun hc2 => ?_)
  · have hf := if_t hc2 hf
    refine lv_iconst (v := nI 0) hx hb dX6_isNews_42 rfl ?_
    exact r_zret (X := mE Γ) C hP (Or.inl rfl) hf dX6_isNews_43
  · have hf := if_f hc2 hf
    refine lv_iload_n hx hb dX6_isNews_14 rfl (lv_at hl 1 rfl) ?_
    refine lv_i2l (v := x1.toInt64) hx hb dX6_isNews_15 rfl ?_
    refine lv_lconst (v := 0) hx hb dX6_isNews_16 (by decide) ?_
    refine lv_ldc2 (v := 5) hx hb hown (hts _ k5_233) dX6_isNews_17 ?_
    refine bd_i hf (fun v3 S3 hq3 hf => ?_)
    refine goI (runS (rest := []) (mX6_in l Γ  hq3) C hP hl.1 k4_215 qX6_in.1 qX6_in.2.1 qX6_in.2.2.1 rfl qX6_in.2.2.2 ⟨Nat.le_of_ble_eq_true rfl, Nat.le_of_ble_eq_true rfl⟩ ⟨Nat.le_refl 0, Nat.le_refl 0⟩ (Nat.le_of_ble_eq_true rfl) dX6_isNews_20) hP (fun H locs hP => ?_)
    refine lv_if_eq (tgt := 42) hx hb dX6_isNews_23 (by decide) (fun hc4 => ?_) (fun hc4 => ?_)
    · have hf := if_t hc4 hf
      refine lv_iconst (v := nI 0) hx hb dX6_isNews_42 rfl ?_
      exact r_zret (X := mE Γ) C hP (Or.inl rfl) hf dX6_isNews_43
    · have hf := if_f hc4 hf
      refine lv_iload_n hx hb dX6_isNews_26 rfl (lv_at hl 2 rfl) ?_
      refine lv_i2l (v := x2.toInt64) hx hb dX6_isNews_27 rfl ?_
      refine lv_lconst (v := 0) hx hb dX6_isNews_28 (by decide) ?_
      refine lv_ldc2 (v := 20) hx hb hown (hts _ k5_234) dX6_isNews_29 ?_
      refine bd_i hf (fun v5 S5 hq5 hf => ?_)
      refine goI (runS (rest := []) (mX6_in l Γ  hq5) C hP hl.1 k4_215 qX6_in.1 qX6_in.2.1 qX6_in.2.2.1 rfl qX6_in.2.2.2 ⟨Nat.le_of_ble_eq_true rfl, Nat.le_of_ble_eq_true rfl⟩ ⟨Nat.le_refl 0, Nat.le_refl 0⟩ (Nat.le_of_ble_eq_true rfl) dX6_isNews_32) hP (fun H locs hP => ?_)
      refine lv_if_eq (tgt := 42) hx hb dX6_isNews_35 (by decide) (fun hc6 => ?_) (fun hc6 => ?_)
      · have hf := if_t hc6 hf
        refine lv_iconst (v := nI 0) hx hb dX6_isNews_42 rfl ?_
        exact r_zret (X := mE Γ) C hP (Or.inl rfl) hf dX6_isNews_43
      · have hf := if_f hc6 hf
        refine lv_iconst (v := nI 1) hx hb dX6_isNews_38 rfl ?_
        refine lv_goto (tgt := 43) hx hb dX6_isNews_39 (by decide) ?_
        exact r_zret (X := mE Γ) C hP (Or.inr rfl) hf dX6_isNews_43
-- X6_news
theorem qX6_news : Cond.instanceMethod yX6_news ∈ Ub ∧ Cond.selects RX6 yX6_news yX6_news ∈ Ub ∧ Cond.initialized RX6 ∈ Ub ∧ Cond.code yX6_news cX6_news 5 (some FieldType.int) ∈ Ub ∧ (yX6_news.cls = RX6 ∧ yX6_news.cls ≠ "java/lang/invoke/MethodHandle" ∧ yX6_news.cls ≠ "java/lang/invoke/VarHandle" ∧ (parseMethodDescriptor yX6_news.desc).map (fun d => d.parameters.length) = some 4) := ⟨k5_226, k5_227, k1_5, k5_228, by decide +kernel⟩
def fX6_news_27   (S : mM)  : Option (Int32 × mM) :=
  some ((-1000000001), S)
set_option maxHeartbeats 4000000 in
set_option maxRecDepth 100000 in
theorem wX6_news_27 {p : Program} {l : Launch} {e : Env} {s : State} {m : MethodId} {args : Array Value} {below : List Frame} {meth : Method} {c : Code} {Γ : gG} {rz : Int32} {Sz : mM} (C : Cx Γ 28 p s m args meth c RX6 cX6_news 5 (some .int))   : ∀ (S : mM)  , fX6_news_27   S  = some (rz, Sz) → ∀ (H : Heap) (locs : List Loc) (ls : Array Slot), St Γ 28 (mE Γ S) s.heap H locs → lv_has ls 5 [] → W p l e { frames := 2, cells := 0, slots := 0, locals := 47 } s m args below meth c H locs 0 0 (MQ below (gQi Γ 28 rz (mE Γ Sz)) args s 0 0 (wA Γ 28)) (F0 m 27 ls []) := by
  obtain ⟨hx, hb, -, -, hown, hts, -, hwx, -⟩ := id C
  intro S  hf H locs ls hP hl
  unfold fX6_news_27 at hf
  refine lv_ldcw (v := -1000000001) hx hb hown (hts _ k5_198) dX6_news_27 ?_
  exact r_iret (X := mE Γ) C hP hf dX6_news_30
def fX6_news  (S : mM) (x1 : Int32) (x2 : Int32) (x3 : Int32) (x4 : Int32) : Option (Int32 × mM) :=
  sv (mS S 0 9 (nI 0)) fun S1 => ( bd (fX6_isNews S1 x1 x2 x3) fun v2 S2 => ( if v2 = 0 then fX6_news_27    S2  else bd (fX6_in S2 x4.toInt64 0 60) fun v4 S4 => ( if v4 = 0 then fX6_news_27    S4  else bv (fX6_findNews S4 x1 x2 x3) fun S6 => ( gi x4 61 (some (S6.1 19 (x4).toNatClampNeg, S6))))))
set_option maxHeartbeats 4000000 in
set_option maxRecDepth 100000 in
theorem mX6_news (l : Launch) (Γ : gG)   {S : mM} {x1 : Int32} {x2 : Int32} {x3 : Int32} {x4 : Int32} {rz : Int32} {Sz : mM} (hf : fX6_news S x1 x2 x3 x4 = some (rz, Sz)) : CtI l Γ 28 yX6_news cX6_news 5 .int 2 47 [.ref (Γ.2.2 (0)), .int x1, .int x2, .int x3, .int x4] (mE Γ S) rz (mE Γ Sz) := by
  refine met_body (Γ := Γ) (lv := [(0, .ref (Γ.2.2 (0))), (1, .int x1), (2, .int x2), (3, .int x3), (4, .int x4)]) RX6 (by decide) rfl rfl rfl ?_
  intro p e s m below meth c H locs ls C hP hl
  obtain ⟨hx, hb, -, -, hown, hts, -, hwx, -⟩ := id C
  unfold fX6_news at hf
  refine lv_aload_n hx hb dX6_news_0 rfl (lv_at hl 0 rfl) ?_
  refine lv_iconst (v := nI 0) hx hb dX6_news_1 rfl ?_
  refine m_put C hP 9 (by decide) k4_62 dX6_news_2 (fun H locs hP => ?_)
  refine sv_i hf (fun S1 e1 hf => ?_)
  rw [← e1] at hP
  refine lv_iload_n hx hb dX6_news_5 rfl (lv_at hl 1 rfl) ?_
  refine lv_iload_n hx hb dX6_news_6 rfl (lv_at hl 2 rfl) ?_
  refine lv_iload_n hx hb dX6_news_7 rfl (lv_at hl 3 rfl) ?_
  refine bd_i hf (fun v2 S2 hq2 hf => ?_)
  refine goI (runS (rest := []) (mX6_isNews l Γ  hq2) C hP hl.1 k5_229 qX6_isNews.1 qX6_isNews.2.1 qX6_isNews.2.2.1 rfl qX6_isNews.2.2.2 ⟨Nat.le_of_ble_eq_true rfl, Nat.le_of_ble_eq_true rfl⟩ ⟨Nat.le_refl 0, Nat.le_refl 0⟩ (Nat.le_of_ble_eq_true rfl) dX6_news_8) hP (fun H locs hP => ?_)
  refine lv_if_eq (tgt := 27) hx hb dX6_news_11 (by decide) (fun hc3 => ?_) (fun hc3 => ?_)
  · have hf := if_t hc3 hf
    exact wX6_news_27 C    S2   hf _ _ _ hP (lv_sub hl [] rfl)
  · have hf := if_f hc3 hf
    refine lv_iload hx hb dX6_news_14 (lv_at hl 4 rfl) ?_
    refine lv_i2l (v := x4.toInt64) hx hb dX6_news_16 rfl ?_
    refine lv_lconst (v := 0) hx hb dX6_news_17 (by decide) ?_
    refine lv_ldc2 (v := 60) hx hb hown (hts _ k5_87) dX6_news_18 ?_
    refine bd_i hf (fun v4 S4 hq4 hf => ?_)
    refine goI (runS (rest := []) (mX6_in l Γ  hq4) C hP hl.1 k4_215 qX6_in.1 qX6_in.2.1 qX6_in.2.2.1 rfl qX6_in.2.2.2 ⟨Nat.le_of_ble_eq_true rfl, Nat.le_of_ble_eq_true rfl⟩ ⟨Nat.le_refl 0, Nat.le_refl 0⟩ (Nat.le_of_ble_eq_true rfl) dX6_news_21) hP (fun H locs hP => ?_)
    refine lv_if_ne (tgt := 31) hx hb dX6_news_24 (by decide) (fun hc5 => ?_) (fun hc5 => ?_)
    · have hf := if_f hc5 hf
      refine lv_aload_n hx hb dX6_news_31 rfl (lv_at hl 0 rfl) ?_
      refine lv_iload_n hx hb dX6_news_32 rfl (lv_at hl 1 rfl) ?_
      refine lv_iload_n hx hb dX6_news_33 rfl (lv_at hl 2 rfl) ?_
      refine lv_iload_n hx hb dX6_news_34 rfl (lv_at hl 3 rfl) ?_
      refine bv_i hf (fun S6 hq6 hf => ?_)
      refine goV (runV (rest := []) (b := 0) (mX6_findNews l Γ  hq6) C hP hl.1 (by decide) mE0 rfl k5_235 qX6_findNews.1 qX6_findNews.2.1 qX6_findNews.2.2.1 qX6_findNews.2.2.2.1 rfl qX6_findNews.2.2.2.2 ⟨Nat.le_of_ble_eq_true rfl, Nat.le_of_ble_eq_true rfl⟩ ⟨Nat.le_refl 0, Nat.le_refl 0⟩ (Nat.le_of_ble_eq_true rfl) dX6_news_35) hP (fun H locs hP => ?_)
      refine lv_aload_n hx hb dX6_news_38 rfl (lv_at hl 0 rfl) ?_
      refine m_get C hP 32 (by decide) k4_85 rfl (v := .ref (Γ.2.2 (19))) rfl dX6_news_39 ?_
      refine lv_iload hx hb dX6_news_42 (lv_at hl 4 rfl) ?_
      refine gi_i hf (fun hi7 hj8 hf => ?_)
      refine m_ild C hP mA_19 hi7 dX6_news_44 ?_
      exact r_iret (X := mE Γ) C hP hf dX6_news_45
    · have hf := if_t hc5 hf
      exact wX6_news_27 C    S4   hf _ _ _ hP (lv_sub hl [] rfl)
-- X6_greatest
theorem qX6_greatest : Cond.instanceMethod yX6_greatest ∈ Ub ∧ Cond.selects RX6 yX6_greatest yX6_greatest ∈ Ub ∧ Cond.initialized RX6 ∈ Ub ∧ Cond.code yX6_greatest cX6_greatest 6 (some FieldType.int) ∈ Ub ∧ (yX6_greatest.cls = RX6 ∧ yX6_greatest.cls ≠ "java/lang/invoke/MethodHandle" ∧ yX6_greatest.cls ≠ "java/lang/invoke/VarHandle" ∧ (parseMethodDescriptor yX6_greatest.desc).map (fun d => d.parameters.length) = some 2) := ⟨k6_5, ks_64, k1_5, k6_6, by decide +kernel⟩
def fX6_greatest_53  (K5 : mM → Int32 → Int32 → Int32 → Option (Int32 × mM)) (S : mM) (x2 : Int32) (x4 : Int32) (y0 : Int32) : Option (Int32 × mM) :=
  K5 S x2 y0 (x4 + (nI 1))
set_option maxHeartbeats 4000000 in
set_option maxRecDepth 100000 in
theorem wX6_greatest_53 {p : Program} {l : Launch} {e : Env} {s : State} {m : MethodId} {args : Array Value} {below : List Frame} {meth : Method} {c : Code} {Γ : gG} {rz : Int32} {Sz : mM} (C : Cx Γ 28 p s m args meth c RX6 cX6_greatest 6 (some .int))  {K5 : mM → Int32 → Int32 → Int32 → Option (Int32 × mM)} (hK5 : ∀ (S : mM) (x2 : Int32) (x3 : Int32) (x4 : Int32) , K5 S x2 x3 x4 = some (rz, Sz) → ∀ (H : Heap) (locs : List Loc) (ls : Array Slot), St Γ 28 (mE Γ S) s.heap H locs → lv_has ls 6 [(0, .ref (Γ.2.2 (0))), (2, .int x2), (3, .int x3), (4, .int x4)] → W p l e { frames := 0, cells := 0, slots := 0, locals := 0 } s m args below meth c H locs 0 0 (MQ below (gQi Γ 28 rz (mE Γ Sz)) args s 0 0 (wA Γ 28)) (F0 m 5 ls [])) : ∀ (S : mM) (x2 : Int32) (x4 : Int32) (y0 : Int32) , fX6_greatest_53  K5 S x2 x4 y0 = some (rz, Sz) → ∀ (H : Heap) (locs : List Loc) (ls : Array Slot), St Γ 28 (mE Γ S) s.heap H locs → lv_has ls 6 [(0, .ref (Γ.2.2 (0))), (2, .int x2), (4, .int x4)] → W p l e { frames := 0, cells := 0, slots := 0, locals := 0 } s m args below meth c H locs 0 0 (MQ below (gQi Γ 28 rz (mE Γ Sz)) args s 0 0 (wA Γ 28)) (F0 m 53 ls [.int y0]) := by
  obtain ⟨hx, hb, -, -, hown, hts, -, hwx, -⟩ := id C
  intro S x2 x4 y0 hf H locs ls hP hl
  unfold fX6_greatest_53 at hf
  refine lv_istore_n (lv' := [(3, .int y0), (0, .ref (Γ.2.2 (0))), (2, .int x2), (4, .int x4)]) hx hb dX6_greatest_53 rfl hl (by decide) rfl (fun ls hl => ?_)
  refine lv_iinc (v := x4 + (nI 1)) (lv' := [(4, .int (x4 + (nI 1))), (3, .int y0), (0, .ref (Γ.2.2 (0))), (2, .int x2)]) hx hb dX6_greatest_54 hl (k := 3) rfl rfl (by decide) rfl (fun ls hl => ?_)
  refine lv_goto (tgt := 5) hx hb dX6_greatest_57 (by decide) ?_
  exact hK5 S x2 y0 (x4 + (nI 1))  hf _ _ _ hP (lv_sub hl [2, 3, 1, 0] rfl)
def fX6_greatest_39  (K5 : mM → Int32 → Int32 → Int32 → Option (Int32 × mM)) (S : mM) (x2 : Int32) (x3 : Int32) (x4 : Int32) (y0 : Int32) : Option (Int32 × mM) :=
  if y0 ≤ x3 then fX6_greatest_53  K5  S x2 x4 x3 else fX6_greatest_53  K5  S x2 x4 y0
set_option maxHeartbeats 4000000 in
set_option maxRecDepth 100000 in
theorem wX6_greatest_39 {p : Program} {l : Launch} {e : Env} {s : State} {m : MethodId} {args : Array Value} {below : List Frame} {meth : Method} {c : Code} {Γ : gG} {rz : Int32} {Sz : mM} (C : Cx Γ 28 p s m args meth c RX6 cX6_greatest 6 (some .int))  {K5 : mM → Int32 → Int32 → Int32 → Option (Int32 × mM)} (hK5 : ∀ (S : mM) (x2 : Int32) (x3 : Int32) (x4 : Int32) , K5 S x2 x3 x4 = some (rz, Sz) → ∀ (H : Heap) (locs : List Loc) (ls : Array Slot), St Γ 28 (mE Γ S) s.heap H locs → lv_has ls 6 [(0, .ref (Γ.2.2 (0))), (2, .int x2), (3, .int x3), (4, .int x4)] → W p l e { frames := 0, cells := 0, slots := 0, locals := 0 } s m args below meth c H locs 0 0 (MQ below (gQi Γ 28 rz (mE Γ Sz)) args s 0 0 (wA Γ 28)) (F0 m 5 ls [])) : ∀ (S : mM) (x2 : Int32) (x3 : Int32) (x4 : Int32) (y0 : Int32) , fX6_greatest_39  K5 S x2 x3 x4 y0 = some (rz, Sz) → ∀ (H : Heap) (locs : List Loc) (ls : Array Slot), St Γ 28 (mE Γ S) s.heap H locs → lv_has ls 6 [(0, .ref (Γ.2.2 (0))), (2, .int x2), (3, .int x3), (4, .int x4)] → W p l e { frames := 0, cells := 0, slots := 0, locals := 0 } s m args below meth c H locs 0 0 (MQ below (gQi Γ 28 rz (mE Γ Sz)) args s 0 0 (wA Γ 28)) (F0 m 39 ls [.int y0]) := by
  obtain ⟨hx, hb, -, -, hown, hts, -, hwx, -⟩ := id C
  intro S x2 x3 x4 y0 hf H locs ls hP hl
  unfold fX6_greatest_39 at hf
  refine lv_istore (lv' := [(5, .int y0), (0, .ref (Γ.2.2 (0))), (2, .int x2), (3, .int x3), (4, .int x4)]) hx hb dX6_greatest_39 hl (by decide) rfl (fun ls hl => ?_)
  refine lv_iload hx hb dX6_greatest_41 (lv_at hl 0 rfl) ?_
  refine lv_iload_n hx hb dX6_greatest_43 rfl (lv_at hl 3 rfl) ?_
  refine lv_icmp_le (tgt := 52) hx hb dX6_greatest_44 (by decide) (fun hc7 => ?_) (fun hc7 => ?_)
  · have hf := if_t hc7 hf
    refine lv_iload_n hx hb dX6_greatest_52 rfl (lv_at hl 3 rfl) ?_
    exact wX6_greatest_53 C  hK5  S x2 x4 x3  hf _ _ _ hP (lv_sub hl [1, 2, 4] rfl)
  · have hf := if_f hc7 hf
    refine lv_iload hx hb dX6_greatest_47 (lv_at hl 0 rfl) ?_
    refine lv_goto (tgt := 53) hx hb dX6_greatest_49 (by decide) ?_
    exact wX6_greatest_53 C  hK5  S x2 x4 y0  hf _ _ _ hP (lv_sub hl [1, 2, 4] rfl)
def fX6_greatest_5   : Nat → mM → Int32 → Int32 → Int32 → Option (Int32 × mM)
  | 0, _, _, _, _ => none
  | n + 1, S, x2, x3, x4 =>
    if x2 < x4 then some (x3, S) else gi x4 61 (if (0 : Int32) ≤ (S.1 19 (x4).toNatClampNeg) then gi x4 61 (fX6_greatest_39  (fX6_greatest_5   n)  S x2 x3 x4 (S.1 19 (x4).toNatClampNeg)) else gi x4 61 (fX6_greatest_39  (fX6_greatest_5   n)  S x2 x3 x4 (-(S.1 19 (x4).toNatClampNeg))))
set_option maxHeartbeats 4000000 in
set_option maxRecDepth 100000 in
theorem wX6_greatest_5 {p : Program} {l : Launch} {e : Env} {s : State} {m : MethodId} {args : Array Value} {below : List Frame} {meth : Method} {c : Code} {Γ : gG} {rz : Int32} {Sz : mM} (C : Cx Γ 28 p s m args meth c RX6 cX6_greatest 6 (some .int))   : ∀ n : Nat, ∀ (S : mM) (x2 : Int32) (x3 : Int32) (x4 : Int32) , fX6_greatest_5   n S x2 x3 x4 = some (rz, Sz) → ∀ (H : Heap) (locs : List Loc) (ls : Array Slot), St Γ 28 (mE Γ S) s.heap H locs → lv_has ls 6 [(0, .ref (Γ.2.2 (0))), (2, .int x2), (3, .int x3), (4, .int x4)] → W p l e { frames := 0, cells := 0, slots := 0, locals := 0 } s m args below meth c H locs 0 0 (MQ below (gQi Γ 28 rz (mE Γ Sz)) args s 0 0 (wA Γ 28)) (F0 m 5 ls []) := by
  obtain ⟨hx, hb, -, -, hown, hts, -, hwx, -⟩ := id C
  intro n
  induction n with
  | zero =>
    intro S x2 x3 x4 hf
    unfold fX6_greatest_5 at hf
    cases hf
  | succ n ih =>
    intro S x2 x3 x4 hf H locs ls hP hl
    unfold fX6_greatest_5 at hf
    refine lv_iload hx hb dX6_greatest_5 (lv_at hl 3 rfl) ?_
    refine lv_iload_n hx hb dX6_greatest_7 rfl (lv_at hl 1 rfl) ?_
    refine lv_icmp_gt (tgt := 60) hx hb dX6_greatest_8 (by decide) (fun hc1 => ?_) (fun hc1 => ?_)
    · have hf := if_t hc1 hf
      refine lv_iload_n hx hb dX6_greatest_60 rfl (lv_at hl 2 rfl) ?_
      exact r_iret (X := mE Γ) C hP hf dX6_greatest_61
    · have hf := if_f hc1 hf
      refine lv_aload_n hx hb dX6_greatest_11 rfl (lv_at hl 0 rfl) ?_
      refine m_get C hP 32 (by decide) k4_85 rfl (v := .ref (Γ.2.2 (19))) rfl dX6_greatest_12 ?_
      refine lv_iload hx hb dX6_greatest_15 (lv_at hl 3 rfl) ?_
      refine gi_i hf (fun hi2 hj3 hf => ?_)
      refine m_ild C hP mA_19 hi2 dX6_greatest_17 ?_
      refine lv_if_ge (tgt := 32) hx hb dX6_greatest_18 (by decide) (fun hc4 => ?_) (fun hc4 => ?_)
      · have hf := if_t hc4 hf
        refine lv_aload_n hx hb dX6_greatest_32 rfl (lv_at hl 0 rfl) ?_
        refine m_get C hP 32 (by decide) k4_85 rfl (v := .ref (Γ.2.2 (19))) rfl dX6_greatest_33 ?_
        refine lv_iload hx hb dX6_greatest_36 (lv_at hl 3 rfl) ?_
        refine gi_i hf (fun hi5 hj6 hf => ?_)
        refine m_ild C hP mA_19 hi5 dX6_greatest_38 ?_
        exact wX6_greatest_39 C  ih  S x2 x3 x4 (S.1 19 (x4).toNatClampNeg)  hf _ _ _ hP (lv_sub hl [0, 1, 2, 3] rfl)
      · have hf := if_f hc4 hf
        refine lv_aload_n hx hb dX6_greatest_21 rfl (lv_at hl 0 rfl) ?_
        refine m_get C hP 32 (by decide) k4_85 rfl (v := .ref (Γ.2.2 (19))) rfl dX6_greatest_22 ?_
        refine lv_iload hx hb dX6_greatest_25 (lv_at hl 3 rfl) ?_
        refine gi_i hf (fun hi8 hj9 hf => ?_)
        refine m_ild C hP mA_19 hi8 dX6_greatest_27 ?_
        refine lv_ineg hx hb dX6_greatest_28 ?_
        refine lv_goto (tgt := 39) hx hb dX6_greatest_29 (by decide) ?_
        exact wX6_greatest_39 C  ih  S x2 x3 x4 (-(S.1 19 (x4).toNatClampNeg))  hf _ _ _ hP (lv_sub hl [0, 1, 2, 3] rfl)
def fX6_greatest  (S : mM) (x1 : Int32) (x2 : Int32) : Option (Int32 × mM) :=
  fX6_greatest_5   lF S x2 (nI 0) x1
set_option maxHeartbeats 4000000 in
set_option maxRecDepth 100000 in
theorem mX6_greatest (l : Launch) (Γ : gG)   {S : mM} {x1 : Int32} {x2 : Int32} {rz : Int32} {Sz : mM} (hf : fX6_greatest S x1 x2 = some (rz, Sz)) : CtI l Γ 28 yX6_greatest cX6_greatest 6 .int 0 0 [.ref (Γ.2.2 (0)), .int x1, .int x2] (mE Γ S) rz (mE Γ Sz) := by
  refine met_body (Γ := Γ) (lv := [(0, .ref (Γ.2.2 (0))), (1, .int x1), (2, .int x2)]) RX6 (by decide) rfl rfl rfl ?_
  intro p e s m below meth c H locs ls C hP hl
  obtain ⟨hx, hb, -, -, hown, hts, -, hwx, -⟩ := id C
  unfold fX6_greatest at hf
  refine lv_iconst (v := nI 0) hx hb dX6_greatest_0 rfl ?_
  refine lv_istore_n (lv' := [(3, .int (nI 0)), (0, .ref (Γ.2.2 (0))), (1, .int x1), (2, .int x2)]) hx hb dX6_greatest_1 rfl hl (by decide) rfl (fun ls hl => ?_)
  refine lv_iload_n hx hb dX6_greatest_2 rfl (lv_at hl 2 rfl) ?_
  refine lv_istore (lv' := [(4, .int x1), (3, .int (nI 0)), (0, .ref (Γ.2.2 (0))), (1, .int x1), (2, .int x2)]) hx hb dX6_greatest_3 hl (by decide) rfl (fun ls hl => ?_)
  exact wX6_greatest_5 C   lF S x2 (nI 0) x1  hf _ _ _ hP (lv_sub hl [2, 4, 1, 0] rfl)
-- X6_grows
theorem qX6_grows : Cond.instanceMethod yX6_grows ∈ Ub ∧ Cond.selects RX6 yX6_grows yX6_grows ∈ Ub ∧ Cond.initialized RX6 ∈ Ub ∧ Cond.code yX6_grows cX6_grows 4 (some FieldType.int) ∈ Ub ∧ (yX6_grows.cls = RX6 ∧ yX6_grows.cls ≠ "java/lang/invoke/MethodHandle" ∧ yX6_grows.cls ≠ "java/lang/invoke/VarHandle" ∧ (parseMethodDescriptor yX6_grows.desc).map (fun d => d.parameters.length) = some 3) := ⟨k6_0, k6_1, k1_5, k6_2, by decide +kernel⟩
def fX6_grows  (S : mM) (x1 : Int32) (x2 : Int32) (x3 : Int32) : Option (Int32 × mM) :=
  sv (mS S 0 9 (nI 0)) fun S1 => ( bd (fX6_isNews S1 x1 x2 x3) fun v2 S2 => ( if v2 = 0 then some ((-1), S2) else bv (fX6_findNews S2 x1 x2 x3) fun S4 => ( bd (fX6_greatest S4 (nI 31) (nI 60)) fun v5 S5 => ( bd (fX6_greatest S5 (nI 1) (nI 30)) fun v6 S6 => ( if v5 ≤ v6 then some (nI 0, S6) else some (nI 1, S6))))))
set_option maxHeartbeats 4000000 in
set_option maxRecDepth 100000 in
theorem mX6_grows (l : Launch) (Γ : gG)   {S : mM} {x1 : Int32} {x2 : Int32} {x3 : Int32} {rz : Int32} {Sz : mM} (hf : fX6_grows S x1 x2 x3 = some (rz, Sz)) : CtI l Γ 28 yX6_grows cX6_grows 4 .int 2 47 [.ref (Γ.2.2 (0)), .int x1, .int x2, .int x3] (mE Γ S) rz (mE Γ Sz) := by
  refine met_body (Γ := Γ) (lv := [(0, .ref (Γ.2.2 (0))), (1, .int x1), (2, .int x2), (3, .int x3)]) RX6 (by decide) rfl rfl rfl ?_
  intro p e s m below meth c H locs ls C hP hl
  obtain ⟨hx, hb, -, -, hown, hts, -, hwx, -⟩ := id C
  unfold fX6_grows at hf
  refine lv_aload_n hx hb dX6_grows_0 rfl (lv_at hl 0 rfl) ?_
  refine lv_iconst (v := nI 0) hx hb dX6_grows_1 rfl ?_
  refine m_put C hP 9 (by decide) k4_62 dX6_grows_2 (fun H locs hP => ?_)
  refine sv_i hf (fun S1 e1 hf => ?_)
  rw [← e1] at hP
  refine lv_iload_n hx hb dX6_grows_5 rfl (lv_at hl 1 rfl) ?_
  refine lv_iload_n hx hb dX6_grows_6 rfl (lv_at hl 2 rfl) ?_
  refine lv_iload_n hx hb dX6_grows_7 rfl (lv_at hl 3 rfl) ?_
  refine bd_i hf (fun v2 S2 hq2 hf => ?_)
  refine goI (runS (rest := []) (mX6_isNews l Γ  hq2) C hP hl.1 k5_229 qX6_isNews.1 qX6_isNews.2.1 qX6_isNews.2.2.1 rfl qX6_isNews.2.2.2 ⟨Nat.le_of_ble_eq_true rfl, Nat.le_of_ble_eq_true rfl⟩ ⟨Nat.le_refl 0, Nat.le_refl 0⟩ (Nat.le_of_ble_eq_true rfl) dX6_grows_8) hP (fun H locs hP => ?_)
  refine lv_if_ne (tgt := 16) hx hb dX6_grows_11 (by decide) (fun hc3 => ?_) (fun hc3 => ?_)
  · have hf := if_f hc3 hf
    refine lv_aload_n hx hb dX6_grows_16 rfl (lv_at hl 0 rfl) ?_
    refine lv_iload_n hx hb dX6_grows_17 rfl (lv_at hl 1 rfl) ?_
    refine lv_iload_n hx hb dX6_grows_18 rfl (lv_at hl 2 rfl) ?_
    refine lv_iload_n hx hb dX6_grows_19 rfl (lv_at hl 3 rfl) ?_
    refine bv_i hf (fun S4 hq4 hf => ?_)
    refine goV (runV (rest := []) (b := 0) (mX6_findNews l Γ  hq4) C hP hl.1 (by decide) mE0 rfl k5_235 qX6_findNews.1 qX6_findNews.2.1 qX6_findNews.2.2.1 qX6_findNews.2.2.2.1 rfl qX6_findNews.2.2.2.2 ⟨Nat.le_of_ble_eq_true rfl, Nat.le_of_ble_eq_true rfl⟩ ⟨Nat.le_refl 0, Nat.le_refl 0⟩ (Nat.le_of_ble_eq_true rfl) dX6_grows_20) hP (fun H locs hP => ?_)
    refine lv_aload_n hx hb dX6_grows_23 rfl (lv_at hl 0 rfl) ?_
    refine lv_bipush (v := nI 31) hx hb dX6_grows_24 rfl ?_
    refine lv_bipush (v := nI 60) hx hb dX6_grows_26 rfl ?_
    refine bd_i hf (fun v5 S5 hq5 hf => ?_)
    refine goI (runV (rest := []) (b := 0) (mX6_greatest l Γ  hq5) C hP hl.1 (by decide) mE0 rfl k6_3 qX6_greatest.1 qX6_greatest.2.1 qX6_greatest.2.2.1 qX6_greatest.2.2.2.1 rfl qX6_greatest.2.2.2.2 ⟨Nat.le_of_ble_eq_true rfl, Nat.le_of_ble_eq_true rfl⟩ ⟨Nat.le_refl 0, Nat.le_refl 0⟩ (Nat.le_of_ble_eq_true rfl) dX6_grows_28) hP (fun H locs hP => ?_)
    refine lv_aload_n hx hb dX6_grows_31 rfl (lv_at hl 0 rfl) ?_
    refine lv_iconst (v := nI 1) hx hb dX6_grows_32 rfl ?_
    refine lv_bipush (v := nI 30) hx hb dX6_grows_33 rfl ?_
    refine bd_i hf (fun v6 S6 hq6 hf => ?_)
    refine goI (runV (rest := [.int v5]) (b := 0) (mX6_greatest l Γ  hq6) C hP hl.1 (by decide) mE0 rfl k6_3 qX6_greatest.1 qX6_greatest.2.1 qX6_greatest.2.2.1 qX6_greatest.2.2.2.1 rfl qX6_greatest.2.2.2.2 ⟨Nat.le_of_ble_eq_true rfl, Nat.le_of_ble_eq_true rfl⟩ ⟨Nat.le_refl 0, Nat.le_refl 0⟩ (Nat.le_of_ble_eq_true rfl) dX6_grows_35) hP (fun H locs hP => ?_)
    refine lv_icmp_le (tgt := 45) hx hb dX6_grows_38 (by decide) (fun hc7 => ?_) (fun hc7 => ?_)
    · have hf := if_t hc7 hf
      refine lv_iconst (v := nI 0) hx hb dX6_grows_45 rfl ?_
      exact r_iret (X := mE Γ) C hP hf dX6_grows_46
    · have hf := if_f hc7 hf
      refine lv_iconst (v := nI 1) hx hb dX6_grows_41 rfl ?_
      refine lv_goto (tgt := 46) hx hb dX6_grows_42 (by decide) ?_
      exact r_iret (X := mE Γ) C hP hf dX6_grows_46
  · have hf := if_t hc3 hf
    refine lv_iconst (v := (-1)) hx hb dX6_grows_14 rfl ?_
    exact r_iret (X := mE Γ) C hP hf dX6_grows_15
-- X6_other
theorem qX6_other : Cond.instanceMethod yX6_other ∈ Ub ∧ Cond.selects RX6 yX6_other yX6_other ∈ Ub ∧ Cond.initialized RX6 ∈ Ub ∧ Cond.code yX6_other cX6_other 5 (some FieldType.int) ∈ Ub ∧ (yX6_other.cls = RX6 ∧ yX6_other.cls ≠ "java/lang/invoke/MethodHandle" ∧ yX6_other.cls ≠ "java/lang/invoke/VarHandle" ∧ (parseMethodDescriptor yX6_other.desc).map (fun d => d.parameters.length) = some 3) := ⟨k6_8, k6_9, k1_5, k6_10, by decide +kernel⟩
def fX6_other_63   (S : mM)  : Option (Int32 × mM) :=
  some (nI 1, S)
set_option maxHeartbeats 4000000 in
set_option maxRecDepth 100000 in
theorem wX6_other_63 {p : Program} {l : Launch} {e : Env} {s : State} {m : MethodId} {args : Array Value} {below : List Frame} {meth : Method} {c : Code} {Γ : gG} {rz : Int32} {Sz : mM} (C : Cx Γ 28 p s m args meth c RX6 cX6_other 5 (some .int))   : ∀ (S : mM)  , fX6_other_63   S  = some (rz, Sz) → ∀ (H : Heap) (locs : List Loc) (ls : Array Slot), St Γ 28 (mE Γ S) s.heap H locs → lv_has ls 5 [] → W p l e { frames := 6, cells := 0, slots := 0, locals := 133 } s m args below meth c H locs 0 0 (MQ below (gQi Γ 28 rz (mE Γ Sz)) args s 0 0 (wA Γ 28)) (F0 m 63 ls []) := by
  obtain ⟨hx, hb, -, -, hown, hts, -, hwx, -⟩ := id C
  intro S  hf H locs ls hP hl
  unfold fX6_other_63 at hf
  refine lv_iconst (v := nI 1) hx hb dX6_other_63 rfl ?_
  refine lv_goto (tgt := 68) hx hb dX6_other_64 (by decide) ?_
  exact r_iret (X := mE Γ) C hP hf dX6_other_68
def fX6_other  (S : mM) (x1 : Int32) (x2 : Int32) (x3 : Int32) : Option (Int32 × mM) :=
  sv (mS S 0 9 (nI 0)) fun S1 => ( bd (fX6_isSort S1 x1) fun v2 S2 => ( if v2 = 0 then some ((-1), S2) else bd (fX6_in S2 x2.toInt64 0 999) fun v4 S4 => ( if v4 = 0 then some ((-1), S4) else bd (fX6_in S4 x3.toInt64 0 999) fun v6 S6 => ( if v6 = 0 then some ((-1), S6) else bd (fX6_bestLane S6 x1) fun v8 S8 => ( if v8 < 0 then fX6_other_63    S8  else bd (fX6_timeIn S8 v8 x1) fun v10 S10 => ( if v10 ≤ (x2 + x3) then some (nI 0, S10) else fX6_other_63    S10 ))))))
set_option maxHeartbeats 4000000 in
set_option maxRecDepth 100000 in
theorem mX6_other (l : Launch) (Γ : gG)   {S : mM} {x1 : Int32} {x2 : Int32} {x3 : Int32} {rz : Int32} {Sz : mM} (hf : fX6_other S x1 x2 x3 = some (rz, Sz)) : CtI l Γ 28 yX6_other cX6_other 5 .int 6 133 [.ref (Γ.2.2 (0)), .int x1, .int x2, .int x3] (mE Γ S) rz (mE Γ Sz) := by
  refine met_body (Γ := Γ) (lv := [(0, .ref (Γ.2.2 (0))), (1, .int x1), (2, .int x2), (3, .int x3)]) RX6 (by decide) rfl rfl rfl ?_
  intro p e s m below meth c H locs ls C hP hl
  obtain ⟨hx, hb, -, -, hown, hts, -, hwx, -⟩ := id C
  unfold fX6_other at hf
  refine lv_aload_n hx hb dX6_other_0 rfl (lv_at hl 0 rfl) ?_
  refine lv_iconst (v := nI 0) hx hb dX6_other_1 rfl ?_
  refine m_put C hP 9 (by decide) k4_62 dX6_other_2 (fun H locs hP => ?_)
  refine sv_i hf (fun S1 e1 hf => ?_)
  rw [← e1] at hP
  refine lv_iload_n hx hb dX6_other_5 rfl (lv_at hl 1 rfl) ?_
  refine bd_i hf (fun v2 S2 hq2 hf => ?_)
  refine goI (runS (rest := []) (mX6_isSort l Γ  hq2) C hP hl.1 k5_71 qX6_isSort.1 qX6_isSort.2.1 qX6_isSort.2.2.1 rfl qX6_isSort.2.2.2 ⟨Nat.le_of_ble_eq_true rfl, Nat.le_of_ble_eq_true rfl⟩ ⟨Nat.le_refl 0, Nat.le_refl 0⟩ (Nat.le_of_ble_eq_true rfl) dX6_other_6) hP (fun H locs hP => ?_)
  refine lv_if_eq (tgt := 36) hx hb dX6_other_9 (by decide) (fun hc3 => ?_) (fun hc3 => ?_)
  · have hf := if_t hc3 hf
    refine lv_iconst (v := (-1)) hx hb dX6_other_36 rfl ?_
    exact r_iret (X := mE Γ) C hP hf dX6_other_37
  · have hf := if_f hc3 hf
    refine lv_iload_n hx hb dX6_other_12 rfl (lv_at hl 2 rfl) ?_
    refine lv_i2l (v := x2.toInt64) hx hb dX6_other_13 rfl ?_
    refine lv_lconst (v := 0) hx hb dX6_other_14 (by decide) ?_
    refine lv_ldc2 (v := 999) hx hb hown (hts _ k6_11) dX6_other_15 ?_
    refine bd_i hf (fun v4 S4 hq4 hf => ?_)
    refine goI (runS (rest := []) (mX6_in l Γ  hq4) C hP hl.1 k4_215 qX6_in.1 qX6_in.2.1 qX6_in.2.2.1 rfl qX6_in.2.2.2 ⟨Nat.le_of_ble_eq_true rfl, Nat.le_of_ble_eq_true rfl⟩ ⟨Nat.le_refl 0, Nat.le_refl 0⟩ (Nat.le_of_ble_eq_true rfl) dX6_other_18) hP (fun H locs hP => ?_)
    refine lv_if_eq (tgt := 36) hx hb dX6_other_21 (by decide) (fun hc5 => ?_) (fun hc5 => ?_)
    · have hf := if_t hc5 hf
      refine lv_iconst (v := (-1)) hx hb dX6_other_36 rfl ?_
      exact r_iret (X := mE Γ) C hP hf dX6_other_37
    · have hf := if_f hc5 hf
      refine lv_iload_n hx hb dX6_other_24 rfl (lv_at hl 3 rfl) ?_
      refine lv_i2l (v := x3.toInt64) hx hb dX6_other_25 rfl ?_
      refine lv_lconst (v := 0) hx hb dX6_other_26 (by decide) ?_
      refine lv_ldc2 (v := 999) hx hb hown (hts _ k6_11) dX6_other_27 ?_
      refine bd_i hf (fun v6 S6 hq6 hf => ?_)
      refine goI (runS (rest := []) (mX6_in l Γ  hq6) C hP hl.1 k4_215 qX6_in.1 qX6_in.2.1 qX6_in.2.2.1 rfl qX6_in.2.2.2 ⟨Nat.le_of_ble_eq_true rfl, Nat.le_of_ble_eq_true rfl⟩ ⟨Nat.le_refl 0, Nat.le_refl 0⟩ (Nat.le_of_ble_eq_true rfl) dX6_other_30) hP (fun H locs hP => ?_)
      refine lv_if_ne (tgt := 38) hx hb dX6_other_33 (by decide) (fun hc7 => ?_) (fun hc7 => ?_)
      · have hf := if_f hc7 hf
        refine lv_aload_n hx hb dX6_other_38 rfl (lv_at hl 0 rfl) ?_
        refine lv_iload_n hx hb dX6_other_39 rfl (lv_at hl 1 rfl) ?_
        refine bd_i hf (fun v8 S8 hq8 hf => ?_)
        refine goI (runV (rest := []) (b := 0) (mX6_bestLane l Γ  hq8) C hP hl.1 (by decide) mE0 rfl k5_104 qX6_bestLane.1 qX6_bestLane.2.1 qX6_bestLane.2.2.1 qX6_bestLane.2.2.2.1 rfl qX6_bestLane.2.2.2.2 ⟨Nat.le_of_ble_eq_true rfl, Nat.le_of_ble_eq_true rfl⟩ ⟨Nat.le_refl 0, Nat.le_refl 0⟩ (Nat.le_of_ble_eq_true rfl) dX6_other_40) hP (fun H locs hP => ?_)
        refine lv_istore (lv' := [(4, .int v8), (0, .ref (Γ.2.2 (0))), (1, .int x1), (2, .int x2), (3, .int x3)]) hx hb dX6_other_43 hl (by decide) rfl (fun ls hl => ?_)
        refine lv_iload hx hb dX6_other_45 (lv_at hl 0 rfl) ?_
        refine lv_if_lt (tgt := 63) hx hb dX6_other_47 (by decide) (fun hc9 => ?_) (fun hc9 => ?_)
        · have hf := if_t hc9 hf
          exact wX6_other_63 C    S8   hf _ _ _ hP (lv_sub hl [] rfl)
        · have hf := if_f hc9 hf
          refine lv_iload_n hx hb dX6_other_50 rfl (lv_at hl 3 rfl) ?_
          refine lv_iload_n hx hb dX6_other_51 rfl (lv_at hl 4 rfl) ?_
          refine lv_iadd hx hb dX6_other_52 ?_
          refine lv_aload_n hx hb dX6_other_53 rfl (lv_at hl 1 rfl) ?_
          refine lv_iload hx hb dX6_other_54 (lv_at hl 0 rfl) ?_
          refine lv_iload_n hx hb dX6_other_56 rfl (lv_at hl 2 rfl) ?_
          refine bd_i hf (fun v10 S10 hq10 hf => ?_)
          refine goI (runV (rest := [.int (x2 + x3)]) (b := 0) (mX6_timeIn l Γ  hq10) C hP hl.1 (by decide) mE0 rfl k5_79 qX6_timeIn.1 qX6_timeIn.2.1 qX6_timeIn.2.2.1 qX6_timeIn.2.2.2.1 rfl qX6_timeIn.2.2.2.2 ⟨Nat.le_of_ble_eq_true rfl, Nat.le_of_ble_eq_true rfl⟩ ⟨Nat.le_refl 0, Nat.le_refl 0⟩ (Nat.le_of_ble_eq_true rfl) dX6_other_57) hP (fun H locs hP => ?_)
          refine lv_icmp_ge (tgt := 67) hx hb dX6_other_60 (by decide) (fun hc11 => ?_) (fun hc11 => ?_)
          · have hf := if_t hc11 hf
            refine lv_iconst (v := nI 0) hx hb dX6_other_67 rfl ?_
            exact r_iret (X := mE Γ) C hP hf dX6_other_68
          · have hf := if_f hc11 hf
            exact wX6_other_63 C    S10   hf _ _ _ hP (lv_sub hl [] rfl)
      · have hf := if_t hc7 hf
        refine lv_iconst (v := (-1)) hx hb dX6_other_36 rfl ?_
        exact r_iret (X := mE Γ) C hP hf dX6_other_37
-- X6_draw
theorem qX6_draw : Cond.instanceMethod yX6_draw ∈ Ub ∧ Cond.selects RX6 yX6_draw yX6_draw ∈ Ub ∧ Cond.initialized RX6 ∈ Ub ∧ Cond.code yX6_draw cX6_draw 2 (some FieldType.int) ∈ Ub ∧ (yX6_draw.cls = RX6 ∧ yX6_draw.cls ≠ "java/lang/invoke/MethodHandle" ∧ yX6_draw.cls ≠ "java/lang/invoke/VarHandle" ∧ (parseMethodDescriptor yX6_draw.desc).map (fun d => d.parameters.length) = some 1) := ⟨k6_19, ks_65, k1_5, k6_20, by decide +kernel⟩
def fX6_draw  (S : mM) (x1 : Int32) : Option (Int32 × mM) :=
  sv (mS S 0 33 (((S.1 0 33) * (nI 1103515245)) + (nI 12345))) fun S1 => ( gz x1 (some ((((S1.1 0 33) &&& (nI 2147483647)) / (nI 65536)) - (((S1.1 0 33) &&& (nI 2147483647)) / (nI 65536)) / x1 * x1, S1)))
set_option maxHeartbeats 4000000 in
set_option maxRecDepth 100000 in
theorem mX6_draw (l : Launch) (Γ : gG)   {S : mM} {x1 : Int32} {rz : Int32} {Sz : mM} (hf : fX6_draw S x1 = some (rz, Sz)) : CtI l Γ 28 yX6_draw cX6_draw 2 .int 0 0 [.ref (Γ.2.2 (0)), .int x1] (mE Γ S) rz (mE Γ Sz) := by
  refine met_body (Γ := Γ) (lv := [(0, .ref (Γ.2.2 (0))), (1, .int x1)]) RX6 (by decide) rfl rfl rfl ?_
  intro p e s m below meth c H locs ls C hP hl
  obtain ⟨hx, hb, -, -, hown, hts, -, hwx, -⟩ := id C
  unfold fX6_draw at hf
  refine lv_aload_n hx hb dX6_draw_0 rfl (lv_at hl 0 rfl) ?_
  refine lv_aload_n hx hb dX6_draw_1 rfl (lv_at hl 0 rfl) ?_
  refine m_get C hP 33 (by decide) k4_86 rfl (v := .int (S.1 0 33)) rfl dX6_draw_2 ?_
  refine lv_ldcw (v := 1103515245) hx hb hown (hts _ k6_21) dX6_draw_5 ?_
  rw [show (1103515245 : Int32) = nI 1103515245 from rfl]
  refine lv_imul hx hb dX6_draw_8 ?_
  refine lv_sipush (v := nI 12345) hx hb dX6_draw_9 rfl ?_
  refine lv_iadd hx hb dX6_draw_12 ?_
  refine m_put C hP 33 (by decide) k4_86 dX6_draw_13 (fun H locs hP => ?_)
  refine sv_i hf (fun S1 e1 hf => ?_)
  rw [← e1] at hP
  refine lv_aload_n hx hb dX6_draw_16 rfl (lv_at hl 0 rfl) ?_
  refine m_get C hP 33 (by decide) k4_86 rfl (v := .int (S1.1 0 33)) rfl dX6_draw_17 ?_
  refine lv_ldcw (v := 2147483647) hx hb hown (hts _ k6_22) dX6_draw_20 ?_
  rw [show (2147483647 : Int32) = nI 2147483647 from rfl]
  refine lv_iand hx hb dX6_draw_23 ?_
  refine lv_ldcw (v := 65536) hx hb hown (hts _ k6_23) dX6_draw_24 ?_
  rw [show (65536 : Int32) = nI 65536 from rfl]
  refine lv_idiv hx hb dX6_draw_27 (by decide) ?_
  refine lv_iload_n hx hb dX6_draw_28 rfl (lv_at hl 1 rfl) ?_
  refine gz_i hf (fun hz2 hf => ?_)
  refine lv_irem hx hb dX6_draw_29 hz2 ?_
  exact r_iret (X := mE Γ) C hP hf dX6_draw_30
-- X6_carsThere
theorem qX6_carsThere : Cond.instanceMethod yX6_carsThere ∈ Ub ∧ Cond.selects RX6 yX6_carsThere yX6_carsThere ∈ Ub ∧ Cond.initialized RX6 ∈ Ub ∧ Cond.code yX6_carsThere cX6_carsThere 3 (some FieldType.int) ∈ Ub ∧ (yX6_carsThere.cls = RX6 ∧ yX6_carsThere.cls ≠ "java/lang/invoke/MethodHandle" ∧ yX6_carsThere.cls ≠ "java/lang/invoke/VarHandle" ∧ (parseMethodDescriptor yX6_carsThere.desc).map (fun d => d.parameters.length) = some 0) := ⟨k6_26, ks_66, k1_5, k6_27, by decide +kernel⟩
def fX6_carsThere_4   : Nat → mM → Int32 → Int32 → Option (Int32 × mM)
  | 0, _, _, _ => none
  | n + 1, S, x1, x2 =>
    if (S.1 0 0) ≤ x2 then some (x1, S) else gi x2 5 ((fX6_carsThere_4   n) S (x1 + (S.1 3 (x2).toNatClampNeg)) (x2 + (nI 1)))
set_option maxHeartbeats 4000000 in
set_option maxRecDepth 100000 in
theorem wX6_carsThere_4 {p : Program} {l : Launch} {e : Env} {s : State} {m : MethodId} {args : Array Value} {below : List Frame} {meth : Method} {c : Code} {Γ : gG} {rz : Int32} {Sz : mM} (C : Cx Γ 28 p s m args meth c RX6 cX6_carsThere 3 (some .int))   : ∀ n : Nat, ∀ (S : mM) (x1 : Int32) (x2 : Int32) , fX6_carsThere_4   n S x1 x2 = some (rz, Sz) → ∀ (H : Heap) (locs : List Loc) (ls : Array Slot), St Γ 28 (mE Γ S) s.heap H locs → lv_has ls 3 [(0, .ref (Γ.2.2 (0))), (1, .int x1), (2, .int x2)] → W p l e { frames := 0, cells := 0, slots := 0, locals := 0 } s m args below meth c H locs 0 0 (MQ below (gQi Γ 28 rz (mE Γ Sz)) args s 0 0 (wA Γ 28)) (F0 m 4 ls []) := by
  obtain ⟨hx, hb, -, -, hown, hts, -, hwx, -⟩ := id C
  intro n
  induction n with
  | zero =>
    intro S x1 x2 hf
    unfold fX6_carsThere_4 at hf
    cases hf
  | succ n ih =>
    intro S x1 x2 hf H locs ls hP hl
    unfold fX6_carsThere_4 at hf
    refine lv_iload_n hx hb dX6_carsThere_4 rfl (lv_at hl 2 rfl) ?_
    refine lv_aload_n hx hb dX6_carsThere_5 rfl (lv_at hl 0 rfl) ?_
    refine m_get C hP 0 (by decide) k4_53 rfl (v := .int (S.1 0 0)) rfl dX6_carsThere_6 ?_
    refine lv_icmp_ge (tgt := 27) hx hb dX6_carsThere_9 (by decide) (fun hc1 => ?_) (fun hc1 => ?_)
    · have hf := if_t hc1 hf
      refine lv_iload_n hx hb dX6_carsThere_27 rfl (lv_at hl 1 rfl) ?_
      exact r_iret (X := mE Γ) C hP hf dX6_carsThere_28
    · have hf := if_f hc1 hf
      refine lv_iload_n hx hb dX6_carsThere_12 rfl (lv_at hl 1 rfl) ?_
      refine lv_aload_n hx hb dX6_carsThere_13 rfl (lv_at hl 0 rfl) ?_
      refine m_get C hP 5 (by decide) k4_58 rfl (v := .ref (Γ.2.2 (3))) rfl dX6_carsThere_14 ?_
      refine lv_iload_n hx hb dX6_carsThere_17 rfl (lv_at hl 2 rfl) ?_
      refine gi_i hf (fun hi2 hj3 hf => ?_)
      refine m_ild C hP mA_3 hi2 dX6_carsThere_18 ?_
      refine lv_iadd hx hb dX6_carsThere_19 ?_
      refine lv_istore_n (lv' := [(1, .int (x1 + (S.1 3 (x2).toNatClampNeg))), (0, .ref (Γ.2.2 (0))), (2, .int x2)]) hx hb dX6_carsThere_20 rfl hl (by decide) rfl (fun ls hl => ?_)
      refine lv_iinc (v := x2 + (nI 1)) (lv' := [(2, .int (x2 + (nI 1))), (1, .int (x1 + (S.1 3 (x2).toNatClampNeg))), (0, .ref (Γ.2.2 (0)))]) hx hb dX6_carsThere_21 hl (k := 2) rfl rfl (by decide) rfl (fun ls hl => ?_)
      refine lv_goto (tgt := 4) hx hb dX6_carsThere_24 (by decide) ?_
      exact ih S (x1 + (S.1 3 (x2).toNatClampNeg)) (x2 + (nI 1))  hf _ _ _ hP (lv_sub hl [2, 1, 0] rfl)
def fX6_carsThere  (S : mM)  : Option (Int32 × mM) :=
  fX6_carsThere_4   lF S (nI 0) (nI 0)
set_option maxHeartbeats 4000000 in
set_option maxRecDepth 100000 in
theorem mX6_carsThere (l : Launch) (Γ : gG)   {S : mM}  {rz : Int32} {Sz : mM} (hf : fX6_carsThere S = some (rz, Sz)) : CtI l Γ 28 yX6_carsThere cX6_carsThere 3 .int 0 0 [.ref (Γ.2.2 (0))] (mE Γ S) rz (mE Γ Sz) := by
  refine met_body (Γ := Γ) (lv := [(0, .ref (Γ.2.2 (0)))]) RX6 (by decide) rfl rfl rfl ?_
  intro p e s m below meth c H locs ls C hP hl
  obtain ⟨hx, hb, -, -, hown, hts, -, hwx, -⟩ := id C
  unfold fX6_carsThere at hf
  refine lv_iconst (v := nI 0) hx hb dX6_carsThere_0 rfl ?_
  refine lv_istore_n (lv' := [(1, .int (nI 0)), (0, .ref (Γ.2.2 (0)))]) hx hb dX6_carsThere_1 rfl hl (by decide) rfl (fun ls hl => ?_)
  refine lv_iconst (v := nI 0) hx hb dX6_carsThere_2 rfl ?_
  refine lv_istore_n (lv' := [(2, .int (nI 0)), (1, .int (nI 0)), (0, .ref (Γ.2.2 (0)))]) hx hb dX6_carsThere_3 rfl hl (by decide) rfl (fun ls hl => ?_)
  exact wX6_carsThere_4 C   lF S (nI 0) (nI 0)  hf _ _ _ hP (lv_sub hl [2, 1, 0] rfl)
-- X6_seeded
theorem qX6_seeded : Cond.instanceMethod yX6_seeded ∈ Ub ∧ Cond.selects RX6 yX6_seeded yX6_seeded ∈ Ub ∧ Cond.initialized RX6 ∈ Ub ∧ Cond.code yX6_seeded cX6_seeded 8 (some FieldType.int) ∈ Ub ∧ (yX6_seeded.cls = RX6 ∧ yX6_seeded.cls ≠ "java/lang/invoke/MethodHandle" ∧ yX6_seeded.cls ≠ "java/lang/invoke/VarHandle" ∧ (parseMethodDescriptor yX6_seeded.desc).map (fun d => d.parameters.length) = some 3) := ⟨k6_13, k6_14, k1_5, k6_15, by decide +kernel⟩
def fX6_seeded_108   (S : mM) (y0 : Int32) : Option (Int32 × mM) :=
  bv (fX6_close S) fun S11 => ( some (y0, S11))
set_option maxHeartbeats 4000000 in
set_option maxRecDepth 100000 in
theorem wX6_seeded_108 {p : Program} {l : Launch} {e : Env} {s : State} {m : MethodId} {args : Array Value} {below : List Frame} {meth : Method} {c : Code} {Γ : gG} {rz : Int32} {Sz : mM} (C : Cx Γ 28 p s m args meth c RX6 cX6_seeded 8 (some .int))   : ∀ (S : mM) (y0 : Int32) , fX6_seeded_108   S y0 = some (rz, Sz) → ∀ (H : Heap) (locs : List Loc) (ls : Array Slot), St Γ 28 (mE Γ S) s.heap H locs → lv_has ls 8 [(0, .ref (Γ.2.2 (0)))] → W p l e { frames := 5, cells := 0, slots := 0, locals := 110 } s m args below meth c H locs 0 0 (MQ below (gQi Γ 28 rz (mE Γ Sz)) args s 0 0 (wA Γ 28)) (F0 m 108 ls [.int y0]) := by
  obtain ⟨hx, hb, -, -, hown, hts, -, hwx, -⟩ := id C
  intro S y0 hf H locs ls hP hl
  unfold fX6_seeded_108 at hf
  refine lv_istore (lv' := [(5, .int y0), (0, .ref (Γ.2.2 (0)))]) hx hb dX6_seeded_108 hl (by decide) rfl (fun ls hl => ?_)
  refine lv_aload_n hx hb dX6_seeded_110 rfl (lv_at hl 1 rfl) ?_
  refine bv_i hf (fun S11 hq11 hf => ?_)
  refine goV (runV (rest := []) (b := 0) (mX6_close l Γ  hq11) C hP hl.1 (by decide) mE0 rfl k5_34 qX6_close.1 qX6_close.2.1 qX6_close.2.2.1 qX6_close.2.2.2.1 rfl qX6_close.2.2.2.2 ⟨Nat.le_of_ble_eq_true rfl, Nat.le_of_ble_eq_true rfl⟩ ⟨Nat.le_refl 0, Nat.le_refl 0⟩ (Nat.le_of_ble_eq_true rfl) dX6_seeded_111) hP (fun H locs hP => ?_)
  refine lv_iload hx hb dX6_seeded_114 (lv_at hl 0 rfl) ?_
  exact r_iret (X := mE Γ) C hP hf dX6_seeded_116
def fX6_seeded_89  (K44 : mM → Int32 → Int32 → Int32 → Int32 → Option (Int32 × mM)) (S : mM) (x1 : Int32) (x3 : Int32) (x4 : Int32) (x5 : Int32) : Option (Int32 × mM) :=
  K44 S x1 x3 x4 (x5 + (nI 1))
set_option maxHeartbeats 4000000 in
set_option maxRecDepth 100000 in
theorem wX6_seeded_89 {p : Program} {l : Launch} {e : Env} {s : State} {m : MethodId} {args : Array Value} {below : List Frame} {meth : Method} {c : Code} {Γ : gG} {rz : Int32} {Sz : mM} (C : Cx Γ 28 p s m args meth c RX6 cX6_seeded 8 (some .int))  {K44 : mM → Int32 → Int32 → Int32 → Int32 → Option (Int32 × mM)} (hK44 : ∀ (S : mM) (x1 : Int32) (x3 : Int32) (x4 : Int32) (x5 : Int32) , K44 S x1 x3 x4 x5 = some (rz, Sz) → ∀ (H : Heap) (locs : List Loc) (ls : Array Slot), St Γ 28 (mE Γ S) s.heap H locs → lv_has ls 8 [(0, .ref (Γ.2.2 (0))), (1, .int x1), (3, .int x3), (4, .int x4), (5, .int x5)] → W p l e { frames := 5, cells := 0, slots := 0, locals := 110 } s m args below meth c H locs 0 0 (MQ below (gQi Γ 28 rz (mE Γ Sz)) args s 0 0 (wA Γ 28)) (F0 m 44 ls [])) : ∀ (S : mM) (x1 : Int32) (x3 : Int32) (x4 : Int32) (x5 : Int32) , fX6_seeded_89  K44 S x1 x3 x4 x5 = some (rz, Sz) → ∀ (H : Heap) (locs : List Loc) (ls : Array Slot), St Γ 28 (mE Γ S) s.heap H locs → lv_has ls 8 [(0, .ref (Γ.2.2 (0))), (1, .int x1), (3, .int x3), (4, .int x4), (5, .int x5)] → W p l e { frames := 5, cells := 0, slots := 0, locals := 110 } s m args below meth c H locs 0 0 (MQ below (gQi Γ 28 rz (mE Γ Sz)) args s 0 0 (wA Γ 28)) (F0 m 89 ls []) := by
  obtain ⟨hx, hb, -, -, hown, hts, -, hwx, -⟩ := id C
  intro S x1 x3 x4 x5 hf H locs ls hP hl
  unfold fX6_seeded_89 at hf
  refine lv_iinc (v := x5 + (nI 1)) (lv' := [(5, .int (x5 + (nI 1))), (0, .ref (Γ.2.2 (0))), (1, .int x1), (3, .int x3), (4, .int x4)]) hx hb dX6_seeded_89 hl (k := 4) rfl rfl (by decide) rfl (fun ls hl => ?_)
  refine lv_goto (tgt := 44) hx hb dX6_seeded_92 (by decide) ?_
  exact hK44 S x1 x3 x4 (x5 + (nI 1))  hf _ _ _ hP (lv_sub hl [1, 2, 3, 4, 0] rfl)
def fX6_seeded_44   : Nat → mM → Int32 → Int32 → Int32 → Int32 → Option (Int32 × mM)
  | 0, _, _, _, _, _ => none
  | n + 1, S, x1, x3, x4, x5 =>
    if x1 ≤ x5 then if x3 = 0 then fX6_seeded_108    S x4 else bd (fX6_carsThere S) fun v10 S10 => ( fX6_seeded_108    S10 v10) else bd (fX6_draw S (nI 4)) fun v12 S12 => ( bd (fX6_goBy S12 v12) fun v13 S13 => ( bd (fX6_draw S13 (nI 4)) fun v14 S14 => ( bd (fX6_whichLane S14) fun v15 S15 => ( if v15 < 0 then fX6_seeded_89  (fX6_seeded_44   n)  S15 x1 x3 x4 x5 else bv (fX6_comeIn S15 v15 v14) fun S17 => ( fX6_seeded_89  (fX6_seeded_44   n)  S17 x1 x3 (x4 + (nI 1)) x5)))))
set_option maxHeartbeats 4000000 in
set_option maxRecDepth 100000 in
theorem wX6_seeded_44 {p : Program} {l : Launch} {e : Env} {s : State} {m : MethodId} {args : Array Value} {below : List Frame} {meth : Method} {c : Code} {Γ : gG} {rz : Int32} {Sz : mM} (C : Cx Γ 28 p s m args meth c RX6 cX6_seeded 8 (some .int))   : ∀ n : Nat, ∀ (S : mM) (x1 : Int32) (x3 : Int32) (x4 : Int32) (x5 : Int32) , fX6_seeded_44   n S x1 x3 x4 x5 = some (rz, Sz) → ∀ (H : Heap) (locs : List Loc) (ls : Array Slot), St Γ 28 (mE Γ S) s.heap H locs → lv_has ls 8 [(0, .ref (Γ.2.2 (0))), (1, .int x1), (3, .int x3), (4, .int x4), (5, .int x5)] → W p l e { frames := 5, cells := 0, slots := 0, locals := 110 } s m args below meth c H locs 0 0 (MQ below (gQi Γ 28 rz (mE Γ Sz)) args s 0 0 (wA Γ 28)) (F0 m 44 ls []) := by
  obtain ⟨hx, hb, -, -, hown, hts, -, hwx, -⟩ := id C
  intro n
  induction n with
  | zero =>
    intro S x1 x3 x4 x5 hf
    unfold fX6_seeded_44 at hf
    cases hf
  | succ n ih =>
    intro S x1 x3 x4 x5 hf H locs ls hP hl
    unfold fX6_seeded_44 at hf
    refine lv_iload hx hb dX6_seeded_44 (lv_at hl 4 rfl) ?_
    refine lv_iload_n hx hb dX6_seeded_46 rfl (lv_at hl 1 rfl) ?_
    refine lv_icmp_ge (tgt := 95) hx hb dX6_seeded_47 (by decide) (fun hc8 => ?_) (fun hc8 => ?_)
    · have hf := if_t hc8 hf
      refine lv_iload_n hx hb dX6_seeded_95 rfl (lv_at hl 2 rfl) ?_
      refine lv_if_ne (tgt := 104) hx hb dX6_seeded_96 (by decide) (fun hc9 => ?_) (fun hc9 => ?_)
      · have hf := if_f hc9 hf
        refine lv_aload_n hx hb dX6_seeded_104 rfl (lv_at hl 0 rfl) ?_
        refine bd_i hf (fun v10 S10 hq10 hf => ?_)
        refine goI (runV (rest := []) (b := 0) (mX6_carsThere l Γ  hq10) C hP hl.1 (by decide) mE0 rfl k6_24 qX6_carsThere.1 qX6_carsThere.2.1 qX6_carsThere.2.2.1 qX6_carsThere.2.2.2.1 rfl qX6_carsThere.2.2.2.2 ⟨Nat.le_of_ble_eq_true rfl, Nat.le_of_ble_eq_true rfl⟩ ⟨Nat.le_refl 0, Nat.le_refl 0⟩ (Nat.le_of_ble_eq_true rfl) dX6_seeded_105) hP (fun H locs hP => ?_)
        exact wX6_seeded_108 C    S10 v10  hf _ _ _ hP (lv_sub hl [0] rfl)
      · have hf := if_t hc9 hf
        refine lv_iload hx hb dX6_seeded_99 (lv_at hl 3 rfl) ?_
        refine lv_goto (tgt := 108) hx hb dX6_seeded_101 (by decide) ?_
        exact wX6_seeded_108 C    S x4  hf _ _ _ hP (lv_sub hl [0] rfl)
    · have hf := if_f hc8 hf
      refine lv_aload_n hx hb dX6_seeded_50 rfl (lv_at hl 0 rfl) ?_
      refine lv_aload_n hx hb dX6_seeded_51 rfl (lv_at hl 0 rfl) ?_
      refine lv_iconst (v := nI 4) hx hb dX6_seeded_52 rfl ?_
      refine bd_i hf (fun v12 S12 hq12 hf => ?_)
      refine goI (runV (rest := [.ref (Γ.2.2 (0))]) (b := 0) (mX6_draw l Γ  hq12) C hP hl.1 (by decide) mE0 rfl k6_17 qX6_draw.1 qX6_draw.2.1 qX6_draw.2.2.1 qX6_draw.2.2.2.1 rfl qX6_draw.2.2.2.2 ⟨Nat.le_of_ble_eq_true rfl, Nat.le_of_ble_eq_true rfl⟩ ⟨Nat.le_refl 0, Nat.le_refl 0⟩ (Nat.le_of_ble_eq_true rfl) dX6_seeded_53) hP (fun H locs hP => ?_)
      refine bd_i hf (fun v13 S13 hq13 hf => ?_)
      refine goI (runV (rest := []) (b := 0) (mX6_goBy l Γ  hq13) C hP hl.1 (by decide) mE0 rfl k5_18 qX6_goBy.1 qX6_goBy.2.1 qX6_goBy.2.2.1 qX6_goBy.2.2.2.1 rfl qX6_goBy.2.2.2.2 ⟨Nat.le_of_ble_eq_true rfl, Nat.le_of_ble_eq_true rfl⟩ ⟨Nat.le_refl 0, Nat.le_refl 0⟩ (Nat.le_of_ble_eq_true rfl) dX6_seeded_56) hP (fun H locs hP => ?_)
      refine lv_pop hx hb dX6_seeded_59 rfl ?_
      refine lv_aload_n hx hb dX6_seeded_60 rfl (lv_at hl 0 rfl) ?_
      refine lv_iconst (v := nI 4) hx hb dX6_seeded_61 rfl ?_
      refine bd_i hf (fun v14 S14 hq14 hf => ?_)
      refine goI (runV (rest := []) (b := 0) (mX6_draw l Γ  hq14) C hP hl.1 (by decide) mE0 rfl k6_17 qX6_draw.1 qX6_draw.2.1 qX6_draw.2.2.1 qX6_draw.2.2.2.1 rfl qX6_draw.2.2.2.2 ⟨Nat.le_of_ble_eq_true rfl, Nat.le_of_ble_eq_true rfl⟩ ⟨Nat.le_refl 0, Nat.le_refl 0⟩ (Nat.le_of_ble_eq_true rfl) dX6_seeded_62) hP (fun H locs hP => ?_)
      refine lv_istore (lv' := [(6, .int v14), (0, .ref (Γ.2.2 (0))), (1, .int x1), (3, .int x3), (4, .int x4), (5, .int x5)]) hx hb dX6_seeded_65 hl (by decide) rfl (fun ls hl => ?_)
      refine lv_aload_n hx hb dX6_seeded_67 rfl (lv_at hl 1 rfl) ?_
      refine bd_i hf (fun v15 S15 hq15 hf => ?_)
      refine goI (runV (rest := []) (b := 0) (mX6_whichLane l Γ  hq15) C hP hl.1 (by decide) mE0 rfl k5_92 qX6_whichLane.1 qX6_whichLane.2.1 qX6_whichLane.2.2.1 qX6_whichLane.2.2.2.1 rfl qX6_whichLane.2.2.2.2 ⟨Nat.le_of_ble_eq_true rfl, Nat.le_of_ble_eq_true rfl⟩ ⟨Nat.le_refl 0, Nat.le_refl 0⟩ (Nat.le_of_ble_eq_true rfl) dX6_seeded_68) hP (fun H locs hP => ?_)
      refine lv_istore (lv' := [(7, .int v15), (6, .int v14), (0, .ref (Γ.2.2 (0))), (1, .int x1), (3, .int x3), (4, .int x4), (5, .int x5)]) hx hb dX6_seeded_71 hl (by decide) rfl (fun ls hl => ?_)
      refine lv_iload hx hb dX6_seeded_73 (lv_at hl 0 rfl) ?_
      refine lv_if_lt (tgt := 89) hx hb dX6_seeded_75 (by decide) (fun hc16 => ?_) (fun hc16 => ?_)
      · have hf := if_t hc16 hf
        exact wX6_seeded_89 C  ih  S15 x1 x3 x4 x5  hf _ _ _ hP (lv_sub hl [2, 3, 4, 5, 6] rfl)
      · have hf := if_f hc16 hf
        refine lv_aload_n hx hb dX6_seeded_78 rfl (lv_at hl 2 rfl) ?_
        refine lv_iload hx hb dX6_seeded_79 (lv_at hl 0 rfl) ?_
        refine lv_iload hx hb dX6_seeded_81 (lv_at hl 1 rfl) ?_
        refine bv_i hf (fun S17 hq17 hf => ?_)
        refine goV (runV (rest := []) (b := 0) (mX6_comeIn l Γ  hq17) C hP hl.1 (by decide) mE0 rfl k5_4 qX6_comeIn.1 qX6_comeIn.2.1 qX6_comeIn.2.2.1 qX6_comeIn.2.2.2.1 rfl qX6_comeIn.2.2.2.2 ⟨Nat.le_of_ble_eq_true rfl, Nat.le_of_ble_eq_true rfl⟩ ⟨Nat.le_refl 0, Nat.le_refl 0⟩ (Nat.le_of_ble_eq_true rfl) dX6_seeded_83) hP (fun H locs hP => ?_)
        refine lv_iinc (v := x4 + (nI 1)) (lv' := [(4, .int (x4 + (nI 1))), (7, .int v15), (6, .int v14), (0, .ref (Γ.2.2 (0))), (1, .int x1), (3, .int x3), (5, .int x5)]) hx hb dX6_seeded_86 hl (k := 5) rfl rfl (by decide) rfl (fun ls hl => ?_)
        exact wX6_seeded_89 C  ih  S17 x1 x3 (x4 + (nI 1)) x5  hf _ _ _ hP (lv_sub hl [3, 4, 5, 0, 6] rfl)
def fX6_seeded  (S : mM) (x1 : Int32) (x2 : Int32) (x3 : Int32) : Option (Int32 × mM) :=
  sv (mS S 0 9 (nI 0)) fun S1 => ( bd (fX6_in S1 x1.toInt64 1 30) fun v2 S2 => ( if v2 = 0 then some ((-1), S2) else bd (fX6_in S2 x3.toInt64 0 1) fun v4 S4 => ( if v4 = 0 then some ((-1), S4) else bv (fX6_open S4) fun S6 => ( sv (mS S6 0 33 x2) fun S7 => ( fX6_seeded_44   lF S7 x1 x3 (nI 0) (nI 0))))))
set_option maxHeartbeats 4000000 in
set_option maxRecDepth 100000 in
theorem mX6_seeded (l : Launch) (Γ : gG)   {S : mM} {x1 : Int32} {x2 : Int32} {x3 : Int32} {rz : Int32} {Sz : mM} (hf : fX6_seeded S x1 x2 x3 = some (rz, Sz)) : CtI l Γ 28 yX6_seeded cX6_seeded 8 .int 5 110 [.ref (Γ.2.2 (0)), .int x1, .int x2, .int x3] (mE Γ S) rz (mE Γ Sz) := by
  refine met_body (Γ := Γ) (lv := [(0, .ref (Γ.2.2 (0))), (1, .int x1), (2, .int x2), (3, .int x3)]) RX6 (by decide) rfl rfl rfl ?_
  intro p e s m below meth c H locs ls C hP hl
  obtain ⟨hx, hb, -, -, hown, hts, -, hwx, -⟩ := id C
  unfold fX6_seeded at hf
  refine lv_aload_n hx hb dX6_seeded_0 rfl (lv_at hl 0 rfl) ?_
  refine lv_iconst (v := nI 0) hx hb dX6_seeded_1 rfl ?_
  refine m_put C hP 9 (by decide) k4_62 dX6_seeded_2 (fun H locs hP => ?_)
  refine sv_i hf (fun S1 e1 hf => ?_)
  rw [← e1] at hP
  refine lv_iload_n hx hb dX6_seeded_5 rfl (lv_at hl 1 rfl) ?_
  refine lv_i2l (v := x1.toInt64) hx hb dX6_seeded_6 rfl ?_
  refine lv_lconst (v := 1) hx hb dX6_seeded_7 (by decide) ?_
  refine lv_ldc2 (v := 30) hx hb hown (hts _ k6_16) dX6_seeded_8 ?_
  refine bd_i hf (fun v2 S2 hq2 hf => ?_)
  refine goI (runS (rest := []) (mX6_in l Γ  hq2) C hP hl.1 k4_215 qX6_in.1 qX6_in.2.1 qX6_in.2.2.1 rfl qX6_in.2.2.2 ⟨Nat.le_of_ble_eq_true rfl, Nat.le_of_ble_eq_true rfl⟩ ⟨Nat.le_refl 0, Nat.le_refl 0⟩ (Nat.le_of_ble_eq_true rfl) dX6_seeded_11) hP (fun H locs hP => ?_)
  refine lv_if_eq (tgt := 27) hx hb dX6_seeded_14 (by decide) (fun hc3 => ?_) (fun hc3 => ?_)
  · have hf := if_t hc3 hf
    refine lv_iconst (v := (-1)) hx hb dX6_seeded_27 rfl ?_
    exact r_iret (X := mE Γ) C hP hf dX6_seeded_28
  · have hf := if_f hc3 hf
    refine lv_iload_n hx hb dX6_seeded_17 rfl (lv_at hl 3 rfl) ?_
    refine lv_i2l (v := x3.toInt64) hx hb dX6_seeded_18 rfl ?_
    refine lv_lconst (v := 0) hx hb dX6_seeded_19 (by decide) ?_
    refine lv_lconst (v := 1) hx hb dX6_seeded_20 (by decide) ?_
    refine bd_i hf (fun v4 S4 hq4 hf => ?_)
    refine goI (runS (rest := []) (mX6_in l Γ  hq4) C hP hl.1 k4_215 qX6_in.1 qX6_in.2.1 qX6_in.2.2.1 rfl qX6_in.2.2.2 ⟨Nat.le_of_ble_eq_true rfl, Nat.le_of_ble_eq_true rfl⟩ ⟨Nat.le_refl 0, Nat.le_refl 0⟩ (Nat.le_of_ble_eq_true rfl) dX6_seeded_21) hP (fun H locs hP => ?_)
    refine lv_if_ne (tgt := 29) hx hb dX6_seeded_24 (by decide) (fun hc5 => ?_) (fun hc5 => ?_)
    · have hf := if_f hc5 hf
      refine lv_aload_n hx hb dX6_seeded_29 rfl (lv_at hl 0 rfl) ?_
      refine bv_i hf (fun S6 hq6 hf => ?_)
      refine goV (runV (rest := []) (b := 0) (mX6_open l Γ  hq6) C hP hl.1 (by decide) mE0 rfl k4_232 qX6_open.1 qX6_open.2.1 qX6_open.2.2.1 qX6_open.2.2.2.1 rfl qX6_open.2.2.2.2 ⟨Nat.le_of_ble_eq_true rfl, Nat.le_of_ble_eq_true rfl⟩ ⟨Nat.le_refl 0, Nat.le_refl 0⟩ (Nat.le_of_ble_eq_true rfl) dX6_seeded_30) hP (fun H locs hP => ?_)
      refine lv_aload_n hx hb dX6_seeded_33 rfl (lv_at hl 0 rfl) ?_
      refine lv_iload_n hx hb dX6_seeded_34 rfl (lv_at hl 2 rfl) ?_
      refine m_put C hP 33 (by decide) k4_86 dX6_seeded_35 (fun H locs hP => ?_)
      refine sv_i hf (fun S7 e7 hf => ?_)
      rw [← e7] at hP
      refine lv_iconst (v := nI 0) hx hb dX6_seeded_38 rfl ?_
      refine lv_istore (lv' := [(4, .int (nI 0)), (0, .ref (Γ.2.2 (0))), (1, .int x1), (2, .int x2), (3, .int x3)]) hx hb dX6_seeded_39 hl (by decide) rfl (fun ls hl => ?_)
      refine lv_iconst (v := nI 0) hx hb dX6_seeded_41 rfl ?_
      refine lv_istore (lv' := [(5, .int (nI 0)), (4, .int (nI 0)), (0, .ref (Γ.2.2 (0))), (1, .int x1), (2, .int x2), (3, .int x3)]) hx hb dX6_seeded_42 hl (by decide) rfl (fun ls hl => ?_)
      exact wX6_seeded_44 C   lF S7 x1 x3 (nI 0) (nI 0)  hf _ _ _ hP (lv_sub hl [2, 3, 5, 1, 0] rfl)
    · have hf := if_t hc5 hf
      refine lv_iconst (v := (-1)) hx hb dX6_seeded_27 rfl ?_
      exact r_iret (X := mE Γ) C hP hf dX6_seeded_28
