-- X6_here
theorem qX6_here : Cond.instanceMethod yX6_here ∈ Ub ∧ Cond.selects RX6 yX6_here yX6_here ∈ Ub ∧ Cond.initialized RX6 ∈ Ub ∧ Cond.code yX6_here cX6_here 1 (some FieldType.int) ∈ Ub ∧ (yX6_here.cls = RX6 ∧ yX6_here.cls ≠ "java/lang/invoke/MethodHandle" ∧ yX6_here.cls ≠ "java/lang/invoke/VarHandle" ∧ (parseMethodDescriptor yX6_here.desc).map (fun d => d.parameters.length) = some 0) := ⟨k4_224, ks_28, k1_5, k4_225, by decide +kernel⟩
def fX6_here  (S : mM)  : Option (Int32 × mM) :=
  if (S.1 0 19) < (S.1 0 18) then gi ((S.1 0 17) + (S.1 0 19)) 800 (some (((S.2.1 26 ((S.1 0 17) + (S.1 0 19)).toNatClampNeg).toInt32) &&& (nI 255), S)) else some ((-1), S)
set_option maxHeartbeats 4000000 in
set_option maxRecDepth 100000 in
theorem mX6_here (l : Launch) (Γ : gG)   {S : mM}  {rz : Int32} {Sz : mM} (hf : fX6_here S = some (rz, Sz)) : CtI l Γ 28 yX6_here cX6_here 1 .int 0 0 [.ref (Γ.2.2 (0))] (mE Γ S) rz (mE Γ Sz) := by
  refine met_body (Γ := Γ) (lv := [(0, .ref (Γ.2.2 (0)))]) RX6 (by decide) rfl rfl rfl ?_
  intro p e s m below meth c H locs ls C hP hl
  obtain ⟨hx, hb, -, -, hown, hts, -, hwx, -⟩ := id C
  unfold fX6_here at hf
  refine lv_aload_n hx hb dX6_here_0 rfl (lv_at hl 0 rfl) ?_
  refine m_get C hP 19 (by decide) k4_72 rfl (v := .int (S.1 0 19)) rfl dX6_here_1 ?_
  refine lv_aload_n hx hb dX6_here_4 rfl (lv_at hl 0 rfl) ?_
  refine m_get C hP 18 (by decide) k4_71 rfl (v := .int (S.1 0 18)) rfl dX6_here_5 ?_
  refine lv_icmp_lt (tgt := 15) hx hb dX6_here_8 (by decide) (fun hc1 => ?_) (fun hc1 => ?_)
  · have hf := if_t hc1 hf
    refine lv_aload_n hx hb dX6_here_15 rfl (lv_at hl 0 rfl) ?_
    refine m_get C hP 40 (by decide) k4_93 rfl (v := .ref (Γ.2.2 (26))) rfl dX6_here_16 ?_
    refine lv_aload_n hx hb dX6_here_19 rfl (lv_at hl 0 rfl) ?_
    refine m_get C hP 17 (by decide) k4_70 rfl (v := .int (S.1 0 17)) rfl dX6_here_20 ?_
    refine lv_aload_n hx hb dX6_here_23 rfl (lv_at hl 0 rfl) ?_
    refine m_get C hP 19 (by decide) k4_72 rfl (v := .int (S.1 0 19)) rfl dX6_here_24 ?_
    refine lv_iadd hx hb dX6_here_27 ?_
    refine gi_i hf (fun hi2 hj3 hf => ?_)
    refine m_lld C hP mB_26 hi2 dX6_here_28 ?_
    refine lv_l2i (v := (S.2.1 26 ((S.1 0 17) + (S.1 0 19)).toNatClampNeg).toInt32) hx hb dX6_here_29 rfl ?_
    refine lv_sipush (v := nI 255) hx hb dX6_here_30 rfl ?_
    refine lv_iand hx hb dX6_here_33 ?_
    exact r_iret (X := mE Γ) C hP hf dX6_here_34
  · have hf := if_f hc1 hf
    refine lv_iconst (v := (-1)) hx hb dX6_here_11 rfl ?_
    refine lv_goto (tgt := 34) hx hb dX6_here_12 (by decide) ?_
    exact r_iret (X := mE Γ) C hP hf dX6_here_34
-- X6_readDigit
theorem qX6_readDigit : Cond.instanceMethod yX6_readDigit ∈ Ub ∧ Cond.selects RX6 yX6_readDigit yX6_readDigit ∈ Ub ∧ Cond.initialized RX6 ∈ Ub ∧ Cond.code yX6_readDigit cX6_readDigit 1 (some FieldType.int) ∈ Ub ∧ (yX6_readDigit.cls = RX6 ∧ yX6_readDigit.cls ≠ "java/lang/invoke/MethodHandle" ∧ yX6_readDigit.cls ≠ "java/lang/invoke/VarHandle" ∧ (parseMethodDescriptor yX6_readDigit.desc).map (fun d => d.parameters.length) = some 0) := ⟨k4_228, ks_29, k1_5, k4_229, by decide +kernel⟩
def fX6_readDigit_30   (S : mM) (y1 : Int32) : Option (Int32 × mM) :=
  gb y1 (sv (mS S 0 20 y1) fun S3 => ( if (S3.1 0 20) = 0 then sv (mS S3 0 19 ((S3.1 0 19) + (nI 1))) fun S5 => ( gi (((S5.1 0 17) + (S5.1 0 19)) - (nI 1)) 800 (some (((S5.2.1 26 (((S5.1 0 17) + (S5.1 0 19)) - (nI 1)).toNatClampNeg).toInt32) - (nI 48), S5))) else some (nI 0, S3)))
set_option maxHeartbeats 4000000 in
set_option maxRecDepth 100000 in
theorem wX6_readDigit_30 {p : Program} {l : Launch} {e : Env} {s : State} {m : MethodId} {args : Array Value} {below : List Frame} {meth : Method} {c : Code} {Γ : gG} {rz : Int32} {Sz : mM} (C : Cx Γ 28 p s m args meth c RX6 cX6_readDigit 1 (some .int))   : ∀ (S : mM) (y1 : Int32) , fX6_readDigit_30   S y1 = some (rz, Sz) → ∀ (H : Heap) (locs : List Loc) (ls : Array Slot), St Γ 28 (mE Γ S) s.heap H locs → lv_has ls 1 [(0, .ref (Γ.2.2 (0)))] → W p l e { frames := 1, cells := 0, slots := 0, locals := 25 } s m args below meth c H locs 0 0 (MQ below (gQi Γ 28 rz (mE Γ Sz)) args s 0 0 (wA Γ 28)) (F0 m 30 ls [.int y1, .ref (Γ.2.2 (0))]) := by
  obtain ⟨hx, hb, -, -, hown, hts, -, hwx, -⟩ := id C
  intro S y1 hf H locs ls hP hl
  unfold fX6_readDigit_30 at hf
  refine gb_i hf (fun hz2 hf => ?_)
  refine m_putZ C hP 20 (by decide) k4_73 hz2 dX6_readDigit_30 (fun H locs hP => ?_)
  refine sv_i hf (fun S3 e3 hf => ?_)
  rw [← e3] at hP
  refine lv_aload_n hx hb dX6_readDigit_33 rfl (lv_at hl 0 rfl) ?_
  refine m_get C hP 20 (by decide) k4_73 rfl (v := .int (S3.1 0 20)) rfl dX6_readDigit_34 ?_
  refine lv_if_eq (tgt := 42) hx hb dX6_readDigit_37 (by decide) (fun hc4 => ?_) (fun hc4 => ?_)
  · have hf := if_t hc4 hf
    refine lv_aload_n hx hb dX6_readDigit_42 rfl (lv_at hl 0 rfl) ?_
    refine lv_dup hx hb dX6_readDigit_43 rfl ?_
    refine m_get C hP 19 (by decide) k4_72 rfl (v := .int (S3.1 0 19)) rfl dX6_readDigit_44 ?_
    refine lv_iconst (v := nI 1) hx hb dX6_readDigit_47 rfl ?_
    refine lv_iadd hx hb dX6_readDigit_48 ?_
    refine m_put C hP 19 (by decide) k4_72 dX6_readDigit_49 (fun H locs hP => ?_)
    refine sv_i hf (fun S5 e5 hf => ?_)
    rw [← e5] at hP
    refine lv_aload_n hx hb dX6_readDigit_52 rfl (lv_at hl 0 rfl) ?_
    refine m_get C hP 40 (by decide) k4_93 rfl (v := .ref (Γ.2.2 (26))) rfl dX6_readDigit_53 ?_
    refine lv_aload_n hx hb dX6_readDigit_56 rfl (lv_at hl 0 rfl) ?_
    refine m_get C hP 17 (by decide) k4_70 rfl (v := .int (S5.1 0 17)) rfl dX6_readDigit_57 ?_
    refine lv_aload_n hx hb dX6_readDigit_60 rfl (lv_at hl 0 rfl) ?_
    refine m_get C hP 19 (by decide) k4_72 rfl (v := .int (S5.1 0 19)) rfl dX6_readDigit_61 ?_
    refine lv_iadd hx hb dX6_readDigit_64 ?_
    refine lv_iconst (v := nI 1) hx hb dX6_readDigit_65 rfl ?_
    refine lv_isub hx hb dX6_readDigit_66 ?_
    refine gi_i hf (fun hi6 hj7 hf => ?_)
    refine m_lld C hP mB_26 hi6 dX6_readDigit_67 ?_
    refine lv_l2i (v := (S5.2.1 26 (((S5.1 0 17) + (S5.1 0 19)) - (nI 1)).toNatClampNeg).toInt32) hx hb dX6_readDigit_68 rfl ?_
    refine lv_bipush (v := nI 48) hx hb dX6_readDigit_69 rfl ?_
    refine lv_isub hx hb dX6_readDigit_71 ?_
    exact r_iret (X := mE Γ) C hP hf dX6_readDigit_72
  · have hf := if_f hc4 hf
    refine lv_iconst (v := nI 0) hx hb dX6_readDigit_40 rfl ?_
    exact r_iret (X := mE Γ) C hP hf dX6_readDigit_41
def fX6_readDigit_25   (S : mM)  : Option (Int32 × mM) :=
  fX6_readDigit_30    S (nI 1)
set_option maxHeartbeats 4000000 in
set_option maxRecDepth 100000 in
theorem wX6_readDigit_25 {p : Program} {l : Launch} {e : Env} {s : State} {m : MethodId} {args : Array Value} {below : List Frame} {meth : Method} {c : Code} {Γ : gG} {rz : Int32} {Sz : mM} (C : Cx Γ 28 p s m args meth c RX6 cX6_readDigit 1 (some .int))   : ∀ (S : mM)  , fX6_readDigit_25   S  = some (rz, Sz) → ∀ (H : Heap) (locs : List Loc) (ls : Array Slot), St Γ 28 (mE Γ S) s.heap H locs → lv_has ls 1 [(0, .ref (Γ.2.2 (0)))] → W p l e { frames := 1, cells := 0, slots := 0, locals := 25 } s m args below meth c H locs 0 0 (MQ below (gQi Γ 28 rz (mE Γ Sz)) args s 0 0 (wA Γ 28)) (F0 m 25 ls [.ref (Γ.2.2 (0))]) := by
  obtain ⟨hx, hb, -, -, hown, hts, -, hwx, -⟩ := id C
  intro S  hf H locs ls hP hl
  unfold fX6_readDigit_25 at hf
  refine lv_iconst (v := nI 1) hx hb dX6_readDigit_25 rfl ?_
  refine lv_goto (tgt := 30) hx hb dX6_readDigit_26 (by decide) ?_
  exact wX6_readDigit_30 C    S (nI 1)  hf _ _ _ hP (lv_sub hl [0] rfl)
def fX6_readDigit  (S : mM)  : Option (Int32 × mM) :=
  if (S.1 0 20) = 0 then bd (fX6_here S) fun v8 S8 => ( bd (fX6_in S8 v8.toInt64 48 57) fun v9 S9 => ( if v9 = 0 then fX6_readDigit_25    S9  else fX6_readDigit_30    S9 (nI 0))) else fX6_readDigit_25    S 
set_option maxHeartbeats 4000000 in
set_option maxRecDepth 100000 in
theorem mX6_readDigit (l : Launch) (Γ : gG)   {S : mM}  {rz : Int32} {Sz : mM} (hf : fX6_readDigit S = some (rz, Sz)) : CtI l Γ 28 yX6_readDigit cX6_readDigit 1 .int 1 25 [.ref (Γ.2.2 (0))] (mE Γ S) rz (mE Γ Sz) := by
  refine met_body (Γ := Γ) (lv := [(0, .ref (Γ.2.2 (0)))]) RX6 (by decide) rfl rfl rfl ?_
  intro p e s m below meth c H locs ls C hP hl
  obtain ⟨hx, hb, -, -, hown, hts, -, hwx, -⟩ := id C
  unfold fX6_readDigit at hf
  refine lv_aload_n hx hb dX6_readDigit_0 rfl (lv_at hl 0 rfl) ?_
  refine lv_aload_n hx hb dX6_readDigit_1 rfl (lv_at hl 0 rfl) ?_
  refine m_get C hP 20 (by decide) k4_73 rfl (v := .int (S.1 0 20)) rfl dX6_readDigit_2 ?_
  refine lv_if_ne (tgt := 25) hx hb dX6_readDigit_5 (by decide) (fun hc1 => ?_) (fun hc1 => ?_)
  · have hf := if_f hc1 hf
    exact wX6_readDigit_25 C    S   hf _ _ _ hP (lv_sub hl [0] rfl)
  · have hf := if_t hc1 hf
    refine lv_aload_n hx hb dX6_readDigit_8 rfl (lv_at hl 0 rfl) ?_
    refine bd_i hf (fun v8 S8 hq8 hf => ?_)
    refine goI (runV (rest := [.ref (Γ.2.2 (0))]) (b := 0) (mX6_here l Γ  hq8) C hP hl.1 (by decide) mE0 rfl k4_222 qX6_here.1 qX6_here.2.1 qX6_here.2.2.1 qX6_here.2.2.2.1 rfl qX6_here.2.2.2.2 ⟨Nat.le_of_ble_eq_true rfl, Nat.le_of_ble_eq_true rfl⟩ ⟨Nat.le_refl 0, Nat.le_refl 0⟩ (Nat.le_of_ble_eq_true rfl) dX6_readDigit_9) hP (fun H locs hP => ?_)
    refine lv_i2l (v := v8.toInt64) hx hb dX6_readDigit_12 rfl ?_
    refine lv_ldc2 (v := 48) hx hb hown (hts _ k4_230) dX6_readDigit_13 ?_
    refine lv_ldc2 (v := 57) hx hb hown (hts _ k4_231) dX6_readDigit_16 ?_
    refine bd_i hf (fun v9 S9 hq9 hf => ?_)
    refine goI (runS (rest := [.ref (Γ.2.2 (0))]) (mX6_in l Γ  hq9) C hP hl.1 k4_215 qX6_in.1 qX6_in.2.1 qX6_in.2.2.1 rfl qX6_in.2.2.2 ⟨Nat.le_of_ble_eq_true rfl, Nat.le_of_ble_eq_true rfl⟩ ⟨Nat.le_refl 0, Nat.le_refl 0⟩ (Nat.le_of_ble_eq_true rfl) dX6_readDigit_19) hP (fun H locs hP => ?_)
    refine lv_if_ne (tgt := 29) hx hb dX6_readDigit_22 (by decide) (fun hc10 => ?_) (fun hc10 => ?_)
    · have hf := if_f hc10 hf
      refine lv_iconst (v := nI 0) hx hb dX6_readDigit_29 rfl ?_
      exact wX6_readDigit_30 C    S9 (nI 0)  hf _ _ _ hP (lv_sub hl [0] rfl)
    · have hf := if_t hc10 hf
      exact wX6_readDigit_25 C    S9   hf _ _ _ hP (lv_sub hl [0] rfl)
-- X6_readStatement
theorem qX6_readStatement : Cond.instanceMethod yX6_readStatement ∈ Ub ∧ Cond.selects RX6 yX6_readStatement yX6_readStatement ∈ Ub ∧ Cond.initialized RX6 ∈ Ub ∧ Cond.code yX6_readStatement cX6_readStatement 3 (none : Option Jvm.ClassFile.FieldType) ∈ Ub ∧ (yX6_readStatement.cls = RX6 ∧ yX6_readStatement.cls ≠ "java/lang/invoke/MethodHandle" ∧ yX6_readStatement.cls ≠ "java/lang/invoke/VarHandle" ∧ (parseMethodDescriptor yX6_readStatement.desc).map (fun d => d.parameters.length) = some 0) := ⟨k4_220, ks_27, k1_5, k4_221, by decide +kernel⟩
def fX6_readStatement_293   (S : mM) (y1 : Int32) (y2 : Int32) : Option mM :=
  sv (mS S 0 19 (y1 + y2)) fun S35 => ( sv (mS S35 0 21 ((S35.1 0 21) + (nI 1))) fun S36 => ( some S36))
set_option maxHeartbeats 4000000 in
set_option maxRecDepth 100000 in
theorem wX6_readStatement_293 {p : Program} {l : Launch} {e : Env} {s : State} {m : MethodId} {args : Array Value} {below : List Frame} {meth : Method} {c : Code} {Γ : gG} {Sz : mM} (C : Cx Γ 28 p s m args meth c RX6 cX6_readStatement 3 none)   : ∀ (S : mM) (y1 : Int32) (y2 : Int32) , fX6_readStatement_293   S y1 y2 = some Sz → ∀ (H : Heap) (locs : List Loc) (ls : Array Slot), St Γ 28 (mE Γ S) s.heap H locs → lv_has ls 3 [(0, .ref (Γ.2.2 (0)))] → W p l e { frames := 2, cells := 0, slots := 0, locals := 45 } s m args below meth c H locs 0 0 (MQ below (gQv Γ 28 (mE Γ Sz)) args s 0 0 (wA Γ 28)) (F0 m 293 ls [.int y2, .int y1, .ref (Γ.2.2 (0))]) := by
  obtain ⟨hx, hb, -, -, hown, hts, -, hwx, -⟩ := id C
  intro S y1 y2 hf H locs ls hP hl
  unfold fX6_readStatement_293 at hf
  refine lv_iadd hx hb dX6_readStatement_293 ?_
  refine m_put C hP 19 (by decide) k4_72 dX6_readStatement_294 (fun H locs hP => ?_)
  refine sv_i hf (fun S35 e35 hf => ?_)
  rw [← e35] at hP
  refine lv_aload_n hx hb dX6_readStatement_297 rfl (lv_at hl 0 rfl) ?_
  refine lv_dup hx hb dX6_readStatement_298 rfl ?_
  refine m_get C hP 21 (by decide) k4_74 rfl (v := .int (S35.1 0 21)) rfl dX6_readStatement_299 ?_
  refine lv_iconst (v := nI 1) hx hb dX6_readStatement_302 rfl ?_
  refine lv_iadd hx hb dX6_readStatement_303 ?_
  refine m_put C hP 21 (by decide) k4_74 dX6_readStatement_304 (fun H locs hP => ?_)
  refine sv_i hf (fun S36 e36 hf => ?_)
  rw [← e36] at hP
  exact r_vret (X := mE Γ) C hP hf dX6_readStatement_307
def fX6_readStatement_273   (S : mM) (y1 : Int32) : Option mM :=
  gb y1 (sv (mS S 0 20 y1) fun S33 => ( if (S33.1 0 20) = 0 then fX6_readStatement_293    S33 (S33.1 0 19) (nI 1) else fX6_readStatement_293    S33 (S33.1 0 19) (nI 0)))
set_option maxHeartbeats 4000000 in
set_option maxRecDepth 100000 in
theorem wX6_readStatement_273 {p : Program} {l : Launch} {e : Env} {s : State} {m : MethodId} {args : Array Value} {below : List Frame} {meth : Method} {c : Code} {Γ : gG} {Sz : mM} (C : Cx Γ 28 p s m args meth c RX6 cX6_readStatement 3 none)   : ∀ (S : mM) (y1 : Int32) , fX6_readStatement_273   S y1 = some Sz → ∀ (H : Heap) (locs : List Loc) (ls : Array Slot), St Γ 28 (mE Γ S) s.heap H locs → lv_has ls 3 [(0, .ref (Γ.2.2 (0)))] → W p l e { frames := 2, cells := 0, slots := 0, locals := 45 } s m args below meth c H locs 0 0 (MQ below (gQv Γ 28 (mE Γ Sz)) args s 0 0 (wA Γ 28)) (F0 m 273 ls [.int y1, .ref (Γ.2.2 (0))]) := by
  obtain ⟨hx, hb, -, -, hown, hts, -, hwx, -⟩ := id C
  intro S y1 hf H locs ls hP hl
  unfold fX6_readStatement_273 at hf
  refine gb_i hf (fun hz32 hf => ?_)
  refine m_putZ C hP 20 (by decide) k4_73 hz32 dX6_readStatement_273 (fun H locs hP => ?_)
  refine sv_i hf (fun S33 e33 hf => ?_)
  rw [← e33] at hP
  refine lv_aload_n hx hb dX6_readStatement_276 rfl (lv_at hl 0 rfl) ?_
  refine lv_dup hx hb dX6_readStatement_277 rfl ?_
  refine m_get C hP 19 (by decide) k4_72 rfl (v := .int (S33.1 0 19)) rfl dX6_readStatement_278 ?_
  refine lv_aload_n hx hb dX6_readStatement_281 rfl (lv_at hl 0 rfl) ?_
  refine m_get C hP 20 (by decide) k4_73 rfl (v := .int (S33.1 0 20)) rfl dX6_readStatement_282 ?_
  refine lv_if_eq (tgt := 292) hx hb dX6_readStatement_285 (by decide) (fun hc34 => ?_) (fun hc34 => ?_)
  · have hf := if_t hc34 hf
    refine lv_iconst (v := nI 1) hx hb dX6_readStatement_292 rfl ?_
    exact wX6_readStatement_293 C    S33 (S33.1 0 19) (nI 1)  hf _ _ _ hP (lv_sub hl [0] rfl)
  · have hf := if_f hc34 hf
    refine lv_iconst (v := nI 0) hx hb dX6_readStatement_288 rfl ?_
    refine lv_goto (tgt := 293) hx hb dX6_readStatement_289 (by decide) ?_
    exact wX6_readStatement_293 C    S33 (S33.1 0 19) (nI 0)  hf _ _ _ hP (lv_sub hl [0] rfl)
def fX6_readStatement_268   (S : mM)  : Option mM :=
  fX6_readStatement_273    S (nI 1)
set_option maxHeartbeats 4000000 in
set_option maxRecDepth 100000 in
theorem wX6_readStatement_268 {p : Program} {l : Launch} {e : Env} {s : State} {m : MethodId} {args : Array Value} {below : List Frame} {meth : Method} {c : Code} {Γ : gG} {Sz : mM} (C : Cx Γ 28 p s m args meth c RX6 cX6_readStatement 3 none)   : ∀ (S : mM)  , fX6_readStatement_268   S  = some Sz → ∀ (H : Heap) (locs : List Loc) (ls : Array Slot), St Γ 28 (mE Γ S) s.heap H locs → lv_has ls 3 [(0, .ref (Γ.2.2 (0)))] → W p l e { frames := 2, cells := 0, slots := 0, locals := 45 } s m args below meth c H locs 0 0 (MQ below (gQv Γ 28 (mE Γ Sz)) args s 0 0 (wA Γ 28)) (F0 m 268 ls [.ref (Γ.2.2 (0))]) := by
  obtain ⟨hx, hb, -, -, hown, hts, -, hwx, -⟩ := id C
  intro S  hf H locs ls hP hl
  unfold fX6_readStatement_268 at hf
  refine lv_iconst (v := nI 1) hx hb dX6_readStatement_268 rfl ?_
  refine lv_goto (tgt := 273) hx hb dX6_readStatement_269 (by decide) ?_
  exact wX6_readStatement_273 C    S (nI 1)  hf _ _ _ hP (lv_sub hl [0] rfl)
def fX6_readStatement_234   (S : mM) (x1 : Int32) : Option mM :=
  gi x1 51 (gi x1 51 (sv (mS S 15 ((x1).toNatClampNeg) ((S.1 0 19) - (S.1 14 (x1).toNatClampNeg))) fun S30 => ( if (S30.1 0 20) = 0 then bd (fX6_here S30) fun v37 S37 => ( if v37 = (nI 59) then fX6_readStatement_273    S37 (nI 0) else fX6_readStatement_268    S37 ) else fX6_readStatement_268    S30 )))
set_option maxHeartbeats 4000000 in
set_option maxRecDepth 100000 in
theorem wX6_readStatement_234 {p : Program} {l : Launch} {e : Env} {s : State} {m : MethodId} {args : Array Value} {below : List Frame} {meth : Method} {c : Code} {Γ : gG} {Sz : mM} (C : Cx Γ 28 p s m args meth c RX6 cX6_readStatement 3 none)   : ∀ (S : mM) (x1 : Int32) , fX6_readStatement_234   S x1 = some Sz → ∀ (H : Heap) (locs : List Loc) (ls : Array Slot), St Γ 28 (mE Γ S) s.heap H locs → lv_has ls 3 [(0, .ref (Γ.2.2 (0))), (1, .int x1)] → W p l e { frames := 2, cells := 0, slots := 0, locals := 45 } s m args below meth c H locs 0 0 (MQ below (gQv Γ 28 (mE Γ Sz)) args s 0 0 (wA Γ 28)) (F0 m 234 ls []) := by
  obtain ⟨hx, hb, -, -, hown, hts, -, hwx, -⟩ := id C
  intro S x1 hf H locs ls hP hl
  unfold fX6_readStatement_234 at hf
  refine lv_aload_n hx hb dX6_readStatement_234 rfl (lv_at hl 0 rfl) ?_
  refine m_get C hP 27 (by decide) k4_80 rfl (v := .ref (Γ.2.2 (15))) rfl dX6_readStatement_235 ?_
  refine lv_iload_n hx hb dX6_readStatement_238 rfl (lv_at hl 1 rfl) ?_
  refine lv_aload_n hx hb dX6_readStatement_239 rfl (lv_at hl 0 rfl) ?_
  refine m_get C hP 19 (by decide) k4_72 rfl (v := .int (S.1 0 19)) rfl dX6_readStatement_240 ?_
  refine lv_aload_n hx hb dX6_readStatement_243 rfl (lv_at hl 0 rfl) ?_
  refine m_get C hP 26 (by decide) k4_79 rfl (v := .ref (Γ.2.2 (14))) rfl dX6_readStatement_244 ?_
  refine lv_iload_n hx hb dX6_readStatement_247 rfl (lv_at hl 1 rfl) ?_
  refine gi_i hf (fun hi26 hj27 hf => ?_)
  refine m_ild C hP mA_14 hi26 dX6_readStatement_248 ?_
  refine lv_isub hx hb dX6_readStatement_249 ?_
  refine gi_i hf (fun hi28 hj29 hf => ?_)
  refine m_ist C hP mA_15 hi28 dX6_readStatement_250 (fun H locs hP => ?_)
  refine sv_i hf (fun S30 e30 hf => ?_)
  rw [← e30] at hP
  refine lv_aload_n hx hb dX6_readStatement_251 rfl (lv_at hl 0 rfl) ?_
  refine lv_aload_n hx hb dX6_readStatement_252 rfl (lv_at hl 0 rfl) ?_
  refine m_get C hP 20 (by decide) k4_73 rfl (v := .int (S30.1 0 20)) rfl dX6_readStatement_253 ?_
  refine lv_if_ne (tgt := 268) hx hb dX6_readStatement_256 (by decide) (fun hc31 => ?_) (fun hc31 => ?_)
  · have hf := if_f hc31 hf
    exact wX6_readStatement_268 C    S30   hf _ _ _ hP (lv_sub hl [0] rfl)
  · have hf := if_t hc31 hf
    refine lv_aload_n hx hb dX6_readStatement_259 rfl (lv_at hl 0 rfl) ?_
    refine bd_i hf (fun v37 S37 hq37 hf => ?_)
    refine goI (runV (rest := [.ref (Γ.2.2 (0))]) (b := 0) (mX6_here l Γ  hq37) C hP hl.1 (by decide) mE0 rfl k4_222 qX6_here.1 qX6_here.2.1 qX6_here.2.2.1 qX6_here.2.2.2.1 rfl qX6_here.2.2.2.2 ⟨Nat.le_of_ble_eq_true rfl, Nat.le_of_ble_eq_true rfl⟩ ⟨Nat.le_refl 0, Nat.le_refl 0⟩ (Nat.le_of_ble_eq_true rfl) dX6_readStatement_260) hP (fun H locs hP => ?_)
    refine lv_bipush (v := nI 59) hx hb dX6_readStatement_263 rfl ?_
    refine lv_icmp_eq (tgt := 272) hx hb dX6_readStatement_265 (by decide) (fun hc38 => ?_) (fun hc38 => ?_)
    · have hf := if_t hc38 hf
      refine lv_iconst (v := nI 0) hx hb dX6_readStatement_272 rfl ?_
      exact wX6_readStatement_273 C    S37 (nI 0)  hf _ _ _ hP (lv_sub hl [0] rfl)
    · have hf := if_f hc38 hf
      exact wX6_readStatement_268 C    S37   hf _ _ _ hP (lv_sub hl [0] rfl)
def fX6_readStatement_191   : Nat → mM → Int32 → Int32 → Option mM
  | 0, _, _, _ => none
  | n + 1, S, x1, x2 =>
    if (S.1 0 20) = 0 then if x2 = (nI 108) then bd (fX6_here S) fun v40 S40 => ( bd (fX6_in S40 v40.toInt64 48 57) fun v41 S41 => ( if v41 = 0 then fX6_readStatement_234    S41 x1 else sv (mS S41 0 19 ((S41.1 0 19) + (nI 1))) fun S43 => ( (fX6_readStatement_191   n) S43 x1 x2))) else fX6_readStatement_234    S x1 else fX6_readStatement_234    S x1
set_option maxHeartbeats 4000000 in
set_option maxRecDepth 100000 in
theorem wX6_readStatement_191 {p : Program} {l : Launch} {e : Env} {s : State} {m : MethodId} {args : Array Value} {below : List Frame} {meth : Method} {c : Code} {Γ : gG} {Sz : mM} (C : Cx Γ 28 p s m args meth c RX6 cX6_readStatement 3 none)   : ∀ n : Nat, ∀ (S : mM) (x1 : Int32) (x2 : Int32) , fX6_readStatement_191   n S x1 x2 = some Sz → ∀ (H : Heap) (locs : List Loc) (ls : Array Slot), St Γ 28 (mE Γ S) s.heap H locs → lv_has ls 3 [(0, .ref (Γ.2.2 (0))), (1, .int x1), (2, .int x2)] → W p l e { frames := 2, cells := 0, slots := 0, locals := 45 } s m args below meth c H locs 0 0 (MQ below (gQv Γ 28 (mE Γ Sz)) args s 0 0 (wA Γ 28)) (F0 m 191 ls []) := by
  obtain ⟨hx, hb, -, -, hown, hts, -, hwx, -⟩ := id C
  intro n
  induction n with
  | zero =>
    intro S x1 x2 hf
    unfold fX6_readStatement_191 at hf
    cases hf
  | succ n ih =>
    intro S x1 x2 hf H locs ls hP hl
    unfold fX6_readStatement_191 at hf
    refine lv_aload_n hx hb dX6_readStatement_191 rfl (lv_at hl 0 rfl) ?_
    refine m_get C hP 20 (by decide) k4_73 rfl (v := .int (S.1 0 20)) rfl dX6_readStatement_192 ?_
    refine lv_if_ne (tgt := 234) hx hb dX6_readStatement_195 (by decide) (fun hc25 => ?_) (fun hc25 => ?_)
    · have hf := if_f hc25 hf
      exact wX6_readStatement_234 C    S x1  hf _ _ _ hP (lv_sub hl [0, 1] rfl)
    · have hf := if_t hc25 hf
      refine lv_iload_n hx hb dX6_readStatement_198 rfl (lv_at hl 2 rfl) ?_
      refine lv_bipush (v := nI 108) hx hb dX6_readStatement_199 rfl ?_
      refine lv_icmp_ne (tgt := 234) hx hb dX6_readStatement_201 (by decide) (fun hc39 => ?_) (fun hc39 => ?_)
      · have hf := if_f hc39 hf
        exact wX6_readStatement_234 C    S x1  hf _ _ _ hP (lv_sub hl [0, 1] rfl)
      · have hf := if_t hc39 hf
        refine lv_aload_n hx hb dX6_readStatement_204 rfl (lv_at hl 0 rfl) ?_
        refine bd_i hf (fun v40 S40 hq40 hf => ?_)
        refine goI (runV (rest := []) (b := 0) (mX6_here l Γ  hq40) C hP hl.1 (by decide) mE0 rfl k4_222 qX6_here.1 qX6_here.2.1 qX6_here.2.2.1 qX6_here.2.2.2.1 rfl qX6_here.2.2.2.2 ⟨Nat.le_of_ble_eq_true rfl, Nat.le_of_ble_eq_true rfl⟩ ⟨Nat.le_refl 0, Nat.le_refl 0⟩ (Nat.le_of_ble_eq_true rfl) dX6_readStatement_205) hP (fun H locs hP => ?_)
        refine lv_i2l (v := v40.toInt64) hx hb dX6_readStatement_208 rfl ?_
        refine lv_ldc2 (v := 48) hx hb hown (hts _ k4_230) dX6_readStatement_209 ?_
        refine lv_ldc2 (v := 57) hx hb hown (hts _ k4_231) dX6_readStatement_212 ?_
        refine bd_i hf (fun v41 S41 hq41 hf => ?_)
        refine goI (runS (rest := []) (mX6_in l Γ  hq41) C hP hl.1 k4_215 qX6_in.1 qX6_in.2.1 qX6_in.2.2.1 rfl qX6_in.2.2.2 ⟨Nat.le_of_ble_eq_true rfl, Nat.le_of_ble_eq_true rfl⟩ ⟨Nat.le_refl 0, Nat.le_refl 0⟩ (Nat.le_of_ble_eq_true rfl) dX6_readStatement_215) hP (fun H locs hP => ?_)
        refine lv_if_eq (tgt := 234) hx hb dX6_readStatement_218 (by decide) (fun hc42 => ?_) (fun hc42 => ?_)
        · have hf := if_t hc42 hf
          exact wX6_readStatement_234 C    S41 x1  hf _ _ _ hP (lv_sub hl [0, 1] rfl)
        · have hf := if_f hc42 hf
          refine lv_aload_n hx hb dX6_readStatement_221 rfl (lv_at hl 0 rfl) ?_
          refine lv_dup hx hb dX6_readStatement_222 rfl ?_
          refine m_get C hP 19 (by decide) k4_72 rfl (v := .int (S41.1 0 19)) rfl dX6_readStatement_223 ?_
          refine lv_iconst (v := nI 1) hx hb dX6_readStatement_226 rfl ?_
          refine lv_iadd hx hb dX6_readStatement_227 ?_
          refine m_put C hP 19 (by decide) k4_72 dX6_readStatement_228 (fun H locs hP => ?_)
          refine sv_i hf (fun S43 e43 hf => ?_)
          rw [← e43] at hP
          refine lv_goto (tgt := 191) hx hb dX6_readStatement_231 (by decide) ?_
          exact ih S43 x1 x2  hf _ _ _ hP (lv_sub hl [0, 1, 2] rfl)
def fX6_readStatement_181   (S : mM) (x1 : Int32) (x2 : Int32) : Option mM :=
  gi x1 51 (sv (mS S 14 ((x1).toNatClampNeg) (S.1 0 19)) fun S24 => ( fX6_readStatement_191   lF S24 x1 x2))
set_option maxHeartbeats 4000000 in
set_option maxRecDepth 100000 in
theorem wX6_readStatement_181 {p : Program} {l : Launch} {e : Env} {s : State} {m : MethodId} {args : Array Value} {below : List Frame} {meth : Method} {c : Code} {Γ : gG} {Sz : mM} (C : Cx Γ 28 p s m args meth c RX6 cX6_readStatement 3 none)   : ∀ (S : mM) (x1 : Int32) (x2 : Int32) , fX6_readStatement_181   S x1 x2 = some Sz → ∀ (H : Heap) (locs : List Loc) (ls : Array Slot), St Γ 28 (mE Γ S) s.heap H locs → lv_has ls 3 [(0, .ref (Γ.2.2 (0))), (1, .int x1), (2, .int x2)] → W p l e { frames := 2, cells := 0, slots := 0, locals := 45 } s m args below meth c H locs 0 0 (MQ below (gQv Γ 28 (mE Γ Sz)) args s 0 0 (wA Γ 28)) (F0 m 181 ls []) := by
  obtain ⟨hx, hb, -, -, hown, hts, -, hwx, -⟩ := id C
  intro S x1 x2 hf H locs ls hP hl
  unfold fX6_readStatement_181 at hf
  refine lv_aload_n hx hb dX6_readStatement_181 rfl (lv_at hl 0 rfl) ?_
  refine m_get C hP 26 (by decide) k4_79 rfl (v := .ref (Γ.2.2 (14))) rfl dX6_readStatement_182 ?_
  refine lv_iload_n hx hb dX6_readStatement_185 rfl (lv_at hl 1 rfl) ?_
  refine lv_aload_n hx hb dX6_readStatement_186 rfl (lv_at hl 0 rfl) ?_
  refine m_get C hP 19 (by decide) k4_72 rfl (v := .int (S.1 0 19)) rfl dX6_readStatement_187 ?_
  refine gi_i hf (fun hi22 hj23 hf => ?_)
  refine m_ist C hP mA_14 hi22 dX6_readStatement_190 (fun H locs hP => ?_)
  refine sv_i hf (fun S24 e24 hf => ?_)
  rw [← e24] at hP
  exact wX6_readStatement_191 C   lF S24 x1 x2  hf _ _ _ hP (lv_sub hl [0, 1, 2] rfl)
def fX6_readStatement_158   (S : mM) (x1 : Int32) (x2 : Int32) : Option mM :=
  if (S.1 0 20) = 0 then if x2 = (nI 109) then fX6_readStatement_181    S x1 x2 else bd (fX6_readDigit S) fun v45 S45 => ( gi x1 51 (sv (mS S45 13 ((x1).toNatClampNeg) v45) fun S48 => ( fX6_readStatement_181    S48 x1 x2))) else fX6_readStatement_181    S x1 x2
set_option maxHeartbeats 4000000 in
set_option maxRecDepth 100000 in
theorem wX6_readStatement_158 {p : Program} {l : Launch} {e : Env} {s : State} {m : MethodId} {args : Array Value} {below : List Frame} {meth : Method} {c : Code} {Γ : gG} {Sz : mM} (C : Cx Γ 28 p s m args meth c RX6 cX6_readStatement 3 none)   : ∀ (S : mM) (x1 : Int32) (x2 : Int32) , fX6_readStatement_158   S x1 x2 = some Sz → ∀ (H : Heap) (locs : List Loc) (ls : Array Slot), St Γ 28 (mE Γ S) s.heap H locs → lv_has ls 3 [(0, .ref (Γ.2.2 (0))), (1, .int x1), (2, .int x2)] → W p l e { frames := 2, cells := 0, slots := 0, locals := 45 } s m args below meth c H locs 0 0 (MQ below (gQv Γ 28 (mE Γ Sz)) args s 0 0 (wA Γ 28)) (F0 m 158 ls []) := by
  obtain ⟨hx, hb, -, -, hown, hts, -, hwx, -⟩ := id C
  intro S x1 x2 hf H locs ls hP hl
  unfold fX6_readStatement_158 at hf
  refine lv_aload_n hx hb dX6_readStatement_158 rfl (lv_at hl 0 rfl) ?_
  refine m_get C hP 20 (by decide) k4_73 rfl (v := .int (S.1 0 20)) rfl dX6_readStatement_159 ?_
  refine lv_if_ne (tgt := 181) hx hb dX6_readStatement_162 (by decide) (fun hc21 => ?_) (fun hc21 => ?_)
  · have hf := if_f hc21 hf
    exact wX6_readStatement_181 C    S x1 x2  hf _ _ _ hP (lv_sub hl [0, 1, 2] rfl)
  · have hf := if_t hc21 hf
    refine lv_iload_n hx hb dX6_readStatement_165 rfl (lv_at hl 2 rfl) ?_
    refine lv_bipush (v := nI 109) hx hb dX6_readStatement_166 rfl ?_
    refine lv_icmp_eq (tgt := 181) hx hb dX6_readStatement_168 (by decide) (fun hc44 => ?_) (fun hc44 => ?_)
    · have hf := if_t hc44 hf
      exact wX6_readStatement_181 C    S x1 x2  hf _ _ _ hP (lv_sub hl [0, 1, 2] rfl)
    · have hf := if_f hc44 hf
      refine lv_aload_n hx hb dX6_readStatement_171 rfl (lv_at hl 0 rfl) ?_
      refine m_get C hP 25 (by decide) k4_78 rfl (v := .ref (Γ.2.2 (13))) rfl dX6_readStatement_172 ?_
      refine lv_iload_n hx hb dX6_readStatement_175 rfl (lv_at hl 1 rfl) ?_
      refine lv_aload_n hx hb dX6_readStatement_176 rfl (lv_at hl 0 rfl) ?_
      refine bd_i hf (fun v45 S45 hq45 hf => ?_)
      refine goI (runV (rest := [.int x1, .ref (Γ.2.2 (13))]) (b := 0) (mX6_readDigit l Γ  hq45) C hP hl.1 (by decide) mE0 rfl k4_226 qX6_readDigit.1 qX6_readDigit.2.1 qX6_readDigit.2.2.1 qX6_readDigit.2.2.2.1 rfl qX6_readDigit.2.2.2.2 ⟨Nat.le_of_ble_eq_true rfl, Nat.le_of_ble_eq_true rfl⟩ ⟨Nat.le_refl 0, Nat.le_refl 0⟩ (Nat.le_of_ble_eq_true rfl) dX6_readStatement_177) hP (fun H locs hP => ?_)
      refine gi_i hf (fun hi46 hj47 hf => ?_)
      refine m_ist C hP mA_13 hi46 dX6_readStatement_180 (fun H locs hP => ?_)
      refine sv_i hf (fun S48 e48 hf => ?_)
      rw [← e48] at hP
      exact wX6_readStatement_181 C    S48 x1 x2  hf _ _ _ hP (lv_sub hl [0, 1, 2] rfl)
def fX6_readStatement_78   (S : mM) (x1 : Int32) (x2 : Int32) (y1 : Int32) (y2 : Int32) : Option mM :=
  sv (mS S 0 19 (y1 + y2)) fun S12 => ( bd (fX6_readDigit S12) fun v13 S13 => ( gi x1 51 (sv (mS S13 12 ((x1).toNatClampNeg) v13) fun S16 => ( gi x1 51 (sv (mS S16 13 ((x1).toNatClampNeg) (nI 0)) fun S19 => ( if (S19.1 0 20) = 0 then if x2 = (nI 109) then gi x1 51 (if (S19.1 12 (x1).toNatClampNeg) ≤ 0 then fX6_readStatement_158    S19 x1 x2 else bd (fX6_here S19) fun v53 S53 => ( bd (fX6_in S53 v53.toInt64 48 57) fun v54 S54 => ( if v54 = 0 then fX6_readStatement_158    S54 x1 x2 else gi x1 51 (bd (fX6_readDigit S54) fun v58 S58 => ( gi x1 51 (sv (mS S58 12 ((x1).toNatClampNeg) (((nI 10) * (S54.1 12 (x1).toNatClampNeg)) + v58)) fun S61 => ( fX6_readStatement_158    S61 x1 x2))))))) else fX6_readStatement_158    S19 x1 x2 else fX6_readStatement_158    S19 x1 x2))))))
set_option maxHeartbeats 4000000 in
set_option maxRecDepth 100000 in
theorem wX6_readStatement_78 {p : Program} {l : Launch} {e : Env} {s : State} {m : MethodId} {args : Array Value} {below : List Frame} {meth : Method} {c : Code} {Γ : gG} {Sz : mM} (C : Cx Γ 28 p s m args meth c RX6 cX6_readStatement 3 none)   : ∀ (S : mM) (x1 : Int32) (x2 : Int32) (y1 : Int32) (y2 : Int32) , fX6_readStatement_78   S x1 x2 y1 y2 = some Sz → ∀ (H : Heap) (locs : List Loc) (ls : Array Slot), St Γ 28 (mE Γ S) s.heap H locs → lv_has ls 3 [(0, .ref (Γ.2.2 (0))), (1, .int x1), (2, .int x2)] → W p l e { frames := 2, cells := 0, slots := 0, locals := 45 } s m args below meth c H locs 0 0 (MQ below (gQv Γ 28 (mE Γ Sz)) args s 0 0 (wA Γ 28)) (F0 m 78 ls [.int y2, .int y1, .ref (Γ.2.2 (0))]) := by
  obtain ⟨hx, hb, -, -, hown, hts, -, hwx, -⟩ := id C
  intro S x1 x2 y1 y2 hf H locs ls hP hl
  unfold fX6_readStatement_78 at hf
  refine lv_iadd hx hb dX6_readStatement_78 ?_
  refine m_put C hP 19 (by decide) k4_72 dX6_readStatement_79 (fun H locs hP => ?_)
  refine sv_i hf (fun S12 e12 hf => ?_)
  rw [← e12] at hP
  refine lv_aload_n hx hb dX6_readStatement_82 rfl (lv_at hl 0 rfl) ?_
  refine m_get C hP 24 (by decide) k4_77 rfl (v := .ref (Γ.2.2 (12))) rfl dX6_readStatement_83 ?_
  refine lv_iload_n hx hb dX6_readStatement_86 rfl (lv_at hl 1 rfl) ?_
  refine lv_aload_n hx hb dX6_readStatement_87 rfl (lv_at hl 0 rfl) ?_
  refine bd_i hf (fun v13 S13 hq13 hf => ?_)
  refine goI (runV (rest := [.int x1, .ref (Γ.2.2 (12))]) (b := 0) (mX6_readDigit l Γ  hq13) C hP hl.1 (by decide) mE0 rfl k4_226 qX6_readDigit.1 qX6_readDigit.2.1 qX6_readDigit.2.2.1 qX6_readDigit.2.2.2.1 rfl qX6_readDigit.2.2.2.2 ⟨Nat.le_of_ble_eq_true rfl, Nat.le_of_ble_eq_true rfl⟩ ⟨Nat.le_refl 0, Nat.le_refl 0⟩ (Nat.le_of_ble_eq_true rfl) dX6_readStatement_88) hP (fun H locs hP => ?_)
  refine gi_i hf (fun hi14 hj15 hf => ?_)
  refine m_ist C hP mA_12 hi14 dX6_readStatement_91 (fun H locs hP => ?_)
  refine sv_i hf (fun S16 e16 hf => ?_)
  rw [← e16] at hP
  refine lv_aload_n hx hb dX6_readStatement_92 rfl (lv_at hl 0 rfl) ?_
  refine m_get C hP 25 (by decide) k4_78 rfl (v := .ref (Γ.2.2 (13))) rfl dX6_readStatement_93 ?_
  refine lv_iload_n hx hb dX6_readStatement_96 rfl (lv_at hl 1 rfl) ?_
  refine lv_iconst (v := nI 0) hx hb dX6_readStatement_97 rfl ?_
  refine gi_i hf (fun hi17 hj18 hf => ?_)
  refine m_ist C hP mA_13 hi17 dX6_readStatement_98 (fun H locs hP => ?_)
  refine sv_i hf (fun S19 e19 hf => ?_)
  rw [← e19] at hP
  refine lv_aload_n hx hb dX6_readStatement_99 rfl (lv_at hl 0 rfl) ?_
  refine m_get C hP 20 (by decide) k4_73 rfl (v := .int (S19.1 0 20)) rfl dX6_readStatement_100 ?_
  refine lv_if_ne (tgt := 158) hx hb dX6_readStatement_103 (by decide) (fun hc20 => ?_) (fun hc20 => ?_)
  · have hf := if_f hc20 hf
    exact wX6_readStatement_158 C    S19 x1 x2  hf _ _ _ hP (lv_sub hl [0, 1, 2] rfl)
  · have hf := if_t hc20 hf
    refine lv_iload_n hx hb dX6_readStatement_106 rfl (lv_at hl 2 rfl) ?_
    refine lv_bipush (v := nI 109) hx hb dX6_readStatement_107 rfl ?_
    refine lv_icmp_ne (tgt := 158) hx hb dX6_readStatement_109 (by decide) (fun hc49 => ?_) (fun hc49 => ?_)
    · have hf := if_f hc49 hf
      exact wX6_readStatement_158 C    S19 x1 x2  hf _ _ _ hP (lv_sub hl [0, 1, 2] rfl)
    · have hf := if_t hc49 hf
      refine lv_aload_n hx hb dX6_readStatement_112 rfl (lv_at hl 0 rfl) ?_
      refine m_get C hP 24 (by decide) k4_77 rfl (v := .ref (Γ.2.2 (12))) rfl dX6_readStatement_113 ?_
      refine lv_iload_n hx hb dX6_readStatement_116 rfl (lv_at hl 1 rfl) ?_
      refine gi_i hf (fun hi50 hj51 hf => ?_)
      refine m_ild C hP mA_12 hi50 dX6_readStatement_117 ?_
      refine lv_if_le (tgt := 158) hx hb dX6_readStatement_118 (by decide) (fun hc52 => ?_) (fun hc52 => ?_)
      · have hf := if_t hc52 hf
        exact wX6_readStatement_158 C    S19 x1 x2  hf _ _ _ hP (lv_sub hl [0, 1, 2] rfl)
      · have hf := if_f hc52 hf
        refine lv_aload_n hx hb dX6_readStatement_121 rfl (lv_at hl 0 rfl) ?_
        refine bd_i hf (fun v53 S53 hq53 hf => ?_)
        refine goI (runV (rest := []) (b := 0) (mX6_here l Γ  hq53) C hP hl.1 (by decide) mE0 rfl k4_222 qX6_here.1 qX6_here.2.1 qX6_here.2.2.1 qX6_here.2.2.2.1 rfl qX6_here.2.2.2.2 ⟨Nat.le_of_ble_eq_true rfl, Nat.le_of_ble_eq_true rfl⟩ ⟨Nat.le_refl 0, Nat.le_refl 0⟩ (Nat.le_of_ble_eq_true rfl) dX6_readStatement_122) hP (fun H locs hP => ?_)
        refine lv_i2l (v := v53.toInt64) hx hb dX6_readStatement_125 rfl ?_
        refine lv_ldc2 (v := 48) hx hb hown (hts _ k4_230) dX6_readStatement_126 ?_
        refine lv_ldc2 (v := 57) hx hb hown (hts _ k4_231) dX6_readStatement_129 ?_
        refine bd_i hf (fun v54 S54 hq54 hf => ?_)
        refine goI (runS (rest := []) (mX6_in l Γ  hq54) C hP hl.1 k4_215 qX6_in.1 qX6_in.2.1 qX6_in.2.2.1 rfl qX6_in.2.2.2 ⟨Nat.le_of_ble_eq_true rfl, Nat.le_of_ble_eq_true rfl⟩ ⟨Nat.le_refl 0, Nat.le_refl 0⟩ (Nat.le_of_ble_eq_true rfl) dX6_readStatement_132) hP (fun H locs hP => ?_)
        refine lv_if_eq (tgt := 158) hx hb dX6_readStatement_135 (by decide) (fun hc55 => ?_) (fun hc55 => ?_)
        · have hf := if_t hc55 hf
          exact wX6_readStatement_158 C    S54 x1 x2  hf _ _ _ hP (lv_sub hl [0, 1, 2] rfl)
        · have hf := if_f hc55 hf
          refine lv_aload_n hx hb dX6_readStatement_138 rfl (lv_at hl 0 rfl) ?_
          refine m_get C hP 24 (by decide) k4_77 rfl (v := .ref (Γ.2.2 (12))) rfl dX6_readStatement_139 ?_
          refine lv_iload_n hx hb dX6_readStatement_142 rfl (lv_at hl 1 rfl) ?_
          refine lv_bipush (v := nI 10) hx hb dX6_readStatement_143 rfl ?_
          refine lv_aload_n hx hb dX6_readStatement_145 rfl (lv_at hl 0 rfl) ?_
          refine m_get C hP 24 (by decide) k4_77 rfl (v := .ref (Γ.2.2 (12))) rfl dX6_readStatement_146 ?_
          refine lv_iload_n hx hb dX6_readStatement_149 rfl (lv_at hl 1 rfl) ?_
          refine gi_i hf (fun hi56 hj57 hf => ?_)
          refine m_ild C hP mA_12 hi56 dX6_readStatement_150 ?_
          refine lv_imul hx hb dX6_readStatement_151 ?_
          refine lv_aload_n hx hb dX6_readStatement_152 rfl (lv_at hl 0 rfl) ?_
          refine bd_i hf (fun v58 S58 hq58 hf => ?_)
          refine goI (runV (rest := [.int ((nI 10) * (S54.1 12 (x1).toNatClampNeg)), .int x1, .ref (Γ.2.2 (12))]) (b := 0) (mX6_readDigit l Γ  hq58) C hP hl.1 (by decide) mE0 rfl k4_226 qX6_readDigit.1 qX6_readDigit.2.1 qX6_readDigit.2.2.1 qX6_readDigit.2.2.2.1 rfl qX6_readDigit.2.2.2.2 ⟨Nat.le_of_ble_eq_true rfl, Nat.le_of_ble_eq_true rfl⟩ ⟨Nat.le_refl 0, Nat.le_refl 0⟩ (Nat.le_of_ble_eq_true rfl) dX6_readStatement_153) hP (fun H locs hP => ?_)
          refine lv_iadd hx hb dX6_readStatement_156 ?_
          refine gi_i hf (fun hi59 hj60 hf => ?_)
          refine m_ist C hP mA_12 hi59 dX6_readStatement_157 (fun H locs hP => ?_)
          refine sv_i hf (fun S61 e61 hf => ?_)
          rw [← e61] at hP
          exact wX6_readStatement_158 C    S61 x1 x2  hf _ _ _ hP (lv_sub hl [0, 1, 2] rfl)
def fX6_readStatement_58   (S : mM) (x1 : Int32) (x2 : Int32) (y1 : Int32) : Option mM :=
  gb y1 (sv (mS S 0 20 y1) fun S10 => ( if (S10.1 0 20) = 0 then fX6_readStatement_78    S10 x1 x2 (S10.1 0 19) (nI 1) else fX6_readStatement_78    S10 x1 x2 (S10.1 0 19) (nI 0)))
set_option maxHeartbeats 4000000 in
set_option maxRecDepth 100000 in
theorem wX6_readStatement_58 {p : Program} {l : Launch} {e : Env} {s : State} {m : MethodId} {args : Array Value} {below : List Frame} {meth : Method} {c : Code} {Γ : gG} {Sz : mM} (C : Cx Γ 28 p s m args meth c RX6 cX6_readStatement 3 none)   : ∀ (S : mM) (x1 : Int32) (x2 : Int32) (y1 : Int32) , fX6_readStatement_58   S x1 x2 y1 = some Sz → ∀ (H : Heap) (locs : List Loc) (ls : Array Slot), St Γ 28 (mE Γ S) s.heap H locs → lv_has ls 3 [(0, .ref (Γ.2.2 (0))), (1, .int x1), (2, .int x2)] → W p l e { frames := 2, cells := 0, slots := 0, locals := 45 } s m args below meth c H locs 0 0 (MQ below (gQv Γ 28 (mE Γ Sz)) args s 0 0 (wA Γ 28)) (F0 m 58 ls [.int y1, .ref (Γ.2.2 (0))]) := by
  obtain ⟨hx, hb, -, -, hown, hts, -, hwx, -⟩ := id C
  intro S x1 x2 y1 hf H locs ls hP hl
  unfold fX6_readStatement_58 at hf
  refine gb_i hf (fun hz9 hf => ?_)
  refine m_putZ C hP 20 (by decide) k4_73 hz9 dX6_readStatement_58 (fun H locs hP => ?_)
  refine sv_i hf (fun S10 e10 hf => ?_)
  rw [← e10] at hP
  refine lv_aload_n hx hb dX6_readStatement_61 rfl (lv_at hl 0 rfl) ?_
  refine lv_dup hx hb dX6_readStatement_62 rfl ?_
  refine m_get C hP 19 (by decide) k4_72 rfl (v := .int (S10.1 0 19)) rfl dX6_readStatement_63 ?_
  refine lv_aload_n hx hb dX6_readStatement_66 rfl (lv_at hl 0 rfl) ?_
  refine m_get C hP 20 (by decide) k4_73 rfl (v := .int (S10.1 0 20)) rfl dX6_readStatement_67 ?_
  refine lv_if_eq (tgt := 77) hx hb dX6_readStatement_70 (by decide) (fun hc11 => ?_) (fun hc11 => ?_)
  · have hf := if_t hc11 hf
    refine lv_iconst (v := nI 1) hx hb dX6_readStatement_77 rfl ?_
    exact wX6_readStatement_78 C    S10 x1 x2 (S10.1 0 19) (nI 1)  hf _ _ _ hP (lv_sub hl [0, 1, 2] rfl)
  · have hf := if_f hc11 hf
    refine lv_iconst (v := nI 0) hx hb dX6_readStatement_73 rfl ?_
    refine lv_goto (tgt := 78) hx hb dX6_readStatement_74 (by decide) ?_
    exact wX6_readStatement_78 C    S10 x1 x2 (S10.1 0 19) (nI 0)  hf _ _ _ hP (lv_sub hl [0, 1, 2] rfl)
def fX6_readStatement_53   (S : mM) (x1 : Int32) (x2 : Int32) : Option mM :=
  fX6_readStatement_58    S x1 x2 (nI 1)
set_option maxHeartbeats 4000000 in
set_option maxRecDepth 100000 in
theorem wX6_readStatement_53 {p : Program} {l : Launch} {e : Env} {s : State} {m : MethodId} {args : Array Value} {below : List Frame} {meth : Method} {c : Code} {Γ : gG} {Sz : mM} (C : Cx Γ 28 p s m args meth c RX6 cX6_readStatement 3 none)   : ∀ (S : mM) (x1 : Int32) (x2 : Int32) , fX6_readStatement_53   S x1 x2 = some Sz → ∀ (H : Heap) (locs : List Loc) (ls : Array Slot), St Γ 28 (mE Γ S) s.heap H locs → lv_has ls 3 [(0, .ref (Γ.2.2 (0))), (1, .int x1), (2, .int x2)] → W p l e { frames := 2, cells := 0, slots := 0, locals := 45 } s m args below meth c H locs 0 0 (MQ below (gQv Γ 28 (mE Γ Sz)) args s 0 0 (wA Γ 28)) (F0 m 53 ls [.ref (Γ.2.2 (0))]) := by
  obtain ⟨hx, hb, -, -, hown, hts, -, hwx, -⟩ := id C
  intro S x1 x2 hf H locs ls hP hl
  unfold fX6_readStatement_53 at hf
  refine lv_iconst (v := nI 1) hx hb dX6_readStatement_53 rfl ?_
  refine lv_goto (tgt := 58) hx hb dX6_readStatement_54 (by decide) ?_
  exact wX6_readStatement_58 C    S x1 x2 (nI 1)  hf _ _ _ hP (lv_sub hl [0, 1, 2] rfl)
def fX6_readStatement_57   (S : mM) (x1 : Int32) (x2 : Int32) : Option mM :=
  fX6_readStatement_58    S x1 x2 (nI 0)
set_option maxHeartbeats 4000000 in
set_option maxRecDepth 100000 in
theorem wX6_readStatement_57 {p : Program} {l : Launch} {e : Env} {s : State} {m : MethodId} {args : Array Value} {below : List Frame} {meth : Method} {c : Code} {Γ : gG} {Sz : mM} (C : Cx Γ 28 p s m args meth c RX6 cX6_readStatement 3 none)   : ∀ (S : mM) (x1 : Int32) (x2 : Int32) , fX6_readStatement_57   S x1 x2 = some Sz → ∀ (H : Heap) (locs : List Loc) (ls : Array Slot), St Γ 28 (mE Γ S) s.heap H locs → lv_has ls 3 [(0, .ref (Γ.2.2 (0))), (1, .int x1), (2, .int x2)] → W p l e { frames := 2, cells := 0, slots := 0, locals := 45 } s m args below meth c H locs 0 0 (MQ below (gQv Γ 28 (mE Γ Sz)) args s 0 0 (wA Γ 28)) (F0 m 57 ls [.ref (Γ.2.2 (0))]) := by
  obtain ⟨hx, hb, -, -, hown, hts, -, hwx, -⟩ := id C
  intro S x1 x2 hf H locs ls hP hl
  unfold fX6_readStatement_57 at hf
  refine lv_iconst (v := nI 0) hx hb dX6_readStatement_57 rfl ?_
  exact wX6_readStatement_58 C    S x1 x2 (nI 0)  hf _ _ _ hP (lv_sub hl [0, 1, 2] rfl)
def fX6_readStatement  (S : mM)  : Option mM :=
  bd (fX6_here S) fun v1 S1 => ( gi (S.1 0 21) 51 (sv (mS S1 10 ((S.1 0 21).toNatClampNeg) (S1.1 0 19)) fun S4 => ( gi (S.1 0 21) 51 (sv (mS S4 11 ((S.1 0 21).toNatClampNeg) v1) fun S7 => ( if (S7.1 0 20) = 0 then if v1 = (nI 108) then fX6_readStatement_57    S7 (S.1 0 21) v1 else if v1 = (nI 99) then fX6_readStatement_57    S7 (S.1 0 21) v1 else if v1 = (nI 109) then fX6_readStatement_57    S7 (S.1 0 21) v1 else fX6_readStatement_53    S7 (S.1 0 21) v1 else fX6_readStatement_53    S7 (S.1 0 21) v1)))))
set_option maxHeartbeats 4000000 in
set_option maxRecDepth 100000 in
theorem mX6_readStatement (l : Launch) (Γ : gG)   {S : mM}  {Sz : mM} (hf : fX6_readStatement S = some Sz) : CtV l Γ 28 yX6_readStatement cX6_readStatement 3 2 45 [.ref (Γ.2.2 (0))] (mE Γ S) (mE Γ Sz) := by
  refine met_body (Γ := Γ) (lv := [(0, .ref (Γ.2.2 (0)))]) RX6 (by decide) rfl rfl rfl ?_
  intro p e s m below meth c H locs ls C hP hl
  obtain ⟨hx, hb, -, -, hown, hts, -, hwx, -⟩ := id C
  unfold fX6_readStatement at hf
  refine lv_aload_n hx hb dX6_readStatement_0 rfl (lv_at hl 0 rfl) ?_
  refine m_get C hP 21 (by decide) k4_74 rfl (v := .int (S.1 0 21)) rfl dX6_readStatement_1 ?_
  refine lv_istore_n (lv' := [(1, .int (S.1 0 21)), (0, .ref (Γ.2.2 (0)))]) hx hb dX6_readStatement_4 rfl hl (by decide) rfl (fun ls hl => ?_)
  refine lv_aload_n hx hb dX6_readStatement_5 rfl (lv_at hl 1 rfl) ?_
  refine bd_i hf (fun v1 S1 hq1 hf => ?_)
  refine goI (runV (rest := []) (b := 0) (mX6_here l Γ  hq1) C hP hl.1 (by decide) mE0 rfl k4_222 qX6_here.1 qX6_here.2.1 qX6_here.2.2.1 qX6_here.2.2.2.1 rfl qX6_here.2.2.2.2 ⟨Nat.le_of_ble_eq_true rfl, Nat.le_of_ble_eq_true rfl⟩ ⟨Nat.le_refl 0, Nat.le_refl 0⟩ (Nat.le_of_ble_eq_true rfl) dX6_readStatement_6) hP (fun H locs hP => ?_)
  refine lv_istore_n (lv' := [(2, .int v1), (1, .int (S.1 0 21)), (0, .ref (Γ.2.2 (0)))]) hx hb dX6_readStatement_9 rfl hl (by decide) rfl (fun ls hl => ?_)
  refine lv_aload_n hx hb dX6_readStatement_10 rfl (lv_at hl 2 rfl) ?_
  refine m_get C hP 22 (by decide) k4_75 rfl (v := .ref (Γ.2.2 (10))) rfl dX6_readStatement_11 ?_
  refine lv_iload_n hx hb dX6_readStatement_14 rfl (lv_at hl 1 rfl) ?_
  refine lv_aload_n hx hb dX6_readStatement_15 rfl (lv_at hl 2 rfl) ?_
  refine m_get C hP 19 (by decide) k4_72 rfl (v := .int (S1.1 0 19)) rfl dX6_readStatement_16 ?_
  refine gi_i hf (fun hi2 hj3 hf => ?_)
  refine m_ist C hP mA_10 hi2 dX6_readStatement_19 (fun H locs hP => ?_)
  refine sv_i hf (fun S4 e4 hf => ?_)
  rw [← e4] at hP
  refine lv_aload_n hx hb dX6_readStatement_20 rfl (lv_at hl 2 rfl) ?_
  refine m_get C hP 23 (by decide) k4_76 rfl (v := .ref (Γ.2.2 (11))) rfl dX6_readStatement_21 ?_
  refine lv_iload_n hx hb dX6_readStatement_24 rfl (lv_at hl 1 rfl) ?_
  refine lv_iload_n hx hb dX6_readStatement_25 rfl (lv_at hl 0 rfl) ?_
  refine gi_i hf (fun hi5 hj6 hf => ?_)
  refine m_ist C hP mA_11 hi5 dX6_readStatement_26 (fun H locs hP => ?_)
  refine sv_i hf (fun S7 e7 hf => ?_)
  rw [← e7] at hP
  refine lv_aload_n hx hb dX6_readStatement_27 rfl (lv_at hl 2 rfl) ?_
  refine lv_aload_n hx hb dX6_readStatement_28 rfl (lv_at hl 2 rfl) ?_
  refine m_get C hP 20 (by decide) k4_73 rfl (v := .int (S7.1 0 20)) rfl dX6_readStatement_29 ?_
  refine lv_if_ne (tgt := 53) hx hb dX6_readStatement_32 (by decide) (fun hc8 => ?_) (fun hc8 => ?_)
  · have hf := if_f hc8 hf
    exact wX6_readStatement_53 C    S7 (S.1 0 21) v1  hf _ _ _ hP (lv_sub hl [2, 1, 0] rfl)
  · have hf := if_t hc8 hf
    refine lv_iload_n hx hb dX6_readStatement_35 rfl (lv_at hl 0 rfl) ?_
    refine lv_bipush (v := nI 108) hx hb dX6_readStatement_36 rfl ?_
    refine lv_icmp_eq (tgt := 57) hx hb dX6_readStatement_38 (by decide) (fun hc62 => ?_) (fun hc62 => ?_)
    · have hf := if_t hc62 hf
      exact wX6_readStatement_57 C    S7 (S.1 0 21) v1  hf _ _ _ hP (lv_sub hl [2, 1, 0] rfl)
    · have hf := if_f hc62 hf
      refine lv_iload_n hx hb dX6_readStatement_41 rfl (lv_at hl 0 rfl) ?_
      refine lv_bipush (v := nI 99) hx hb dX6_readStatement_42 rfl ?_
      refine lv_icmp_eq (tgt := 57) hx hb dX6_readStatement_44 (by decide) (fun hc63 => ?_) (fun hc63 => ?_)
      · have hf := if_t hc63 hf
        exact wX6_readStatement_57 C    S7 (S.1 0 21) v1  hf _ _ _ hP (lv_sub hl [2, 1, 0] rfl)
      · have hf := if_f hc63 hf
        refine lv_iload_n hx hb dX6_readStatement_47 rfl (lv_at hl 0 rfl) ?_
        refine lv_bipush (v := nI 109) hx hb dX6_readStatement_48 rfl ?_
        refine lv_icmp_eq (tgt := 57) hx hb dX6_readStatement_50 (by decide) (fun hc64 => ?_) (fun hc64 => ?_)
        · have hf := if_t hc64 hf
          exact wX6_readStatement_57 C    S7 (S.1 0 21) v1  hf _ _ _ hP (lv_sub hl [2, 1, 0] rfl)
        · have hf := if_f hc64 hf
          exact wX6_readStatement_53 C    S7 (S.1 0 21) v1  hf _ _ _ hP (lv_sub hl [2, 1, 0] rfl)
-- X6_laneComes
theorem qX6_laneComes : Cond.instanceMethod yX6_laneComes ∈ Ub ∧ Cond.selects RX6 yX6_laneComes yX6_laneComes ∈ Ub ∧ Cond.initialized RX6 ∈ Ub ∧ Cond.code yX6_laneComes cX6_laneComes 5 (some FieldType.boolean) ∈ Ub ∧ (yX6_laneComes.cls = RX6 ∧ yX6_laneComes.cls ≠ "java/lang/invoke/MethodHandle" ∧ yX6_laneComes.cls ≠ "java/lang/invoke/VarHandle" ∧ (parseMethodDescriptor yX6_laneComes.desc).map (fun d => d.parameters.length) = some 1) := ⟨k5_2, ks_32, k1_5, k5_3, by decide +kernel⟩
def fX6_laneComes_161  (K96 : mM → Int32 → Int32 → Int32 → Option (Int32 × mM)) (S : mM) (x1 : Int32) (x2 : Int32) (x3 : Int32) (y1 : Int32) (y2 : Int32) : Option (Int32 × mM) :=
  bv (fX6_comeIn S y1 y2) fun S38 => ( K96 S38 x1 x2 (x3 + (nI 1)))
set_option maxHeartbeats 4000000 in
set_option maxRecDepth 100000 in
theorem wX6_laneComes_161 {p : Program} {l : Launch} {e : Env} {s : State} {m : MethodId} {args : Array Value} {below : List Frame} {meth : Method} {c : Code} {Γ : gG} {rz : Int32} {Sz : mM} (C : Cx Γ 28 p s m args meth c RX6 cX6_laneComes 5 (some .boolean))  {K96 : mM → Int32 → Int32 → Int32 → Option (Int32 × mM)} (hK96 : ∀ (S : mM) (x1 : Int32) (x2 : Int32) (x3 : Int32) , K96 S x1 x2 x3 = some (rz, Sz) → ∀ (H : Heap) (locs : List Loc) (ls : Array Slot), St Γ 28 (mE Γ S) s.heap H locs → lv_has ls 5 [(0, .ref (Γ.2.2 (0))), (1, .int x1), (2, .int x2), (3, .int x3)] → W p l e { frames := 4, cells := 0, slots := 0, locals := 87 } s m args below meth c H locs 0 0 (MQ below (gQi Γ 28 rz (mE Γ Sz)) args s 0 0 (wA Γ 28)) (F0 m 96 ls [])) : ∀ (S : mM) (x1 : Int32) (x2 : Int32) (x3 : Int32) (y1 : Int32) (y2 : Int32) , fX6_laneComes_161  K96 S x1 x2 x3 y1 y2 = some (rz, Sz) → ∀ (H : Heap) (locs : List Loc) (ls : Array Slot), St Γ 28 (mE Γ S) s.heap H locs → lv_has ls 5 [(0, .ref (Γ.2.2 (0))), (1, .int x1), (2, .int x2), (3, .int x3)] → W p l e { frames := 4, cells := 0, slots := 0, locals := 87 } s m args below meth c H locs 0 0 (MQ below (gQi Γ 28 rz (mE Γ Sz)) args s 0 0 (wA Γ 28)) (F0 m 161 ls [.int y2, .int y1, .ref (Γ.2.2 (0))]) := by
  obtain ⟨hx, hb, -, -, hown, hts, -, hwx, -⟩ := id C
  intro S x1 x2 x3 y1 y2 hf H locs ls hP hl
  unfold fX6_laneComes_161 at hf
  refine bv_i hf (fun S38 hq38 hf => ?_)
  refine goV (runV (rest := []) (b := 0) (mX6_comeIn l Γ  hq38) C hP hl.1 (by decide) mE0 rfl k5_4 qX6_comeIn.1 qX6_comeIn.2.1 qX6_comeIn.2.2.1 qX6_comeIn.2.2.2.1 rfl qX6_comeIn.2.2.2.2 ⟨Nat.le_of_ble_eq_true rfl, Nat.le_of_ble_eq_true rfl⟩ ⟨Nat.le_refl 0, Nat.le_refl 0⟩ (Nat.le_of_ble_eq_true rfl) dX6_laneComes_161) hP (fun H locs hP => ?_)
  refine lv_iinc (v := x3 + (nI 1)) (lv' := [(3, .int (x3 + (nI 1))), (0, .ref (Γ.2.2 (0))), (1, .int x1), (2, .int x2)]) hx hb dX6_laneComes_164 hl (k := 3) rfl rfl (by decide) rfl (fun ls hl => ?_)
  refine lv_goto (tgt := 96) hx hb dX6_laneComes_167 (by decide) ?_
  exact hK96 S38 x1 x2 (x3 + (nI 1))  hf _ _ _ hP (lv_sub hl [1, 2, 3, 0] rfl)
def fX6_laneComes_145  (K96 : mM → Int32 → Int32 → Int32 → Option (Int32 × mM)) (S : mM) (x1 : Int32) (x3 : Int32) (x4 : Int32) (y0 : Int32) : Option (Int32 × mM) :=
  if y0 = 0 then fX6_laneComes_161  K96  S x1 y0 x3 (S.1 0 0) (nI 0) else fX6_laneComes_161  K96  S x1 y0 x3 (S.1 0 0) x4
set_option maxHeartbeats 4000000 in
set_option maxRecDepth 100000 in
theorem wX6_laneComes_145 {p : Program} {l : Launch} {e : Env} {s : State} {m : MethodId} {args : Array Value} {below : List Frame} {meth : Method} {c : Code} {Γ : gG} {rz : Int32} {Sz : mM} (C : Cx Γ 28 p s m args meth c RX6 cX6_laneComes 5 (some .boolean))  {K96 : mM → Int32 → Int32 → Int32 → Option (Int32 × mM)} (hK96 : ∀ (S : mM) (x1 : Int32) (x2 : Int32) (x3 : Int32) , K96 S x1 x2 x3 = some (rz, Sz) → ∀ (H : Heap) (locs : List Loc) (ls : Array Slot), St Γ 28 (mE Γ S) s.heap H locs → lv_has ls 5 [(0, .ref (Γ.2.2 (0))), (1, .int x1), (2, .int x2), (3, .int x3)] → W p l e { frames := 4, cells := 0, slots := 0, locals := 87 } s m args below meth c H locs 0 0 (MQ below (gQi Γ 28 rz (mE Γ Sz)) args s 0 0 (wA Γ 28)) (F0 m 96 ls [])) : ∀ (S : mM) (x1 : Int32) (x3 : Int32) (x4 : Int32) (y0 : Int32) , fX6_laneComes_145  K96 S x1 x3 x4 y0 = some (rz, Sz) → ∀ (H : Heap) (locs : List Loc) (ls : Array Slot), St Γ 28 (mE Γ S) s.heap H locs → lv_has ls 5 [(0, .ref (Γ.2.2 (0))), (1, .int x1), (3, .int x3), (4, .int x4)] → W p l e { frames := 4, cells := 0, slots := 0, locals := 87 } s m args below meth c H locs 0 0 (MQ below (gQi Γ 28 rz (mE Γ Sz)) args s 0 0 (wA Γ 28)) (F0 m 145 ls [.int y0]) := by
  obtain ⟨hx, hb, -, -, hown, hts, -, hwx, -⟩ := id C
  intro S x1 x3 x4 y0 hf H locs ls hP hl
  unfold fX6_laneComes_145 at hf
  refine lv_istore_n (lv' := [(2, .int y0), (0, .ref (Γ.2.2 (0))), (1, .int x1), (3, .int x3), (4, .int x4)]) hx hb dX6_laneComes_145 rfl hl (by decide) rfl (fun ls hl => ?_)
  refine lv_aload_n hx hb dX6_laneComes_146 rfl (lv_at hl 1 rfl) ?_
  refine lv_aload_n hx hb dX6_laneComes_147 rfl (lv_at hl 1 rfl) ?_
  refine m_get C hP 0 (by decide) k4_53 rfl (v := .int (S.1 0 0)) rfl dX6_laneComes_148 ?_
  refine lv_iload_n hx hb dX6_laneComes_151 rfl (lv_at hl 0 rfl) ?_
  refine lv_if_eq (tgt := 160) hx hb dX6_laneComes_152 (by decide) (fun hc37 => ?_) (fun hc37 => ?_)
  · have hf := if_t hc37 hf
    refine lv_iconst (v := nI 0) hx hb dX6_laneComes_160 rfl ?_
    exact wX6_laneComes_161 C  hK96  S x1 y0 x3 (S.1 0 0) (nI 0)  hf _ _ _ hP (lv_sub hl [1, 2, 0, 3] rfl)
  · have hf := if_f hc37 hf
    refine lv_iload hx hb dX6_laneComes_155 (lv_at hl 4 rfl) ?_
    refine lv_goto (tgt := 161) hx hb dX6_laneComes_157 (by decide) ?_
    exact wX6_laneComes_161 C  hK96  S x1 y0 x3 (S.1 0 0) x4  hf _ _ _ hP (lv_sub hl [1, 2, 0, 3] rfl)
def fX6_laneComes_144  (K96 : mM → Int32 → Int32 → Int32 → Option (Int32 × mM)) (S : mM) (x1 : Int32) (x3 : Int32) (x4 : Int32) : Option (Int32 × mM) :=
  fX6_laneComes_145  K96  S x1 x3 x4 (nI 0)
set_option maxHeartbeats 4000000 in
set_option maxRecDepth 100000 in
theorem wX6_laneComes_144 {p : Program} {l : Launch} {e : Env} {s : State} {m : MethodId} {args : Array Value} {below : List Frame} {meth : Method} {c : Code} {Γ : gG} {rz : Int32} {Sz : mM} (C : Cx Γ 28 p s m args meth c RX6 cX6_laneComes 5 (some .boolean))  {K96 : mM → Int32 → Int32 → Int32 → Option (Int32 × mM)} (hK96 : ∀ (S : mM) (x1 : Int32) (x2 : Int32) (x3 : Int32) , K96 S x1 x2 x3 = some (rz, Sz) → ∀ (H : Heap) (locs : List Loc) (ls : Array Slot), St Γ 28 (mE Γ S) s.heap H locs → lv_has ls 5 [(0, .ref (Γ.2.2 (0))), (1, .int x1), (2, .int x2), (3, .int x3)] → W p l e { frames := 4, cells := 0, slots := 0, locals := 87 } s m args below meth c H locs 0 0 (MQ below (gQi Γ 28 rz (mE Γ Sz)) args s 0 0 (wA Γ 28)) (F0 m 96 ls [])) : ∀ (S : mM) (x1 : Int32) (x3 : Int32) (x4 : Int32) , fX6_laneComes_144  K96 S x1 x3 x4 = some (rz, Sz) → ∀ (H : Heap) (locs : List Loc) (ls : Array Slot), St Γ 28 (mE Γ S) s.heap H locs → lv_has ls 5 [(0, .ref (Γ.2.2 (0))), (1, .int x1), (3, .int x3), (4, .int x4)] → W p l e { frames := 4, cells := 0, slots := 0, locals := 87 } s m args below meth c H locs 0 0 (MQ below (gQi Γ 28 rz (mE Γ Sz)) args s 0 0 (wA Γ 28)) (F0 m 144 ls []) := by
  obtain ⟨hx, hb, -, -, hown, hts, -, hwx, -⟩ := id C
  intro S x1 x3 x4 hf H locs ls hP hl
  unfold fX6_laneComes_144 at hf
  refine lv_iconst (v := nI 0) hx hb dX6_laneComes_144 rfl ?_
  exact wX6_laneComes_145 C  hK96  S x1 x3 x4 (nI 0)  hf _ _ _ hP (lv_sub hl [0, 1, 2, 3] rfl)
def fX6_laneComes_96   : Nat → mM → Int32 → Int32 → Int32 → Option (Int32 × mM)
  | 0, _, _, _, _ => none
  | n + 1, S, x1, x2, x3 =>
    gi x1 51 (if (S.1 15 (x1).toNatClampNeg) ≤ x3 then sv (mS S 0 0 ((S.1 0 0) + (nI 1))) fun S30 => ( gb x2 (some (x2, S30))) else gi x1 51 (gi (((S.1 0 17) + (S.1 14 (x1).toNatClampNeg)) + x3) 800 (if x2 = 0 then fX6_laneComes_144  (fX6_laneComes_96   n)  S x1 x3 (((S.2.1 26 (((S.1 0 17) + (S.1 14 (x1).toNatClampNeg)) + x3).toNatClampNeg).toInt32) - (nI 48)) else if (nI 4) ≤ (((S.2.1 26 (((S.1 0 17) + (S.1 14 (x1).toNatClampNeg)) + x3).toNatClampNeg).toInt32) - (nI 48)) then fX6_laneComes_144  (fX6_laneComes_96   n)  S x1 x3 (((S.2.1 26 (((S.1 0 17) + (S.1 14 (x1).toNatClampNeg)) + x3).toNatClampNeg).toInt32) - (nI 48)) else fX6_laneComes_145  (fX6_laneComes_96   n)  S x1 x3 (((S.2.1 26 (((S.1 0 17) + (S.1 14 (x1).toNatClampNeg)) + x3).toNatClampNeg).toInt32) - (nI 48)) (nI 1))))
set_option maxHeartbeats 4000000 in
set_option maxRecDepth 100000 in
theorem wX6_laneComes_96 {p : Program} {l : Launch} {e : Env} {s : State} {m : MethodId} {args : Array Value} {below : List Frame} {meth : Method} {c : Code} {Γ : gG} {rz : Int32} {Sz : mM} (C : Cx Γ 28 p s m args meth c RX6 cX6_laneComes 5 (some .boolean))   : ∀ n : Nat, ∀ (S : mM) (x1 : Int32) (x2 : Int32) (x3 : Int32) , fX6_laneComes_96   n S x1 x2 x3 = some (rz, Sz) → ∀ (H : Heap) (locs : List Loc) (ls : Array Slot), St Γ 28 (mE Γ S) s.heap H locs → lv_has ls 5 [(0, .ref (Γ.2.2 (0))), (1, .int x1), (2, .int x2), (3, .int x3)] → W p l e { frames := 4, cells := 0, slots := 0, locals := 87 } s m args below meth c H locs 0 0 (MQ below (gQi Γ 28 rz (mE Γ Sz)) args s 0 0 (wA Γ 28)) (F0 m 96 ls []) := by
  obtain ⟨hx, hb, -, -, hown, hts, -, hwx, -⟩ := id C
  intro n
  induction n with
  | zero =>
    intro S x1 x2 x3 hf
    unfold fX6_laneComes_96 at hf
    cases hf
  | succ n ih =>
    intro S x1 x2 x3 hf H locs ls hP hl
    unfold fX6_laneComes_96 at hf
    refine lv_iload_n hx hb dX6_laneComes_96 rfl (lv_at hl 3 rfl) ?_
    refine lv_aload_n hx hb dX6_laneComes_97 rfl (lv_at hl 0 rfl) ?_
    refine m_get C hP 27 (by decide) k4_80 rfl (v := .ref (Γ.2.2 (15))) rfl dX6_laneComes_98 ?_
    refine lv_iload_n hx hb dX6_laneComes_101 rfl (lv_at hl 1 rfl) ?_
    refine gi_i hf (fun hi27 hj28 hf => ?_)
    refine m_ild C hP mA_15 hi27 dX6_laneComes_102 ?_
    refine lv_icmp_ge (tgt := 170) hx hb dX6_laneComes_103 (by decide) (fun hc29 => ?_) (fun hc29 => ?_)
    · have hf := if_t hc29 hf
      refine lv_aload_n hx hb dX6_laneComes_170 rfl (lv_at hl 0 rfl) ?_
      refine lv_dup hx hb dX6_laneComes_171 rfl ?_
      refine m_get C hP 0 (by decide) k4_53 rfl (v := .int (S.1 0 0)) rfl dX6_laneComes_172 ?_
      refine lv_iconst (v := nI 1) hx hb dX6_laneComes_175 rfl ?_
      refine lv_iadd hx hb dX6_laneComes_176 ?_
      refine m_put C hP 0 (by decide) k4_53 dX6_laneComes_177 (fun H locs hP => ?_)
      refine sv_i hf (fun S30 e30 hf => ?_)
      rw [← e30] at hP
      refine lv_iload_n hx hb dX6_laneComes_180 rfl (lv_at hl 2 rfl) ?_
      refine gb_i hf (fun hz31 hf => ?_)
      exact r_zret (X := mE Γ) C hP hz31 hf dX6_laneComes_181
    · have hf := if_f hc29 hf
      refine lv_aload_n hx hb dX6_laneComes_106 rfl (lv_at hl 0 rfl) ?_
      refine m_get C hP 40 (by decide) k4_93 rfl (v := .ref (Γ.2.2 (26))) rfl dX6_laneComes_107 ?_
      refine lv_aload_n hx hb dX6_laneComes_110 rfl (lv_at hl 0 rfl) ?_
      refine m_get C hP 17 (by decide) k4_70 rfl (v := .int (S.1 0 17)) rfl dX6_laneComes_111 ?_
      refine lv_aload_n hx hb dX6_laneComes_114 rfl (lv_at hl 0 rfl) ?_
      refine m_get C hP 26 (by decide) k4_79 rfl (v := .ref (Γ.2.2 (14))) rfl dX6_laneComes_115 ?_
      refine lv_iload_n hx hb dX6_laneComes_118 rfl (lv_at hl 1 rfl) ?_
      refine gi_i hf (fun hi32 hj33 hf => ?_)
      refine m_ild C hP mA_14 hi32 dX6_laneComes_119 ?_
      refine lv_iadd hx hb dX6_laneComes_120 ?_
      refine lv_iload_n hx hb dX6_laneComes_121 rfl (lv_at hl 3 rfl) ?_
      refine lv_iadd hx hb dX6_laneComes_122 ?_
      refine gi_i hf (fun hi34 hj35 hf => ?_)
      refine m_lld C hP mB_26 hi34 dX6_laneComes_123 ?_
      refine lv_l2i (v := (S.2.1 26 (((S.1 0 17) + (S.1 14 (x1).toNatClampNeg)) + x3).toNatClampNeg).toInt32) hx hb dX6_laneComes_124 rfl ?_
      refine lv_bipush (v := nI 48) hx hb dX6_laneComes_125 rfl ?_
      refine lv_isub hx hb dX6_laneComes_127 ?_
      refine lv_istore (lv' := [(4, .int (((S.2.1 26 (((S.1 0 17) + (S.1 14 (x1).toNatClampNeg)) + x3).toNatClampNeg).toInt32) - (nI 48))), (0, .ref (Γ.2.2 (0))), (1, .int x1), (2, .int x2), (3, .int x3)]) hx hb dX6_laneComes_128 hl (by decide) rfl (fun ls hl => ?_)
      refine lv_iload_n hx hb dX6_laneComes_130 rfl (lv_at hl 3 rfl) ?_
      refine lv_if_eq (tgt := 144) hx hb dX6_laneComes_131 (by decide) (fun hc36 => ?_) (fun hc36 => ?_)
      · have hf := if_t hc36 hf
        exact wX6_laneComes_144 C  ih  S x1 x3 (((S.2.1 26 (((S.1 0 17) + (S.1 14 (x1).toNatClampNeg)) + x3).toNatClampNeg).toInt32) - (nI 48))  hf _ _ _ hP (lv_sub hl [1, 2, 4, 0] rfl)
      · have hf := if_f hc36 hf
        refine lv_iload hx hb dX6_laneComes_134 (lv_at hl 0 rfl) ?_
        refine lv_iconst (v := nI 4) hx hb dX6_laneComes_136 rfl ?_
        refine lv_icmp_ge (tgt := 144) hx hb dX6_laneComes_137 (by decide) (fun hc39 => ?_) (fun hc39 => ?_)
        · have hf := if_t hc39 hf
          exact wX6_laneComes_144 C  ih  S x1 x3 (((S.2.1 26 (((S.1 0 17) + (S.1 14 (x1).toNatClampNeg)) + x3).toNatClampNeg).toInt32) - (nI 48))  hf _ _ _ hP (lv_sub hl [1, 2, 4, 0] rfl)
        · have hf := if_f hc39 hf
          refine lv_iconst (v := nI 1) hx hb dX6_laneComes_140 rfl ?_
          refine lv_goto (tgt := 145) hx hb dX6_laneComes_141 (by decide) ?_
          exact wX6_laneComes_145 C  ih  S x1 x3 (((S.2.1 26 (((S.1 0 17) + (S.1 14 (x1).toNatClampNeg)) + x3).toNatClampNeg).toInt32) - (nI 48)) (nI 1)  hf _ _ _ hP (lv_sub hl [1, 2, 4, 0] rfl)
def fX6_laneComes  (S : mM) (x1 : Int32) : Option (Int32 × mM) :=
  gi x1 51 (if (nI 7) < (S.1 12 (x1).toNatClampNeg) then some (nI 0, S) else if (S.1 0 0) = (nI 5) then some (nI 0, S) else gi x1 51 (if (S.1 15 (x1).toNatClampNeg) ≤ (nI 8) then gi x1 51 (gi (S.1 0 0) 5 (sv (mS S 1 ((S.1 0 0).toNatClampNeg) (S.1 12 (x1).toNatClampNeg)) fun S12 => ( gi x1 51 (gi (S12.1 0 0) 5 (sv (mS S12 2 ((S12.1 0 0).toNatClampNeg) (S12.1 13 (x1).toNatClampNeg)) fun S17 => ( gi (S17.1 0 0) 5 (sv (mS S17 3 ((S17.1 0 0).toNatClampNeg) (nI 0)) fun S20 => ( gi (S20.1 0 0) 5 (sv (mS S20 4 ((S20.1 0 0).toNatClampNeg) (nI 0)) fun S23 => ( gi (S23.1 0 0) 5 (sv (mS S23 5 ((S23.1 0 0).toNatClampNeg) (nI 0)) fun S26 => ( fX6_laneComes_96   lF S26 x1 (nI 1) (nI 0))))))))))))) else some (nI 0, S)))
set_option maxHeartbeats 4000000 in
set_option maxRecDepth 100000 in
theorem mX6_laneComes (l : Launch) (Γ : gG)   {S : mM} {x1 : Int32} {rz : Int32} {Sz : mM} (hf : fX6_laneComes S x1 = some (rz, Sz)) : CtI l Γ 28 yX6_laneComes cX6_laneComes 5 .boolean 4 87 [.ref (Γ.2.2 (0)), .int x1] (mE Γ S) rz (mE Γ Sz) := by
  refine met_body (Γ := Γ) (lv := [(0, .ref (Γ.2.2 (0))), (1, .int x1)]) RX6 (by decide) rfl rfl rfl ?_
  intro p e s m below meth c H locs ls C hP hl
  obtain ⟨hx, hb, -, -, hown, hts, -, hwx, -⟩ := id C
  unfold fX6_laneComes at hf
  refine lv_aload_n hx hb dX6_laneComes_0 rfl (lv_at hl 0 rfl) ?_
  refine m_get C hP 24 (by decide) k4_77 rfl (v := .ref (Γ.2.2 (12))) rfl dX6_laneComes_1 ?_
  refine lv_iload_n hx hb dX6_laneComes_4 rfl (lv_at hl 1 rfl) ?_
  refine gi_i hf (fun hi1 hj2 hf => ?_)
  refine m_ild C hP mA_12 hi1 dX6_laneComes_5 ?_
  refine lv_bipush (v := nI 7) hx hb dX6_laneComes_6 rfl ?_
  refine lv_icmp_gt (tgt := 30) hx hb dX6_laneComes_8 (by decide) (fun hc3 => ?_) (fun hc3 => ?_)
  · have hf := if_t hc3 hf
    refine lv_iconst (v := nI 0) hx hb dX6_laneComes_30 rfl ?_
    exact r_zret (X := mE Γ) C hP (Or.inl rfl) hf dX6_laneComes_31
  · have hf := if_f hc3 hf
    refine lv_aload_n hx hb dX6_laneComes_11 rfl (lv_at hl 0 rfl) ?_
    refine m_get C hP 0 (by decide) k4_53 rfl (v := .int (S.1 0 0)) rfl dX6_laneComes_12 ?_
    refine lv_iconst (v := nI 5) hx hb dX6_laneComes_15 rfl ?_
    refine lv_icmp_eq (tgt := 30) hx hb dX6_laneComes_16 (by decide) (fun hc4 => ?_) (fun hc4 => ?_)
    · have hf := if_t hc4 hf
      refine lv_iconst (v := nI 0) hx hb dX6_laneComes_30 rfl ?_
      exact r_zret (X := mE Γ) C hP (Or.inl rfl) hf dX6_laneComes_31
    · have hf := if_f hc4 hf
      refine lv_aload_n hx hb dX6_laneComes_19 rfl (lv_at hl 0 rfl) ?_
      refine m_get C hP 27 (by decide) k4_80 rfl (v := .ref (Γ.2.2 (15))) rfl dX6_laneComes_20 ?_
      refine lv_iload_n hx hb dX6_laneComes_23 rfl (lv_at hl 1 rfl) ?_
      refine gi_i hf (fun hi5 hj6 hf => ?_)
      refine m_ild C hP mA_15 hi5 dX6_laneComes_24 ?_
      refine lv_bipush (v := nI 8) hx hb dX6_laneComes_25 rfl ?_
      refine lv_icmp_le (tgt := 32) hx hb dX6_laneComes_27 (by decide) (fun hc7 => ?_) (fun hc7 => ?_)
      · have hf := if_t hc7 hf
        refine lv_aload_n hx hb dX6_laneComes_32 rfl (lv_at hl 0 rfl) ?_
        refine m_get C hP 3 (by decide) k4_56 rfl (v := .ref (Γ.2.2 (1))) rfl dX6_laneComes_33 ?_
        refine lv_aload_n hx hb dX6_laneComes_36 rfl (lv_at hl 0 rfl) ?_
        refine m_get C hP 0 (by decide) k4_53 rfl (v := .int (S.1 0 0)) rfl dX6_laneComes_37 ?_
        refine lv_aload_n hx hb dX6_laneComes_40 rfl (lv_at hl 0 rfl) ?_
        refine m_get C hP 24 (by decide) k4_77 rfl (v := .ref (Γ.2.2 (12))) rfl dX6_laneComes_41 ?_
        refine lv_iload_n hx hb dX6_laneComes_44 rfl (lv_at hl 1 rfl) ?_
        refine gi_i hf (fun hi8 hj9 hf => ?_)
        refine m_ild C hP mA_12 hi8 dX6_laneComes_45 ?_
        refine gi_i hf (fun hi10 hj11 hf => ?_)
        refine m_ist C hP mA_1 hi10 dX6_laneComes_46 (fun H locs hP => ?_)
        refine sv_i hf (fun S12 e12 hf => ?_)
        rw [← e12] at hP
        refine lv_aload_n hx hb dX6_laneComes_47 rfl (lv_at hl 0 rfl) ?_
        refine m_get C hP 4 (by decide) k4_57 rfl (v := .ref (Γ.2.2 (2))) rfl dX6_laneComes_48 ?_
        refine lv_aload_n hx hb dX6_laneComes_51 rfl (lv_at hl 0 rfl) ?_
        refine m_get C hP 0 (by decide) k4_53 rfl (v := .int (S12.1 0 0)) rfl dX6_laneComes_52 ?_
        refine lv_aload_n hx hb dX6_laneComes_55 rfl (lv_at hl 0 rfl) ?_
        refine m_get C hP 25 (by decide) k4_78 rfl (v := .ref (Γ.2.2 (13))) rfl dX6_laneComes_56 ?_
        refine lv_iload_n hx hb dX6_laneComes_59 rfl (lv_at hl 1 rfl) ?_
        refine gi_i hf (fun hi13 hj14 hf => ?_)
        refine m_ild C hP mA_13 hi13 dX6_laneComes_60 ?_
        refine gi_i hf (fun hi15 hj16 hf => ?_)
        refine m_ist C hP mA_2 hi15 dX6_laneComes_61 (fun H locs hP => ?_)
        refine sv_i hf (fun S17 e17 hf => ?_)
        rw [← e17] at hP
        refine lv_aload_n hx hb dX6_laneComes_62 rfl (lv_at hl 0 rfl) ?_
        refine m_get C hP 5 (by decide) k4_58 rfl (v := .ref (Γ.2.2 (3))) rfl dX6_laneComes_63 ?_
        refine lv_aload_n hx hb dX6_laneComes_66 rfl (lv_at hl 0 rfl) ?_
        refine m_get C hP 0 (by decide) k4_53 rfl (v := .int (S17.1 0 0)) rfl dX6_laneComes_67 ?_
        refine lv_iconst (v := nI 0) hx hb dX6_laneComes_70 rfl ?_
        refine gi_i hf (fun hi18 hj19 hf => ?_)
        refine m_ist C hP mA_3 hi18 dX6_laneComes_71 (fun H locs hP => ?_)
        refine sv_i hf (fun S20 e20 hf => ?_)
        rw [← e20] at hP
        refine lv_aload_n hx hb dX6_laneComes_72 rfl (lv_at hl 0 rfl) ?_
        refine m_get C hP 6 (by decide) k4_59 rfl (v := .ref (Γ.2.2 (4))) rfl dX6_laneComes_73 ?_
        refine lv_aload_n hx hb dX6_laneComes_76 rfl (lv_at hl 0 rfl) ?_
        refine m_get C hP 0 (by decide) k4_53 rfl (v := .int (S20.1 0 0)) rfl dX6_laneComes_77 ?_
        refine lv_iconst (v := nI 0) hx hb dX6_laneComes_80 rfl ?_
        refine gi_i hf (fun hi21 hj22 hf => ?_)
        refine m_ist C hP mA_4 hi21 dX6_laneComes_81 (fun H locs hP => ?_)
        refine sv_i hf (fun S23 e23 hf => ?_)
        rw [← e23] at hP
        refine lv_aload_n hx hb dX6_laneComes_82 rfl (lv_at hl 0 rfl) ?_
        refine m_get C hP 7 (by decide) k4_60 rfl (v := .ref (Γ.2.2 (5))) rfl dX6_laneComes_83 ?_
        refine lv_aload_n hx hb dX6_laneComes_86 rfl (lv_at hl 0 rfl) ?_
        refine m_get C hP 0 (by decide) k4_53 rfl (v := .int (S23.1 0 0)) rfl dX6_laneComes_87 ?_
        refine lv_iconst (v := nI 0) hx hb dX6_laneComes_90 rfl ?_
        refine gi_i hf (fun hi24 hj25 hf => ?_)
        refine m_ist C hP mA_5 hi24 dX6_laneComes_91 (fun H locs hP => ?_)
        refine sv_i hf (fun S26 e26 hf => ?_)
        rw [← e26] at hP
        refine lv_iconst (v := nI 1) hx hb dX6_laneComes_92 rfl ?_
        refine lv_istore_n (lv' := [(2, .int (nI 1)), (0, .ref (Γ.2.2 (0))), (1, .int x1)]) hx hb dX6_laneComes_93 rfl hl (by decide) rfl (fun ls hl => ?_)
        refine lv_iconst (v := nI 0) hx hb dX6_laneComes_94 rfl ?_
        refine lv_istore_n (lv' := [(3, .int (nI 0)), (2, .int (nI 1)), (0, .ref (Γ.2.2 (0))), (1, .int x1)]) hx hb dX6_laneComes_95 rfl hl (by decide) rfl (fun ls hl => ?_)
        exact wX6_laneComes_96 C   lF S26 x1 (nI 1) (nI 0)  hf _ _ _ hP (lv_sub hl [2, 3, 1, 0] rfl)
      · have hf := if_f hc7 hf
        refine lv_iconst (v := nI 0) hx hb dX6_laneComes_30 rfl ?_
        exact r_zret (X := mE Γ) C hP (Or.inl rfl) hf dX6_laneComes_31
-- X6_comesOf
theorem qX6_comesOf : Cond.instanceMethod yX6_comesOf ∈ Ub ∧ Cond.selects RX6 yX6_comesOf yX6_comesOf ∈ Ub ∧ Cond.initialized RX6 ∈ Ub ∧ Cond.code yX6_comesOf cX6_comesOf 2 (some FieldType.boolean) ∈ Ub ∧ (yX6_comesOf.cls = RX6 ∧ yX6_comesOf.cls ≠ "java/lang/invoke/MethodHandle" ∧ yX6_comesOf.cls ≠ "java/lang/invoke/VarHandle" ∧ (parseMethodDescriptor yX6_comesOf.desc).map (fun d => d.parameters.length) = some 1) := ⟨k4_238, ks_31, k1_5, k4_239, by decide +kernel⟩
def fX6_comesOf  (S : mM) (x1 : Int32) : Option (Int32 × mM) :=
  gi x1 51 (if (S.1 11 (x1).toNatClampNeg) = (nI 108) then bd (fX6_laneComes S x1) fun v27 S27 => ( gb v27 (some (v27, S27))) else gi x1 51 (if (S.1 11 (x1).toNatClampNeg) = (nI 109) then gi x1 51 (bd (fX6_goBy S (S.1 12 (x1).toNatClampNeg)) fun v26 S26 => ( some (nI 1, S26))) else gi x1 51 (bd (fX6_isLane S (S.1 12 (x1).toNatClampNeg)) fun v9 S9 => ( if v9 = 0 then some (nI 0, S9) else gi x1 51 (if (nI 3) < (S9.1 13 (x1).toNatClampNeg) then some (nI 0, S9) else gi x1 51 (gi (S9.1 12 (x1).toNatClampNeg) 5 (if (S9.1 3 (S9.1 12 (x1).toNatClampNeg).toNatClampNeg) = (nI 8) then some (nI 0, S9) else gi x1 51 (gi x1 51 (bv (fX6_comeIn S9 (S9.1 12 (x1).toNatClampNeg) (S9.1 13 (x1).toNatClampNeg)) fun S23 => ( some (nI 1, S23)))))))))))
set_option maxHeartbeats 4000000 in
set_option maxRecDepth 100000 in
theorem mX6_comesOf (l : Launch) (Γ : gG)   {S : mM} {x1 : Int32} {rz : Int32} {Sz : mM} (hf : fX6_comesOf S x1 = some (rz, Sz)) : CtI l Γ 28 yX6_comesOf cX6_comesOf 2 .boolean 5 111 [.ref (Γ.2.2 (0)), .int x1] (mE Γ S) rz (mE Γ Sz) := by
  refine met_body (Γ := Γ) (lv := [(0, .ref (Γ.2.2 (0))), (1, .int x1)]) RX6 (by decide) rfl rfl rfl ?_
  intro p e s m below meth c H locs ls C hP hl
  obtain ⟨hx, hb, -, -, hown, hts, -, hwx, -⟩ := id C
  unfold fX6_comesOf at hf
  refine lv_aload_n hx hb dX6_comesOf_0 rfl (lv_at hl 0 rfl) ?_
  refine m_get C hP 23 (by decide) k4_76 rfl (v := .ref (Γ.2.2 (11))) rfl dX6_comesOf_1 ?_
  refine lv_iload_n hx hb dX6_comesOf_4 rfl (lv_at hl 1 rfl) ?_
  refine gi_i hf (fun hi1 hj2 hf => ?_)
  refine m_ild C hP mA_11 hi1 dX6_comesOf_5 ?_
  refine lv_bipush (v := nI 108) hx hb dX6_comesOf_6 rfl ?_
  refine lv_icmp_ne (tgt := 17) hx hb dX6_comesOf_8 (by decide) (fun hc3 => ?_) (fun hc3 => ?_)
  · have hf := if_f hc3 hf
    refine lv_aload_n hx hb dX6_comesOf_17 rfl (lv_at hl 0 rfl) ?_
    refine m_get C hP 23 (by decide) k4_76 rfl (v := .ref (Γ.2.2 (11))) rfl dX6_comesOf_18 ?_
    refine lv_iload_n hx hb dX6_comesOf_21 rfl (lv_at hl 1 rfl) ?_
    refine gi_i hf (fun hi4 hj5 hf => ?_)
    refine m_ild C hP mA_11 hi4 dX6_comesOf_22 ?_
    refine lv_bipush (v := nI 109) hx hb dX6_comesOf_23 rfl ?_
    refine lv_icmp_ne (tgt := 41) hx hb dX6_comesOf_25 (by decide) (fun hc6 => ?_) (fun hc6 => ?_)
    · have hf := if_f hc6 hf
      refine lv_aload_n hx hb dX6_comesOf_41 rfl (lv_at hl 0 rfl) ?_
      refine lv_aload_n hx hb dX6_comesOf_42 rfl (lv_at hl 0 rfl) ?_
      refine m_get C hP 24 (by decide) k4_77 rfl (v := .ref (Γ.2.2 (12))) rfl dX6_comesOf_43 ?_
      refine lv_iload_n hx hb dX6_comesOf_46 rfl (lv_at hl 1 rfl) ?_
      refine gi_i hf (fun hi7 hj8 hf => ?_)
      refine m_ild C hP mA_12 hi7 dX6_comesOf_47 ?_
      refine bd_i hf (fun v9 S9 hq9 hf => ?_)
      refine goI (runV (rest := []) (b := 0) (mX6_isLane l Γ  hq9) C hP hl.1 (by decide) mE0 rfl k5_30 qX6_isLane.1 qX6_isLane.2.1 qX6_isLane.2.2.1 qX6_isLane.2.2.2.1 rfl qX6_isLane.2.2.2.2 ⟨Nat.le_of_ble_eq_true rfl, Nat.le_of_ble_eq_true rfl⟩ ⟨Nat.le_refl 0, Nat.le_refl 0⟩ (Nat.le_of_ble_eq_true rfl) dX6_comesOf_48) hP (fun H locs hP => ?_)
      refine lv_if_eq (tgt := 80) hx hb dX6_comesOf_51 (by decide) (fun hc10 => ?_) (fun hc10 => ?_)
      · have hf := if_t hc10 hf
        refine lv_iconst (v := nI 0) hx hb dX6_comesOf_80 rfl ?_
        exact r_zret (X := mE Γ) C hP (Or.inl rfl) hf dX6_comesOf_81
      · have hf := if_f hc10 hf
        refine lv_aload_n hx hb dX6_comesOf_54 rfl (lv_at hl 0 rfl) ?_
        refine m_get C hP 25 (by decide) k4_78 rfl (v := .ref (Γ.2.2 (13))) rfl dX6_comesOf_55 ?_
        refine lv_iload_n hx hb dX6_comesOf_58 rfl (lv_at hl 1 rfl) ?_
        refine gi_i hf (fun hi11 hj12 hf => ?_)
        refine m_ild C hP mA_13 hi11 dX6_comesOf_59 ?_
        refine lv_iconst (v := nI 3) hx hb dX6_comesOf_60 rfl ?_
        refine lv_icmp_gt (tgt := 80) hx hb dX6_comesOf_61 (by decide) (fun hc13 => ?_) (fun hc13 => ?_)
        · have hf := if_t hc13 hf
          refine lv_iconst (v := nI 0) hx hb dX6_comesOf_80 rfl ?_
          exact r_zret (X := mE Γ) C hP (Or.inl rfl) hf dX6_comesOf_81
        · have hf := if_f hc13 hf
          refine lv_aload_n hx hb dX6_comesOf_64 rfl (lv_at hl 0 rfl) ?_
          refine m_get C hP 5 (by decide) k4_58 rfl (v := .ref (Γ.2.2 (3))) rfl dX6_comesOf_65 ?_
          refine lv_aload_n hx hb dX6_comesOf_68 rfl (lv_at hl 0 rfl) ?_
          refine m_get C hP 24 (by decide) k4_77 rfl (v := .ref (Γ.2.2 (12))) rfl dX6_comesOf_69 ?_
          refine lv_iload_n hx hb dX6_comesOf_72 rfl (lv_at hl 1 rfl) ?_
          refine gi_i hf (fun hi14 hj15 hf => ?_)
          refine m_ild C hP mA_12 hi14 dX6_comesOf_73 ?_
          refine gi_i hf (fun hi16 hj17 hf => ?_)
          refine m_ild C hP mA_3 hi16 dX6_comesOf_74 ?_
          refine lv_bipush (v := nI 8) hx hb dX6_comesOf_75 rfl ?_
          refine lv_icmp_ne (tgt := 82) hx hb dX6_comesOf_77 (by decide) (fun hc18 => ?_) (fun hc18 => ?_)
          · have hf := if_f hc18 hf
            refine lv_aload_n hx hb dX6_comesOf_82 rfl (lv_at hl 0 rfl) ?_
            refine lv_aload_n hx hb dX6_comesOf_83 rfl (lv_at hl 0 rfl) ?_
            refine m_get C hP 24 (by decide) k4_77 rfl (v := .ref (Γ.2.2 (12))) rfl dX6_comesOf_84 ?_
            refine lv_iload_n hx hb dX6_comesOf_87 rfl (lv_at hl 1 rfl) ?_
            refine gi_i hf (fun hi19 hj20 hf => ?_)
            refine m_ild C hP mA_12 hi19 dX6_comesOf_88 ?_
            refine lv_aload_n hx hb dX6_comesOf_89 rfl (lv_at hl 0 rfl) ?_
            refine m_get C hP 25 (by decide) k4_78 rfl (v := .ref (Γ.2.2 (13))) rfl dX6_comesOf_90 ?_
            refine lv_iload_n hx hb dX6_comesOf_93 rfl (lv_at hl 1 rfl) ?_
            refine gi_i hf (fun hi21 hj22 hf => ?_)
            refine m_ild C hP mA_13 hi21 dX6_comesOf_94 ?_
            refine bv_i hf (fun S23 hq23 hf => ?_)
            refine goV (runV (rest := []) (b := 0) (mX6_comeIn l Γ  hq23) C hP hl.1 (by decide) mE0 rfl k5_4 qX6_comeIn.1 qX6_comeIn.2.1 qX6_comeIn.2.2.1 qX6_comeIn.2.2.2.1 rfl qX6_comeIn.2.2.2.2 ⟨Nat.le_of_ble_eq_true rfl, Nat.le_of_ble_eq_true rfl⟩ ⟨Nat.le_refl 0, Nat.le_refl 0⟩ (Nat.le_of_ble_eq_true rfl) dX6_comesOf_95) hP (fun H locs hP => ?_)
            refine lv_iconst (v := nI 1) hx hb dX6_comesOf_98 rfl ?_
            exact r_zret (X := mE Γ) C hP (Or.inr rfl) hf dX6_comesOf_99
          · have hf := if_t hc18 hf
            refine lv_iconst (v := nI 0) hx hb dX6_comesOf_80 rfl ?_
            exact r_zret (X := mE Γ) C hP (Or.inl rfl) hf dX6_comesOf_81
    · have hf := if_t hc6 hf
      refine lv_aload_n hx hb dX6_comesOf_28 rfl (lv_at hl 0 rfl) ?_
      refine lv_aload_n hx hb dX6_comesOf_29 rfl (lv_at hl 0 rfl) ?_
      refine m_get C hP 24 (by decide) k4_77 rfl (v := .ref (Γ.2.2 (12))) rfl dX6_comesOf_30 ?_
      refine lv_iload_n hx hb dX6_comesOf_33 rfl (lv_at hl 1 rfl) ?_
      refine gi_i hf (fun hi24 hj25 hf => ?_)
      refine m_ild C hP mA_12 hi24 dX6_comesOf_34 ?_
      refine bd_i hf (fun v26 S26 hq26 hf => ?_)
      refine goI (runV (rest := []) (b := 0) (mX6_goBy l Γ  hq26) C hP hl.1 (by decide) mE0 rfl k5_18 qX6_goBy.1 qX6_goBy.2.1 qX6_goBy.2.2.1 qX6_goBy.2.2.2.1 rfl qX6_goBy.2.2.2.2 ⟨Nat.le_of_ble_eq_true rfl, Nat.le_of_ble_eq_true rfl⟩ ⟨Nat.le_refl 0, Nat.le_refl 0⟩ (Nat.le_of_ble_eq_true rfl) dX6_comesOf_35) hP (fun H locs hP => ?_)
      refine lv_pop hx hb dX6_comesOf_38 rfl ?_
      refine lv_iconst (v := nI 1) hx hb dX6_comesOf_39 rfl ?_
      exact r_zret (X := mE Γ) C hP (Or.inr rfl) hf dX6_comesOf_40
  · have hf := if_t hc3 hf
    refine lv_aload_n hx hb dX6_comesOf_11 rfl (lv_at hl 0 rfl) ?_
    refine lv_iload_n hx hb dX6_comesOf_12 rfl (lv_at hl 1 rfl) ?_
    refine bd_i hf (fun v27 S27 hq27 hf => ?_)
    refine goI (runV (rest := []) (b := 0) (mX6_laneComes l Γ  hq27) C hP hl.1 (by decide) mE0 rfl k5_0 qX6_laneComes.1 qX6_laneComes.2.1 qX6_laneComes.2.2.1 qX6_laneComes.2.2.2.1 rfl qX6_laneComes.2.2.2.2 ⟨Nat.le_of_ble_eq_true rfl, Nat.le_of_ble_eq_true rfl⟩ ⟨Nat.le_refl 0, Nat.le_refl 0⟩ (Nat.le_of_ble_eq_true rfl) dX6_comesOf_13) hP (fun H locs hP => ?_)
    refine gb_i hf (fun hz28 hf => ?_)
    exact r_zret (X := mE Γ) C hP hz28 hf dX6_comesOf_16
-- X6_wrongRow
theorem qX6_wrongRow : Cond.instanceMethod yX6_wrongRow ∈ Ub ∧ Cond.selects RX6 yX6_wrongRow yX6_wrongRow ∈ Ub ∧ Cond.initialized RX6 ∈ Ub ∧ Cond.code yX6_wrongRow cX6_wrongRow 2 (some FieldType.int) ∈ Ub ∧ (yX6_wrongRow.cls = RX6 ∧ yX6_wrongRow.cls ≠ "java/lang/invoke/MethodHandle" ∧ yX6_wrongRow.cls ≠ "java/lang/invoke/VarHandle" ∧ (parseMethodDescriptor yX6_wrongRow.desc).map (fun d => d.parameters.length) = some 1) := ⟨k4_212, ks_26, k1_5, k4_213, by decide +kernel⟩
def fX6_wrongRow  (S : mM) (x1 : Int32) : Option (Int32 × mM) :=
  bd (fX6_in S x1.toInt64 0 7) fun v1 S1 => ( if v1 = 0 then some ((-1), S1) else gi x1 8 (if (S1.1 20 (x1).toNatClampNeg) = 0 then some ((-11), S1) else gi x1 8 (if (S1.1 20 (x1).toNatClampNeg) = (nI 2) then some (nI 0, S1) else some ((-12), S1))))
set_option maxHeartbeats 4000000 in
set_option maxRecDepth 100000 in
theorem mX6_wrongRow (l : Launch) (Γ : gG)   {S : mM} {x1 : Int32} {rz : Int32} {Sz : mM} (hf : fX6_wrongRow S x1 = some (rz, Sz)) : CtI l Γ 28 yX6_wrongRow cX6_wrongRow 2 .int 1 25 [.ref (Γ.2.2 (0)), .int x1] (mE Γ S) rz (mE Γ Sz) := by
  refine met_body (Γ := Γ) (lv := [(0, .ref (Γ.2.2 (0))), (1, .int x1)]) RX6 (by decide) rfl rfl rfl ?_
  intro p e s m below meth c H locs ls C hP hl
  obtain ⟨hx, hb, -, -, hown, hts, -, hwx, -⟩ := id C
  unfold fX6_wrongRow at hf
  refine lv_iload_n hx hb dX6_wrongRow_0 rfl (lv_at hl 1 rfl) ?_
  refine lv_i2l (v := x1.toInt64) hx hb dX6_wrongRow_1 rfl ?_
  refine lv_lconst (v := 0) hx hb dX6_wrongRow_2 (by decide) ?_
  refine lv_ldc2 (v := 7) hx hb hown (hts _ k4_214) dX6_wrongRow_3 ?_
  refine bd_i hf (fun v1 S1 hq1 hf => ?_)
  refine goI (runS (rest := []) (mX6_in l Γ  hq1) C hP hl.1 k4_215 qX6_in.1 qX6_in.2.1 qX6_in.2.2.1 rfl qX6_in.2.2.2 ⟨Nat.le_of_ble_eq_true rfl, Nat.le_of_ble_eq_true rfl⟩ ⟨Nat.le_refl 0, Nat.le_refl 0⟩ (Nat.le_of_ble_eq_true rfl) dX6_wrongRow_6) hP (fun H locs hP => ?_)
  refine lv_if_ne (tgt := 16) hx hb dX6_wrongRow_9 (by decide) (fun hc2 => ?_) (fun hc2 => ?_)
  · have hf := if_f hc2 hf
    refine lv_aload_n hx hb dX6_wrongRow_16 rfl (lv_at hl 0 rfl) ?_
    refine m_get C hP 34 (by decide) k4_87 rfl (v := .ref (Γ.2.2 (20))) rfl dX6_wrongRow_17 ?_
    refine lv_iload_n hx hb dX6_wrongRow_20 rfl (lv_at hl 1 rfl) ?_
    refine gi_i hf (fun hi3 hj4 hf => ?_)
    refine m_ild C hP mA_20 hi3 dX6_wrongRow_21 ?_
    refine lv_if_ne (tgt := 30) hx hb dX6_wrongRow_22 (by decide) (fun hc5 => ?_) (fun hc5 => ?_)
    · have hf := if_f hc5 hf
      refine lv_aload_n hx hb dX6_wrongRow_30 rfl (lv_at hl 0 rfl) ?_
      refine m_get C hP 34 (by decide) k4_87 rfl (v := .ref (Γ.2.2 (20))) rfl dX6_wrongRow_31 ?_
      refine lv_iload_n hx hb dX6_wrongRow_34 rfl (lv_at hl 1 rfl) ?_
      refine gi_i hf (fun hi6 hj7 hf => ?_)
      refine m_ild C hP mA_20 hi6 dX6_wrongRow_35 ?_
      refine lv_iconst (v := nI 2) hx hb dX6_wrongRow_36 rfl ?_
      refine lv_icmp_eq (tgt := 45) hx hb dX6_wrongRow_37 (by decide) (fun hc8 => ?_) (fun hc8 => ?_)
      · have hf := if_t hc8 hf
        refine lv_iconst (v := nI 0) hx hb dX6_wrongRow_45 rfl ?_
        exact r_iret (X := mE Γ) C hP hf dX6_wrongRow_46
      · have hf := if_f hc8 hf
        refine lv_bipush (v := (-12)) hx hb dX6_wrongRow_40 rfl ?_
        refine lv_goto (tgt := 46) hx hb dX6_wrongRow_42 (by decide) ?_
        exact r_iret (X := mE Γ) C hP hf dX6_wrongRow_46
    · have hf := if_t hc5 hf
      refine lv_bipush (v := (-11)) hx hb dX6_wrongRow_25 rfl ?_
      refine lv_goto (tgt := 46) hx hb dX6_wrongRow_27 (by decide) ?_
      exact r_iret (X := mE Γ) C hP hf dX6_wrongRow_46
  · have hf := if_t hc2 hf
    refine lv_iconst (v := (-1)) hx hb dX6_wrongRow_12 rfl ?_
    refine lv_goto (tgt := 46) hx hb dX6_wrongRow_13 (by decide) ?_
    exact r_iret (X := mE Γ) C hP hf dX6_wrongRow_46
-- X6_wrongBytes
theorem qX6_wrongBytes : Cond.instanceMethod yX6_wrongBytes ∈ Ub ∧ Cond.selects RX6 yX6_wrongBytes yX6_wrongBytes ∈ Ub ∧ Cond.initialized RX6 ∈ Ub ∧ Cond.code yX6_wrongBytes cX6_wrongBytes 2 (some FieldType.int) ∈ Ub ∧ (yX6_wrongBytes.cls = RX6 ∧ yX6_wrongBytes.cls ≠ "java/lang/invoke/MethodHandle" ∧ yX6_wrongBytes.cls ≠ "java/lang/invoke/VarHandle" ∧ (parseMethodDescriptor yX6_wrongBytes.desc).map (fun d => d.parameters.length) = some 1) := ⟨k4_208, ks_25, k1_5, k4_209, by decide +kernel⟩
def fX6_wrongBytes  (S : mM) (x1 : Int32) : Option (Int32 × mM) :=
  bd (fX6_wrongRow S x1) fun v1 S1 => ( if (0 : Int32) ≤ v1 then gi x1 8 (if (S1.1 24 (x1).toNatClampNeg) = 0 then some (nI 0, S1) else some ((-12), S1)) else bd (fX6_wrongRow S1 x1) fun v6 S6 => ( some (v6, S6)))
set_option maxHeartbeats 4000000 in
set_option maxRecDepth 100000 in
theorem mX6_wrongBytes (l : Launch) (Γ : gG)   {S : mM} {x1 : Int32} {rz : Int32} {Sz : mM} (hf : fX6_wrongBytes S x1 = some (rz, Sz)) : CtI l Γ 28 yX6_wrongBytes cX6_wrongBytes 2 .int 2 46 [.ref (Γ.2.2 (0)), .int x1] (mE Γ S) rz (mE Γ Sz) := by
  refine met_body (Γ := Γ) (lv := [(0, .ref (Γ.2.2 (0))), (1, .int x1)]) RX6 (by decide) rfl rfl rfl ?_
  intro p e s m below meth c H locs ls C hP hl
  obtain ⟨hx, hb, -, -, hown, hts, -, hwx, -⟩ := id C
  unfold fX6_wrongBytes at hf
  refine lv_aload_n hx hb dX6_wrongBytes_0 rfl (lv_at hl 0 rfl) ?_
  refine lv_iload_n hx hb dX6_wrongBytes_1 rfl (lv_at hl 1 rfl) ?_
  refine bd_i hf (fun v1 S1 hq1 hf => ?_)
  refine goI (runV (rest := []) (b := 0) (mX6_wrongRow l Γ  hq1) C hP hl.1 (by decide) mE0 rfl k4_210 qX6_wrongRow.1 qX6_wrongRow.2.1 qX6_wrongRow.2.2.1 qX6_wrongRow.2.2.2.1 rfl qX6_wrongRow.2.2.2.2 ⟨Nat.le_of_ble_eq_true rfl, Nat.le_of_ble_eq_true rfl⟩ ⟨Nat.le_refl 0, Nat.le_refl 0⟩ (Nat.le_of_ble_eq_true rfl) dX6_wrongBytes_2) hP (fun H locs hP => ?_)
  refine lv_if_ge (tgt := 16) hx hb dX6_wrongBytes_5 (by decide) (fun hc2 => ?_) (fun hc2 => ?_)
  · have hf := if_t hc2 hf
    refine lv_aload_n hx hb dX6_wrongBytes_16 rfl (lv_at hl 0 rfl) ?_
    refine m_get C hP 38 (by decide) k4_91 rfl (v := .ref (Γ.2.2 (24))) rfl dX6_wrongBytes_17 ?_
    refine lv_iload_n hx hb dX6_wrongBytes_20 rfl (lv_at hl 1 rfl) ?_
    refine gi_i hf (fun hi3 hj4 hf => ?_)
    refine m_ild C hP mA_24 hi3 dX6_wrongBytes_21 ?_
    refine lv_if_eq (tgt := 30) hx hb dX6_wrongBytes_22 (by decide) (fun hc5 => ?_) (fun hc5 => ?_)
    · have hf := if_t hc5 hf
      refine lv_iconst (v := nI 0) hx hb dX6_wrongBytes_30 rfl ?_
      exact r_iret (X := mE Γ) C hP hf dX6_wrongBytes_31
    · have hf := if_f hc5 hf
      refine lv_bipush (v := (-12)) hx hb dX6_wrongBytes_25 rfl ?_
      refine lv_goto (tgt := 31) hx hb dX6_wrongBytes_27 (by decide) ?_
      exact r_iret (X := mE Γ) C hP hf dX6_wrongBytes_31
  · have hf := if_f hc2 hf
    refine lv_aload_n hx hb dX6_wrongBytes_8 rfl (lv_at hl 0 rfl) ?_
    refine lv_iload_n hx hb dX6_wrongBytes_9 rfl (lv_at hl 1 rfl) ?_
    refine bd_i hf (fun v6 S6 hq6 hf => ?_)
    refine goI (runV (rest := []) (b := 0) (mX6_wrongRow l Γ  hq6) C hP hl.1 (by decide) mE0 rfl k4_210 qX6_wrongRow.1 qX6_wrongRow.2.1 qX6_wrongRow.2.2.1 qX6_wrongRow.2.2.2.1 rfl qX6_wrongRow.2.2.2.2 ⟨Nat.le_of_ble_eq_true rfl, Nat.le_of_ble_eq_true rfl⟩ ⟨Nat.le_refl 0, Nat.le_refl 0⟩ (Nat.le_of_ble_eq_true rfl) dX6_wrongBytes_10) hP (fun H locs hP => ?_)
    refine lv_goto (tgt := 31) hx hb dX6_wrongBytes_13 (by decide) ?_
    exact r_iret (X := mE Γ) C hP hf dX6_wrongBytes_31
-- X6_border
theorem qX6_border : Cond.instanceMethod yX6_border ∈ Ub ∧ Cond.selects RX6 yX6_border yX6_border ∈ Ub ∧ Cond.initialized RX6 ∈ Ub ∧ Cond.code yX6_border cX6_border 4 (some FieldType.int) ∈ Ub ∧ (yX6_border.cls = RX6 ∧ yX6_border.cls ≠ "java/lang/invoke/MethodHandle" ∧ yX6_border.cls ≠ "java/lang/invoke/VarHandle" ∧ (parseMethodDescriptor yX6_border.desc).map (fun d => d.parameters.length) = some 1) := ⟨k4_203, k4_204, k1_5, k4_205, by decide +kernel⟩
def fX6_border_104   : Nat → mM → Int32 → Option (Int32 × mM)
  | 0, _, _ => none
  | n + 1, S, x3 =>
    if (S.1 0 21) ≤ x3 then some (S.1 0 21, S) else bd (fX6_comesOf S x3) fun v15 S15 => ( if v15 = 0 then bv (fX6_close S15) fun S17 => ( gi x3 51 (some ((-2000) - (S17.1 10 (x3).toNatClampNeg), S17))) else (fX6_border_104   n) S15 (x3 + (nI 1)))
set_option maxHeartbeats 4000000 in
set_option maxRecDepth 100000 in
theorem wX6_border_104 {p : Program} {l : Launch} {e : Env} {s : State} {m : MethodId} {args : Array Value} {below : List Frame} {meth : Method} {c : Code} {Γ : gG} {rz : Int32} {Sz : mM} (C : Cx Γ 28 p s m args meth c RX6 cX6_border 4 (some .int))   : ∀ n : Nat, ∀ (S : mM) (x3 : Int32) , fX6_border_104   n S x3 = some (rz, Sz) → ∀ (H : Heap) (locs : List Loc) (ls : Array Slot), St Γ 28 (mE Γ S) s.heap H locs → lv_has ls 4 [(0, .ref (Γ.2.2 (0))), (3, .int x3)] → W p l e { frames := 6, cells := 0, slots := 0, locals := 132 } s m args below meth c H locs 0 0 (MQ below (gQi Γ 28 rz (mE Γ Sz)) args s 0 0 (wA Γ 28)) (F0 m 104 ls []) := by
  obtain ⟨hx, hb, -, -, hown, hts, -, hwx, -⟩ := id C
  intro n
  induction n with
  | zero =>
    intro S x3 hf
    unfold fX6_border_104 at hf
    cases hf
  | succ n ih =>
    intro S x3 hf H locs ls hP hl
    unfold fX6_border_104 at hf
    refine lv_iload_n hx hb dX6_border_104 rfl (lv_at hl 1 rfl) ?_
    refine lv_aload_n hx hb dX6_border_105 rfl (lv_at hl 0 rfl) ?_
    refine m_get C hP 21 (by decide) k4_74 rfl (v := .int (S.1 0 21)) rfl dX6_border_106 ?_
    refine lv_icmp_ge (tgt := 141) hx hb dX6_border_109 (by decide) (fun hc14 => ?_) (fun hc14 => ?_)
    · have hf := if_t hc14 hf
      refine lv_aload_n hx hb dX6_border_141 rfl (lv_at hl 0 rfl) ?_
      refine m_get C hP 21 (by decide) k4_74 rfl (v := .int (S.1 0 21)) rfl dX6_border_142 ?_
      exact r_iret (X := mE Γ) C hP hf dX6_border_145
    · have hf := if_f hc14 hf
      refine lv_aload_n hx hb dX6_border_112 rfl (lv_at hl 0 rfl) ?_
      refine lv_iload_n hx hb dX6_border_113 rfl (lv_at hl 1 rfl) ?_
      refine bd_i hf (fun v15 S15 hq15 hf => ?_)
      refine goI (runV (rest := []) (b := 0) (mX6_comesOf l Γ  hq15) C hP hl.1 (by decide) mE0 rfl k4_236 qX6_comesOf.1 qX6_comesOf.2.1 qX6_comesOf.2.2.1 qX6_comesOf.2.2.2.1 rfl qX6_comesOf.2.2.2.2 ⟨Nat.le_of_ble_eq_true rfl, Nat.le_of_ble_eq_true rfl⟩ ⟨Nat.le_refl 0, Nat.le_refl 0⟩ (Nat.le_of_ble_eq_true rfl) dX6_border_114) hP (fun H locs hP => ?_)
      refine lv_if_ne (tgt := 135) hx hb dX6_border_117 (by decide) (fun hc16 => ?_) (fun hc16 => ?_)
      · have hf := if_f hc16 hf
        refine lv_iinc (v := x3 + (nI 1)) (lv' := [(3, .int (x3 + (nI 1))), (0, .ref (Γ.2.2 (0)))]) hx hb dX6_border_135 hl (k := 1) rfl rfl (by decide) rfl (fun ls hl => ?_)
        refine lv_goto (tgt := 104) hx hb dX6_border_138 (by decide) ?_
        exact ih S15 (x3 + (nI 1))  hf _ _ _ hP (lv_sub hl [1, 0] rfl)
      · have hf := if_t hc16 hf
        refine lv_aload_n hx hb dX6_border_120 rfl (lv_at hl 0 rfl) ?_
        refine bv_i hf (fun S17 hq17 hf => ?_)
        refine goV (runV (rest := []) (b := 0) (mX6_close l Γ  hq17) C hP hl.1 (by decide) mE0 rfl k5_34 qX6_close.1 qX6_close.2.1 qX6_close.2.2.1 qX6_close.2.2.2.1 rfl qX6_close.2.2.2.2 ⟨Nat.le_of_ble_eq_true rfl, Nat.le_of_ble_eq_true rfl⟩ ⟨Nat.le_refl 0, Nat.le_refl 0⟩ (Nat.le_of_ble_eq_true rfl) dX6_border_121) hP (fun H locs hP => ?_)
        refine lv_sipush (v := (-2000)) hx hb dX6_border_124 rfl ?_
        refine lv_aload_n hx hb dX6_border_127 rfl (lv_at hl 0 rfl) ?_
        refine m_get C hP 22 (by decide) k4_75 rfl (v := .ref (Γ.2.2 (10))) rfl dX6_border_128 ?_
        refine lv_iload_n hx hb dX6_border_131 rfl (lv_at hl 1 rfl) ?_
        refine gi_i hf (fun hi18 hj19 hf => ?_)
        refine m_ild C hP mA_10 hi18 dX6_border_132 ?_
        refine lv_isub hx hb dX6_border_133 ?_
        exact r_iret (X := mE Γ) C hP hf dX6_border_134
def fX6_border_82   (S : mM)  : Option (Int32 × mM) :=
  if (S.1 0 20) = 0 then bv (fX6_open S) fun S13 => ( fX6_border_104   lF S13 (nI 0)) else some ((-1000) - (S.1 0 19), S)
set_option maxHeartbeats 4000000 in
set_option maxRecDepth 100000 in
theorem wX6_border_82 {p : Program} {l : Launch} {e : Env} {s : State} {m : MethodId} {args : Array Value} {below : List Frame} {meth : Method} {c : Code} {Γ : gG} {rz : Int32} {Sz : mM} (C : Cx Γ 28 p s m args meth c RX6 cX6_border 4 (some .int))   : ∀ (S : mM)  , fX6_border_82   S  = some (rz, Sz) → ∀ (H : Heap) (locs : List Loc) (ls : Array Slot), St Γ 28 (mE Γ S) s.heap H locs → lv_has ls 4 [(0, .ref (Γ.2.2 (0)))] → W p l e { frames := 6, cells := 0, slots := 0, locals := 132 } s m args below meth c H locs 0 0 (MQ below (gQi Γ 28 rz (mE Γ Sz)) args s 0 0 (wA Γ 28)) (F0 m 82 ls []) := by
  obtain ⟨hx, hb, -, -, hown, hts, -, hwx, -⟩ := id C
  intro S  hf H locs ls hP hl
  unfold fX6_border_82 at hf
  refine lv_aload_n hx hb dX6_border_82 rfl (lv_at hl 0 rfl) ?_
  refine m_get C hP 20 (by decide) k4_73 rfl (v := .int (S.1 0 20)) rfl dX6_border_83 ?_
  refine lv_if_eq (tgt := 98) hx hb dX6_border_86 (by decide) (fun hc12 => ?_) (fun hc12 => ?_)
  · have hf := if_t hc12 hf
    refine lv_aload_n hx hb dX6_border_98 rfl (lv_at hl 0 rfl) ?_
    refine bv_i hf (fun S13 hq13 hf => ?_)
    refine goV (runV (rest := []) (b := 0) (mX6_open l Γ  hq13) C hP hl.1 (by decide) mE0 rfl k4_232 qX6_open.1 qX6_open.2.1 qX6_open.2.2.1 qX6_open.2.2.2.1 rfl qX6_open.2.2.2.2 ⟨Nat.le_of_ble_eq_true rfl, Nat.le_of_ble_eq_true rfl⟩ ⟨Nat.le_refl 0, Nat.le_refl 0⟩ (Nat.le_of_ble_eq_true rfl) dX6_border_99) hP (fun H locs hP => ?_)
    refine lv_iconst (v := nI 0) hx hb dX6_border_102 rfl ?_
    refine lv_istore_n (lv' := [(3, .int (nI 0)), (0, .ref (Γ.2.2 (0)))]) hx hb dX6_border_103 rfl hl (by decide) rfl (fun ls hl => ?_)
    exact wX6_border_104 C   lF S13 (nI 0)  hf _ _ _ hP (lv_sub hl [1, 0] rfl)
  · have hf := if_f hc12 hf
    refine lv_sipush (v := (-1000)) hx hb dX6_border_89 rfl ?_
    refine lv_aload_n hx hb dX6_border_92 rfl (lv_at hl 0 rfl) ?_
    refine m_get C hP 19 (by decide) k4_72 rfl (v := .int (S.1 0 19)) rfl dX6_border_93 ?_
    refine lv_isub hx hb dX6_border_96 ?_
    exact r_iret (X := mE Γ) C hP hf dX6_border_97
def fX6_border_75  (K50 : mM → Option (Int32 × mM)) (S : mM)  : Option (Int32 × mM) :=
  bv (fX6_readStatement S) fun S21 => ( K50 S21 )
set_option maxHeartbeats 4000000 in
set_option maxRecDepth 100000 in
theorem wX6_border_75 {p : Program} {l : Launch} {e : Env} {s : State} {m : MethodId} {args : Array Value} {below : List Frame} {meth : Method} {c : Code} {Γ : gG} {rz : Int32} {Sz : mM} (C : Cx Γ 28 p s m args meth c RX6 cX6_border 4 (some .int))  {K50 : mM → Option (Int32 × mM)} (hK50 : ∀ (S : mM)  , K50 S  = some (rz, Sz) → ∀ (H : Heap) (locs : List Loc) (ls : Array Slot), St Γ 28 (mE Γ S) s.heap H locs → lv_has ls 4 [(0, .ref (Γ.2.2 (0)))] → W p l e { frames := 6, cells := 0, slots := 0, locals := 132 } s m args below meth c H locs 0 0 (MQ below (gQi Γ 28 rz (mE Γ Sz)) args s 0 0 (wA Γ 28)) (F0 m 50 ls [])) : ∀ (S : mM)  , fX6_border_75  K50 S  = some (rz, Sz) → ∀ (H : Heap) (locs : List Loc) (ls : Array Slot), St Γ 28 (mE Γ S) s.heap H locs → lv_has ls 4 [(0, .ref (Γ.2.2 (0)))] → W p l e { frames := 6, cells := 0, slots := 0, locals := 132 } s m args below meth c H locs 0 0 (MQ below (gQi Γ 28 rz (mE Γ Sz)) args s 0 0 (wA Γ 28)) (F0 m 75 ls []) := by
  obtain ⟨hx, hb, -, -, hown, hts, -, hwx, -⟩ := id C
  intro S  hf H locs ls hP hl
  unfold fX6_border_75 at hf
  refine lv_aload_n hx hb dX6_border_75 rfl (lv_at hl 0 rfl) ?_
  refine bv_i hf (fun S21 hq21 hf => ?_)
  refine goV (runV (rest := []) (b := 0) (mX6_readStatement l Γ  hq21) C hP hl.1 (by decide) mE0 rfl k4_218 qX6_readStatement.1 qX6_readStatement.2.1 qX6_readStatement.2.2.1 qX6_readStatement.2.2.2.1 rfl qX6_readStatement.2.2.2.2 ⟨Nat.le_of_ble_eq_true rfl, Nat.le_of_ble_eq_true rfl⟩ ⟨Nat.le_refl 0, Nat.le_refl 0⟩ (Nat.le_of_ble_eq_true rfl) dX6_border_76) hP (fun H locs hP => ?_)
  refine lv_goto (tgt := 50) hx hb dX6_border_79 (by decide) ?_
  exact hK50 S21   hf _ _ _ hP (lv_sub hl [0] rfl)
def fX6_border_50   : Nat → mM → Option (Int32 × mM)
  | 0, _ => none
  | n + 1, S =>
    if (S.1 0 20) = 0 then if (S.1 0 21) = 0 then fX6_border_75  (fX6_border_50   n)  S  else if (S.1 0 18) ≤ (S.1 0 19) then fX6_border_82    S  else fX6_border_75  (fX6_border_50   n)  S  else fX6_border_82    S 
set_option maxHeartbeats 4000000 in
set_option maxRecDepth 100000 in
theorem wX6_border_50 {p : Program} {l : Launch} {e : Env} {s : State} {m : MethodId} {args : Array Value} {below : List Frame} {meth : Method} {c : Code} {Γ : gG} {rz : Int32} {Sz : mM} (C : Cx Γ 28 p s m args meth c RX6 cX6_border 4 (some .int))   : ∀ n : Nat, ∀ (S : mM)  , fX6_border_50   n S  = some (rz, Sz) → ∀ (H : Heap) (locs : List Loc) (ls : Array Slot), St Γ 28 (mE Γ S) s.heap H locs → lv_has ls 4 [(0, .ref (Γ.2.2 (0)))] → W p l e { frames := 6, cells := 0, slots := 0, locals := 132 } s m args below meth c H locs 0 0 (MQ below (gQi Γ 28 rz (mE Γ Sz)) args s 0 0 (wA Γ 28)) (F0 m 50 ls []) := by
  obtain ⟨hx, hb, -, -, hown, hts, -, hwx, -⟩ := id C
  intro n
  induction n with
  | zero =>
    intro S  hf
    unfold fX6_border_50 at hf
    cases hf
  | succ n ih =>
    intro S  hf H locs ls hP hl
    unfold fX6_border_50 at hf
    refine lv_aload_n hx hb dX6_border_50 rfl (lv_at hl 0 rfl) ?_
    refine m_get C hP 20 (by decide) k4_73 rfl (v := .int (S.1 0 20)) rfl dX6_border_51 ?_
    refine lv_if_ne (tgt := 82) hx hb dX6_border_54 (by decide) (fun hc11 => ?_) (fun hc11 => ?_)
    · have hf := if_f hc11 hf
      exact wX6_border_82 C    S   hf _ _ _ hP (lv_sub hl [0] rfl)
    · have hf := if_t hc11 hf
      refine lv_aload_n hx hb dX6_border_57 rfl (lv_at hl 0 rfl) ?_
      refine m_get C hP 21 (by decide) k4_74 rfl (v := .int (S.1 0 21)) rfl dX6_border_58 ?_
      refine lv_if_eq (tgt := 75) hx hb dX6_border_61 (by decide) (fun hc20 => ?_) (fun hc20 => ?_)
      · have hf := if_t hc20 hf
        exact wX6_border_75 C  ih  S   hf _ _ _ hP (lv_sub hl [0] rfl)
      · have hf := if_f hc20 hf
        refine lv_aload_n hx hb dX6_border_64 rfl (lv_at hl 0 rfl) ?_
        refine m_get C hP 19 (by decide) k4_72 rfl (v := .int (S.1 0 19)) rfl dX6_border_65 ?_
        refine lv_aload_n hx hb dX6_border_68 rfl (lv_at hl 0 rfl) ?_
        refine m_get C hP 18 (by decide) k4_71 rfl (v := .int (S.1 0 18)) rfl dX6_border_69 ?_
        refine lv_icmp_ge (tgt := 82) hx hb dX6_border_72 (by decide) (fun hc22 => ?_) (fun hc22 => ?_)
        · have hf := if_t hc22 hf
          exact wX6_border_82 C    S   hf _ _ _ hP (lv_sub hl [0] rfl)
        · have hf := if_f hc22 hf
          exact wX6_border_75 C  ih  S   hf _ _ _ hP (lv_sub hl [0] rfl)
def fX6_border  (S : mM) (x1 : Int32) : Option (Int32 × mM) :=
  sv (mS S 0 9 (nI 0)) fun S1 => ( bd (fX6_wrongBytes S1 x1) fun v2 S2 => ( if (0 : Int32) ≤ v2 then sv (mS S2 0 17 ((nI 100) * x1)) fun S4 => ( gi x1 8 (sv (mS S4 0 18 (S4.1 25 (x1).toNatClampNeg)) fun S7 => ( sv (mS S7 0 19 (nI 0)) fun S8 => ( sv (mS S8 0 20 (nI 0)) fun S9 => ( sv (mS S9 0 21 (nI 0)) fun S10 => ( fX6_border_50   lF S10 )))))) else some (v2, S2)))
set_option maxHeartbeats 4000000 in
set_option maxRecDepth 100000 in
theorem mX6_border (l : Launch) (Γ : gG)   {S : mM} {x1 : Int32} {rz : Int32} {Sz : mM} (hf : fX6_border S x1 = some (rz, Sz)) : CtI l Γ 28 yX6_border cX6_border 4 .int 6 132 [.ref (Γ.2.2 (0)), .int x1] (mE Γ S) rz (mE Γ Sz) := by
  refine met_body (Γ := Γ) (lv := [(0, .ref (Γ.2.2 (0))), (1, .int x1)]) RX6 (by decide) rfl rfl rfl ?_
  intro p e s m below meth c H locs ls C hP hl
  obtain ⟨hx, hb, -, -, hown, hts, -, hwx, -⟩ := id C
  unfold fX6_border at hf
  refine lv_aload_n hx hb dX6_border_0 rfl (lv_at hl 0 rfl) ?_
  refine lv_iconst (v := nI 0) hx hb dX6_border_1 rfl ?_
  refine m_put C hP 9 (by decide) k4_62 dX6_border_2 (fun H locs hP => ?_)
  refine sv_i hf (fun S1 e1 hf => ?_)
  rw [← e1] at hP
  refine lv_aload_n hx hb dX6_border_5 rfl (lv_at hl 0 rfl) ?_
  refine lv_iload_n hx hb dX6_border_6 rfl (lv_at hl 1 rfl) ?_
  refine bd_i hf (fun v2 S2 hq2 hf => ?_)
  refine goI (runV (rest := []) (b := 0) (mX6_wrongBytes l Γ  hq2) C hP hl.1 (by decide) mE0 rfl k4_206 qX6_wrongBytes.1 qX6_wrongBytes.2.1 qX6_wrongBytes.2.2.1 qX6_wrongBytes.2.2.2.1 rfl qX6_wrongBytes.2.2.2.2 ⟨Nat.le_of_ble_eq_true rfl, Nat.le_of_ble_eq_true rfl⟩ ⟨Nat.le_refl 0, Nat.le_refl 0⟩ (Nat.le_of_ble_eq_true rfl) dX6_border_7) hP (fun H locs hP => ?_)
  refine lv_istore_n (lv' := [(2, .int v2), (0, .ref (Γ.2.2 (0))), (1, .int x1)]) hx hb dX6_border_10 rfl hl (by decide) rfl (fun ls hl => ?_)
  refine lv_iload_n hx hb dX6_border_11 rfl (lv_at hl 0 rfl) ?_
  refine lv_if_ge (tgt := 17) hx hb dX6_border_12 (by decide) (fun hc3 => ?_) (fun hc3 => ?_)
  · have hf := if_t hc3 hf
    refine lv_aload_n hx hb dX6_border_17 rfl (lv_at hl 1 rfl) ?_
    refine lv_bipush (v := nI 100) hx hb dX6_border_18 rfl ?_
    refine lv_iload_n hx hb dX6_border_20 rfl (lv_at hl 2 rfl) ?_
    refine lv_imul hx hb dX6_border_21 ?_
    refine m_put C hP 17 (by decide) k4_70 dX6_border_22 (fun H locs hP => ?_)
    refine sv_i hf (fun S4 e4 hf => ?_)
    rw [← e4] at hP
    refine lv_aload_n hx hb dX6_border_25 rfl (lv_at hl 1 rfl) ?_
    refine lv_aload_n hx hb dX6_border_26 rfl (lv_at hl 1 rfl) ?_
    refine m_get C hP 39 (by decide) k4_92 rfl (v := .ref (Γ.2.2 (25))) rfl dX6_border_27 ?_
    refine lv_iload_n hx hb dX6_border_30 rfl (lv_at hl 2 rfl) ?_
    refine gi_i hf (fun hi5 hj6 hf => ?_)
    refine m_ild C hP mA_25 hi5 dX6_border_31 ?_
    refine m_put C hP 18 (by decide) k4_71 dX6_border_32 (fun H locs hP => ?_)
    refine sv_i hf (fun S7 e7 hf => ?_)
    rw [← e7] at hP
    refine lv_aload_n hx hb dX6_border_35 rfl (lv_at hl 1 rfl) ?_
    refine lv_iconst (v := nI 0) hx hb dX6_border_36 rfl ?_
    refine m_put C hP 19 (by decide) k4_72 dX6_border_37 (fun H locs hP => ?_)
    refine sv_i hf (fun S8 e8 hf => ?_)
    rw [← e8] at hP
    refine lv_aload_n hx hb dX6_border_40 rfl (lv_at hl 1 rfl) ?_
    refine lv_iconst (v := nI 0) hx hb dX6_border_41 rfl ?_
    refine m_putZ C hP 20 (by decide) k4_73 (Or.inl rfl) dX6_border_42 (fun H locs hP => ?_)
    refine sv_i hf (fun S9 e9 hf => ?_)
    rw [← e9] at hP
    refine lv_aload_n hx hb dX6_border_45 rfl (lv_at hl 1 rfl) ?_
    refine lv_iconst (v := nI 0) hx hb dX6_border_46 rfl ?_
    refine m_put C hP 21 (by decide) k4_74 dX6_border_47 (fun H locs hP => ?_)
    refine sv_i hf (fun S10 e10 hf => ?_)
    rw [← e10] at hP
    exact wX6_border_50 C   lF S10   hf _ _ _ hP (lv_sub hl [1] rfl)
  · have hf := if_f hc3 hf
    refine lv_iload_n hx hb dX6_border_15 rfl (lv_at hl 0 rfl) ?_
    exact r_iret (X := mE Γ) C hP hf dX6_border_16
-- X6_lane
theorem qX6_lane : Cond.instanceMethod yX6_lane ∈ Ub ∧ Cond.selects RX6 yX6_lane yX6_lane ∈ Ub ∧ Cond.initialized RX6 ∈ Ub ∧ Cond.code yX6_lane cX6_lane 3 (some FieldType.int) ∈ Ub ∧ (yX6_lane.cls = RX6 ∧ yX6_lane.cls ≠ "java/lang/invoke/MethodHandle" ∧ yX6_lane.cls ≠ "java/lang/invoke/VarHandle" ∧ (parseMethodDescriptor yX6_lane.desc).map (fun d => d.parameters.length) = some 2) := ⟨k5_39, k5_40, k1_5, k5_41, by decide +kernel⟩
def fX6_lane  (S : mM) (x1 : Int32) (x2 : Int32) : Option (Int32 × mM) :=
  sv (mS S 0 9 (nI 0)) fun S1 => ( bd (fX6_isLane S1 x1) fun v2 S2 => ( if v2 = 0 then some ((-1), S2) else bd (fX6_in S2 x2.toInt64 0 8) fun v4 S4 => ( if v4 = 0 then some ((-1), S4) else (if x2 = nI 0 then gi x1 5 (some (S4.1 1 (x1).toNatClampNeg, S4)) else if x2 = nI 1 then gi x1 5 (some (S4.1 2 (x1).toNatClampNeg, S4)) else if x2 = nI 2 then gi x1 5 (some (S4.1 3 (x1).toNatClampNeg, S4)) else if x2 = nI 3 then gi x1 5 (if (S4.1 3 (x1).toNatClampNeg) ≤ 0 then some (nI 0, S4) else gi x1 5 (some (S4.1 4 (x1).toNatClampNeg, S4))) else if x2 = nI 4 then bd (fX6_waitIn S4 x1) fun v22 S22 => ( some (v22, S22)) else if x2 = nI 5 then bd (fX6_seenIn S4 x1) fun v24 S24 => ( some (v24, S24)) else if x2 = nI 6 then bd (fX6_seemsIn S4 x1) fun v26 S26 => ( some (v26, S26)) else if x2 = nI 7 then bd (fX6_isOpen S4 x1) fun v28 S28 => ( if v28 = 0 then some (nI 0, S28) else some (nI 1, S28)) else gi x1 5 (some (S4.1 5 (x1).toNatClampNeg, S4))))))
set_option maxHeartbeats 4000000 in
set_option maxRecDepth 100000 in
theorem mX6_lane (l : Launch) (Γ : gG)   {S : mM} {x1 : Int32} {x2 : Int32} {rz : Int32} {Sz : mM} (hf : fX6_lane S x1 x2 = some (rz, Sz)) : CtI l Γ 28 yX6_lane cX6_lane 3 .int 4 88 [.ref (Γ.2.2 (0)), .int x1, .int x2] (mE Γ S) rz (mE Γ Sz) := by
  refine met_body (Γ := Γ) (lv := [(0, .ref (Γ.2.2 (0))), (1, .int x1), (2, .int x2)]) RX6 (by decide) rfl rfl rfl ?_
  intro p e s m below meth c H locs ls C hP hl
  obtain ⟨hx, hb, -, -, hown, hts, -, hwx, -⟩ := id C
  unfold fX6_lane at hf
  refine lv_aload_n hx hb dX6_lane_0 rfl (lv_at hl 0 rfl) ?_
  refine lv_iconst (v := nI 0) hx hb dX6_lane_1 rfl ?_
  refine m_put C hP 9 (by decide) k4_62 dX6_lane_2 (fun H locs hP => ?_)
  refine sv_i hf (fun S1 e1 hf => ?_)
  rw [← e1] at hP
  refine lv_aload_n hx hb dX6_lane_5 rfl (lv_at hl 0 rfl) ?_
  refine lv_iload_n hx hb dX6_lane_6 rfl (lv_at hl 1 rfl) ?_
  refine bd_i hf (fun v2 S2 hq2 hf => ?_)
  refine goI (runV (rest := []) (b := 0) (mX6_isLane l Γ  hq2) C hP hl.1 (by decide) mE0 rfl k5_30 qX6_isLane.1 qX6_isLane.2.1 qX6_isLane.2.2.1 qX6_isLane.2.2.2.1 rfl qX6_isLane.2.2.2.2 ⟨Nat.le_of_ble_eq_true rfl, Nat.le_of_ble_eq_true rfl⟩ ⟨Nat.le_refl 0, Nat.le_refl 0⟩ (Nat.le_of_ble_eq_true rfl) dX6_lane_7) hP (fun H locs hP => ?_)
  refine lv_if_eq (tgt := 25) hx hb dX6_lane_10 (by decide) (fun hc3 => ?_) (fun hc3 => ?_)
  · have hf := if_t hc3 hf
    refine lv_iconst (v := (-1)) hx hb dX6_lane_25 rfl ?_
    exact r_iret (X := mE Γ) C hP hf dX6_lane_26
  · have hf := if_f hc3 hf
    refine lv_iload_n hx hb dX6_lane_13 rfl (lv_at hl 2 rfl) ?_
    refine lv_i2l (v := x2.toInt64) hx hb dX6_lane_14 rfl ?_
    refine lv_lconst (v := 0) hx hb dX6_lane_15 (by decide) ?_
    refine lv_ldc2 (v := 8) hx hb hown (hts _ k5_42) dX6_lane_16 ?_
    refine bd_i hf (fun v4 S4 hq4 hf => ?_)
    refine goI (runS (rest := []) (mX6_in l Γ  hq4) C hP hl.1 k4_215 qX6_in.1 qX6_in.2.1 qX6_in.2.2.1 rfl qX6_in.2.2.2 ⟨Nat.le_of_ble_eq_true rfl, Nat.le_of_ble_eq_true rfl⟩ ⟨Nat.le_refl 0, Nat.le_refl 0⟩ (Nat.le_of_ble_eq_true rfl) dX6_lane_19) hP (fun H locs hP => ?_)
    refine lv_if_ne (tgt := 27) hx hb dX6_lane_22 (by decide) (fun hc5 => ?_) (fun hc5 => ?_)
    · have hf := if_f hc5 hf
      refine lv_iload_n hx hb dX6_lane_27 rfl (lv_at hl 2 rfl) ?_
      by_cases hs6 : x2 = nI 0
      · have hf := if_t hs6 hf
        refine lv_tableIn (tgt := 76) hx hb dX6_lane_28 (by rw [hs6]; decide) (by rw [hs6]; decide) (by rw [hs6]; rfl) (by decide) ?_
        refine lv_aload_n hx hb dX6_lane_76 rfl (lv_at hl 0 rfl) ?_
        refine m_get C hP 3 (by decide) k4_56 rfl (v := .ref (Γ.2.2 (1))) rfl dX6_lane_77 ?_
        refine lv_iload_n hx hb dX6_lane_80 rfl (lv_at hl 1 rfl) ?_
        refine gi_i hf (fun hi7 hj8 hf => ?_)
        refine m_ild C hP mA_1 hi7 dX6_lane_81 ?_
        exact r_iret (X := mE Γ) C hP hf dX6_lane_82
      · have hf := if_f hs6 hf
        by_cases hs9 : x2 = nI 1
        · have hf := if_t hs9 hf
          refine lv_tableIn (tgt := 83) hx hb dX6_lane_28 (by rw [hs9]; decide) (by rw [hs9]; decide) (by rw [hs9]; rfl) (by decide) ?_
          refine lv_aload_n hx hb dX6_lane_83 rfl (lv_at hl 0 rfl) ?_
          refine m_get C hP 4 (by decide) k4_57 rfl (v := .ref (Γ.2.2 (2))) rfl dX6_lane_84 ?_
          refine lv_iload_n hx hb dX6_lane_87 rfl (lv_at hl 1 rfl) ?_
          refine gi_i hf (fun hi10 hj11 hf => ?_)
          refine m_ild C hP mA_2 hi10 dX6_lane_88 ?_
          exact r_iret (X := mE Γ) C hP hf dX6_lane_89
        · have hf := if_f hs9 hf
          by_cases hs12 : x2 = nI 2
          · have hf := if_t hs12 hf
            refine lv_tableIn (tgt := 90) hx hb dX6_lane_28 (by rw [hs12]; decide) (by rw [hs12]; decide) (by rw [hs12]; rfl) (by decide) ?_
            refine lv_aload_n hx hb dX6_lane_90 rfl (lv_at hl 0 rfl) ?_
            refine m_get C hP 5 (by decide) k4_58 rfl (v := .ref (Γ.2.2 (3))) rfl dX6_lane_91 ?_
            refine lv_iload_n hx hb dX6_lane_94 rfl (lv_at hl 1 rfl) ?_
            refine gi_i hf (fun hi13 hj14 hf => ?_)
            refine m_ild C hP mA_3 hi13 dX6_lane_95 ?_
            exact r_iret (X := mE Γ) C hP hf dX6_lane_96
          · have hf := if_f hs12 hf
            by_cases hs15 : x2 = nI 3
            · have hf := if_t hs15 hf
              refine lv_tableIn (tgt := 97) hx hb dX6_lane_28 (by rw [hs15]; decide) (by rw [hs15]; decide) (by rw [hs15]; rfl) (by decide) ?_
              refine lv_aload_n hx hb dX6_lane_97 rfl (lv_at hl 0 rfl) ?_
              refine m_get C hP 5 (by decide) k4_58 rfl (v := .ref (Γ.2.2 (3))) rfl dX6_lane_98 ?_
              refine lv_iload_n hx hb dX6_lane_101 rfl (lv_at hl 1 rfl) ?_
              refine gi_i hf (fun hi16 hj17 hf => ?_)
              refine m_ild C hP mA_3 hi16 dX6_lane_102 ?_
              refine lv_if_le (tgt := 115) hx hb dX6_lane_103 (by decide) (fun hc18 => ?_) (fun hc18 => ?_)
              · have hf := if_t hc18 hf
                refine lv_iconst (v := nI 0) hx hb dX6_lane_115 rfl ?_
                exact r_iret (X := mE Γ) C hP hf dX6_lane_116
              · have hf := if_f hc18 hf
                refine lv_aload_n hx hb dX6_lane_106 rfl (lv_at hl 0 rfl) ?_
                refine m_get C hP 6 (by decide) k4_59 rfl (v := .ref (Γ.2.2 (4))) rfl dX6_lane_107 ?_
                refine lv_iload_n hx hb dX6_lane_110 rfl (lv_at hl 1 rfl) ?_
                refine gi_i hf (fun hi19 hj20 hf => ?_)
                refine m_ild C hP mA_4 hi19 dX6_lane_111 ?_
                refine lv_goto (tgt := 116) hx hb dX6_lane_112 (by decide) ?_
                exact r_iret (X := mE Γ) C hP hf dX6_lane_116
            · have hf := if_f hs15 hf
              by_cases hs21 : x2 = nI 4
              · have hf := if_t hs21 hf
                refine lv_tableIn (tgt := 117) hx hb dX6_lane_28 (by rw [hs21]; decide) (by rw [hs21]; decide) (by rw [hs21]; rfl) (by decide) ?_
                refine lv_aload_n hx hb dX6_lane_117 rfl (lv_at hl 0 rfl) ?_
                refine lv_iload_n hx hb dX6_lane_118 rfl (lv_at hl 1 rfl) ?_
                refine bd_i hf (fun v22 S22 hq22 hf => ?_)
                refine goI (runV (rest := []) (b := 0) (mX6_waitIn l Γ  hq22) C hP hl.1 (by decide) mE0 rfl k5_43 qX6_waitIn.1 qX6_waitIn.2.1 qX6_waitIn.2.2.1 qX6_waitIn.2.2.2.1 rfl qX6_waitIn.2.2.2.2 ⟨Nat.le_of_ble_eq_true rfl, Nat.le_of_ble_eq_true rfl⟩ ⟨Nat.le_refl 0, Nat.le_refl 0⟩ (Nat.le_of_ble_eq_true rfl) dX6_lane_119) hP (fun H locs hP => ?_)
                exact r_iret (X := mE Γ) C hP hf dX6_lane_122
              · have hf := if_f hs21 hf
                by_cases hs23 : x2 = nI 5
                · have hf := if_t hs23 hf
                  refine lv_tableIn (tgt := 123) hx hb dX6_lane_28 (by rw [hs23]; decide) (by rw [hs23]; decide) (by rw [hs23]; rfl) (by decide) ?_
                  refine lv_aload_n hx hb dX6_lane_123 rfl (lv_at hl 0 rfl) ?_
                  refine lv_iload_n hx hb dX6_lane_124 rfl (lv_at hl 1 rfl) ?_
                  refine bd_i hf (fun v24 S24 hq24 hf => ?_)
                  refine goI (runV (rest := []) (b := 0) (mX6_seenIn l Γ  hq24) C hP hl.1 (by decide) mE0 rfl k5_47 qX6_seenIn.1 qX6_seenIn.2.1 qX6_seenIn.2.2.1 qX6_seenIn.2.2.2.1 rfl qX6_seenIn.2.2.2.2 ⟨Nat.le_of_ble_eq_true rfl, Nat.le_of_ble_eq_true rfl⟩ ⟨Nat.le_refl 0, Nat.le_refl 0⟩ (Nat.le_of_ble_eq_true rfl) dX6_lane_125) hP (fun H locs hP => ?_)
                  exact r_iret (X := mE Γ) C hP hf dX6_lane_128
                · have hf := if_f hs23 hf
                  by_cases hs25 : x2 = nI 6
                  · have hf := if_t hs25 hf
                    refine lv_tableIn (tgt := 129) hx hb dX6_lane_28 (by rw [hs25]; decide) (by rw [hs25]; decide) (by rw [hs25]; rfl) (by decide) ?_
                    refine lv_aload_n hx hb dX6_lane_129 rfl (lv_at hl 0 rfl) ?_
                    refine lv_iload_n hx hb dX6_lane_130 rfl (lv_at hl 1 rfl) ?_
                    refine bd_i hf (fun v26 S26 hq26 hf => ?_)
                    refine goI (runV (rest := []) (b := 0) (mX6_seemsIn l Γ  hq26) C hP hl.1 (by decide) mE0 rfl k5_51 qX6_seemsIn.1 qX6_seemsIn.2.1 qX6_seemsIn.2.2.1 qX6_seemsIn.2.2.2.1 rfl qX6_seemsIn.2.2.2.2 ⟨Nat.le_of_ble_eq_true rfl, Nat.le_of_ble_eq_true rfl⟩ ⟨Nat.le_refl 0, Nat.le_refl 0⟩ (Nat.le_of_ble_eq_true rfl) dX6_lane_131) hP (fun H locs hP => ?_)
                    exact r_iret (X := mE Γ) C hP hf dX6_lane_134
                  · have hf := if_f hs25 hf
                    by_cases hs27 : x2 = nI 7
                    · have hf := if_t hs27 hf
                      refine lv_tableIn (tgt := 135) hx hb dX6_lane_28 (by rw [hs27]; decide) (by rw [hs27]; decide) (by rw [hs27]; rfl) (by decide) ?_
                      refine lv_aload_n hx hb dX6_lane_135 rfl (lv_at hl 0 rfl) ?_
                      refine lv_iload_n hx hb dX6_lane_136 rfl (lv_at hl 1 rfl) ?_
                      refine bd_i hf (fun v28 S28 hq28 hf => ?_)
                      refine goI (runV (rest := []) (b := 0) (mX6_isOpen l Γ  hq28) C hP hl.1 (by decide) mE0 rfl k5_55 qX6_isOpen.1 qX6_isOpen.2.1 qX6_isOpen.2.2.1 qX6_isOpen.2.2.2.1 rfl qX6_isOpen.2.2.2.2 ⟨Nat.le_of_ble_eq_true rfl, Nat.le_of_ble_eq_true rfl⟩ ⟨Nat.le_refl 0, Nat.le_refl 0⟩ (Nat.le_of_ble_eq_true rfl) dX6_lane_137) hP (fun H locs hP => ?_)
                      refine lv_if_eq (tgt := 147) hx hb dX6_lane_140 (by decide) (fun hc29 => ?_) (fun hc29 => ?_)
                      · have hf := if_t hc29 hf
                        refine lv_iconst (v := nI 0) hx hb dX6_lane_147 rfl ?_
                        exact r_iret (X := mE Γ) C hP hf dX6_lane_148
                      · have hf := if_f hc29 hf
                        refine lv_iconst (v := nI 1) hx hb dX6_lane_143 rfl ?_
                        refine lv_goto (tgt := 148) hx hb dX6_lane_144 (by decide) ?_
                        exact r_iret (X := mE Γ) C hP hf dX6_lane_148
                    · have hf := if_f hs27 hf
                      refine lv_tableOut (tgt := 149) hx hb dX6_lane_28 (by have q0 := ne_toInt hs6; have q1 := ne_toInt hs9; have q2 := ne_toInt hs12; have q3 := ne_toInt hs15; have q4 := ne_toInt hs21; have q5 := ne_toInt hs23; have q6 := ne_toInt hs25; have q7 := ne_toInt hs27; rw [show (nI 0).toInt = 0 from by decide] at q0; rw [show (nI 1).toInt = 1 from by decide] at q1; rw [show (nI 2).toInt = 2 from by decide] at q2; rw [show (nI 3).toInt = 3 from by decide] at q3; rw [show (nI 4).toInt = 4 from by decide] at q4; rw [show (nI 5).toInt = 5 from by decide] at q5; rw [show (nI 6).toInt = 6 from by decide] at q6; rw [show (nI 7).toInt = 7 from by decide] at q7;  omega) (by decide) ?_
                      refine lv_aload_n hx hb dX6_lane_149 rfl (lv_at hl 0 rfl) ?_
                      refine m_get C hP 7 (by decide) k4_60 rfl (v := .ref (Γ.2.2 (5))) rfl dX6_lane_150 ?_
                      refine lv_iload_n hx hb dX6_lane_153 rfl (lv_at hl 1 rfl) ?_
                      refine gi_i hf (fun hi30 hj31 hf => ?_)
                      refine m_ild C hP mA_5 hi30 dX6_lane_154 ?_
                      exact r_iret (X := mE Γ) C hP hf dX6_lane_155
    · have hf := if_t hc5 hf
      refine lv_iconst (v := (-1)) hx hb dX6_lane_25 rfl ?_
      exact r_iret (X := mE Γ) C hP hf dX6_lane_26
-- X6_isCar
theorem qX6_isCar : Cond.instanceMethod yX6_isCar ∈ Ub ∧ Cond.selects RX6 yX6_isCar yX6_isCar ∈ Ub ∧ Cond.initialized RX6 ∈ Ub ∧ Cond.code yX6_isCar cX6_isCar 3 (some FieldType.boolean) ∈ Ub ∧ (yX6_isCar.cls = RX6 ∧ yX6_isCar.cls ≠ "java/lang/invoke/MethodHandle" ∧ yX6_isCar.cls ≠ "java/lang/invoke/VarHandle" ∧ (parseMethodDescriptor yX6_isCar.desc).map (fun d => d.parameters.length) = some 2) := ⟨k5_65, ks_44, k1_5, k5_66, by decide +kernel⟩
def fX6_isCar  (S : mM) (x1 : Int32) (x2 : Int32) : Option (Int32 × mM) :=
  bd (fX6_isLane S x1) fun v1 S1 => ( if v1 = 0 then some (nI 0, S1) else gi x1 5 (bd (fX6_in S1 x2.toInt64 0 (((S1.1 3 (x1).toNatClampNeg) - (nI 1)).toInt64)) fun v5 S5 => ( if v5 = 0 then some (nI 0, S5) else some (nI 1, S5))))
set_option maxHeartbeats 4000000 in
set_option maxRecDepth 100000 in
theorem mX6_isCar (l : Launch) (Γ : gG)   {S : mM} {x1 : Int32} {x2 : Int32} {rz : Int32} {Sz : mM} (hf : fX6_isCar S x1 x2 = some (rz, Sz)) : CtI l Γ 28 yX6_isCar cX6_isCar 3 .boolean 2 46 [.ref (Γ.2.2 (0)), .int x1, .int x2] (mE Γ S) rz (mE Γ Sz) := by
  refine met_body (Γ := Γ) (lv := [(0, .ref (Γ.2.2 (0))), (1, .int x1), (2, .int x2)]) RX6 (by decide) rfl rfl rfl ?_
  intro p e s m below meth c H locs ls C hP hl
  obtain ⟨hx, hb, -, -, hown, hts, -, hwx, -⟩ := id C
  unfold fX6_isCar at hf
  refine lv_aload_n hx hb dX6_isCar_0 rfl (lv_at hl 0 rfl) ?_
  refine lv_iload_n hx hb dX6_isCar_1 rfl (lv_at hl 1 rfl) ?_
  refine bd_i hf (fun v1 S1 hq1 hf => ?_)
  refine goI (runV (rest := []) (b := 0) (mX6_isLane l Γ  hq1) C hP hl.1 (by decide) mE0 rfl k5_30 qX6_isLane.1 qX6_isLane.2.1 qX6_isLane.2.2.1 qX6_isLane.2.2.2.1 rfl qX6_isLane.2.2.2.2 ⟨Nat.le_of_ble_eq_true rfl, Nat.le_of_ble_eq_true rfl⟩ ⟨Nat.le_refl 0, Nat.le_refl 0⟩ (Nat.le_of_ble_eq_true rfl) dX6_isCar_2) hP (fun H locs hP => ?_)
  refine lv_if_eq (tgt := 30) hx hb dX6_isCar_5 (by decide) (fun hc2 => ?_) (fun hc2 => ?_)
  · have hf := if_t hc2 hf
    refine lv_iconst (v := nI 0) hx hb dX6_isCar_30 rfl ?_
    exact r_zret (X := mE Γ) C hP (Or.inl rfl) hf dX6_isCar_31
  · have hf := if_f hc2 hf
    refine lv_iload_n hx hb dX6_isCar_8 rfl (lv_at hl 2 rfl) ?_
    refine lv_i2l (v := x2.toInt64) hx hb dX6_isCar_9 rfl ?_
    refine lv_lconst (v := 0) hx hb dX6_isCar_10 (by decide) ?_
    refine lv_aload_n hx hb dX6_isCar_11 rfl (lv_at hl 0 rfl) ?_
    refine m_get C hP 5 (by decide) k4_58 rfl (v := .ref (Γ.2.2 (3))) rfl dX6_isCar_12 ?_
    refine lv_iload_n hx hb dX6_isCar_15 rfl (lv_at hl 1 rfl) ?_
    refine gi_i hf (fun hi3 hj4 hf => ?_)
    refine m_ild C hP mA_3 hi3 dX6_isCar_16 ?_
    refine lv_iconst (v := nI 1) hx hb dX6_isCar_17 rfl ?_
    refine lv_isub hx hb dX6_isCar_18 ?_
    refine lv_i2l (v := ((S1.1 3 (x1).toNatClampNeg) - (nI 1)).toInt64) hx hb dX6_isCar_19 rfl ?_
    refine bd_i hf (fun v5 S5 hq5 hf => ?_)
    refine goI (runS (rest := []) (mX6_in l Γ  hq5) C hP hl.1 k4_215 qX6_in.1 qX6_in.2.1 qX6_in.2.2.1 rfl qX6_in.2.2.2 ⟨Nat.le_of_ble_eq_true rfl, Nat.le_of_ble_eq_true rfl⟩ ⟨Nat.le_refl 0, Nat.le_refl 0⟩ (Nat.le_of_ble_eq_true rfl) dX6_isCar_20) hP (fun H locs hP => ?_)
    refine lv_if_eq (tgt := 30) hx hb dX6_isCar_23 (by decide) (fun hc6 => ?_) (fun hc6 => ?_)
    · have hf := if_t hc6 hf
      refine lv_iconst (v := nI 0) hx hb dX6_isCar_30 rfl ?_
      exact r_zret (X := mE Γ) C hP (Or.inl rfl) hf dX6_isCar_31
    · have hf := if_f hc6 hf
      refine lv_iconst (v := nI 1) hx hb dX6_isCar_26 rfl ?_
      refine lv_goto (tgt := 31) hx hb dX6_isCar_27 (by decide) ?_
      exact r_zret (X := mE Γ) C hP (Or.inr rfl) hf dX6_isCar_31
-- X6_car
theorem qX6_car : Cond.instanceMethod yX6_car ∈ Ub ∧ Cond.selects RX6 yX6_car yX6_car ∈ Ub ∧ Cond.initialized RX6 ∈ Ub ∧ Cond.code yX6_car cX6_car 3 (some FieldType.int) ∈ Ub ∧ (yX6_car.cls = RX6 ∧ yX6_car.cls ≠ "java/lang/invoke/MethodHandle" ∧ yX6_car.cls ≠ "java/lang/invoke/VarHandle" ∧ (parseMethodDescriptor yX6_car.desc).map (fun d => d.parameters.length) = some 2) := ⟨k5_60, k5_61, k1_5, k5_62, by decide +kernel⟩
def fX6_car  (S : mM) (x1 : Int32) (x2 : Int32) : Option (Int32 × mM) :=
  sv (mS S 0 9 (nI 0)) fun S1 => ( bd (fX6_isCar S1 x1 x2) fun v2 S2 => ( if v2 = 0 then some ((-1), S2) else gi (((nI 8) * x1) + x2) 40 (some (S2.1 6 (((nI 8) * x1) + x2).toNatClampNeg, S2))))
set_option maxHeartbeats 4000000 in
set_option maxRecDepth 100000 in
theorem mX6_car (l : Launch) (Γ : gG)   {S : mM} {x1 : Int32} {x2 : Int32} {rz : Int32} {Sz : mM} (hf : fX6_car S x1 x2 = some (rz, Sz)) : CtI l Γ 28 yX6_car cX6_car 3 .int 3 68 [.ref (Γ.2.2 (0)), .int x1, .int x2] (mE Γ S) rz (mE Γ Sz) := by
  refine met_body (Γ := Γ) (lv := [(0, .ref (Γ.2.2 (0))), (1, .int x1), (2, .int x2)]) RX6 (by decide) rfl rfl rfl ?_
  intro p e s m below meth c H locs ls C hP hl
  obtain ⟨hx, hb, -, -, hown, hts, -, hwx, -⟩ := id C
  unfold fX6_car at hf
  refine lv_aload_n hx hb dX6_car_0 rfl (lv_at hl 0 rfl) ?_
  refine lv_iconst (v := nI 0) hx hb dX6_car_1 rfl ?_
  refine m_put C hP 9 (by decide) k4_62 dX6_car_2 (fun H locs hP => ?_)
  refine sv_i hf (fun S1 e1 hf => ?_)
  rw [← e1] at hP
  refine lv_aload_n hx hb dX6_car_5 rfl (lv_at hl 0 rfl) ?_
  refine lv_iload_n hx hb dX6_car_6 rfl (lv_at hl 1 rfl) ?_
  refine lv_iload_n hx hb dX6_car_7 rfl (lv_at hl 2 rfl) ?_
  refine bd_i hf (fun v2 S2 hq2 hf => ?_)
  refine goI (runV (rest := []) (b := 0) (mX6_isCar l Γ  hq2) C hP hl.1 (by decide) mE0 rfl k5_63 qX6_isCar.1 qX6_isCar.2.1 qX6_isCar.2.2.1 qX6_isCar.2.2.2.1 rfl qX6_isCar.2.2.2.2 ⟨Nat.le_of_ble_eq_true rfl, Nat.le_of_ble_eq_true rfl⟩ ⟨Nat.le_refl 0, Nat.le_refl 0⟩ (Nat.le_of_ble_eq_true rfl) dX6_car_8) hP (fun H locs hP => ?_)
  refine lv_if_eq (tgt := 28) hx hb dX6_car_11 (by decide) (fun hc3 => ?_) (fun hc3 => ?_)
  · have hf := if_t hc3 hf
    refine lv_iconst (v := (-1)) hx hb dX6_car_28 rfl ?_
    exact r_iret (X := mE Γ) C hP hf dX6_car_29
  · have hf := if_f hc3 hf
    refine lv_aload_n hx hb dX6_car_14 rfl (lv_at hl 0 rfl) ?_
    refine m_get C hP 8 (by decide) k4_61 rfl (v := .ref (Γ.2.2 (6))) rfl dX6_car_15 ?_
    refine lv_bipush (v := nI 8) hx hb dX6_car_18 rfl ?_
    refine lv_iload_n hx hb dX6_car_20 rfl (lv_at hl 1 rfl) ?_
    refine lv_imul hx hb dX6_car_21 ?_
    refine lv_iload_n hx hb dX6_car_22 rfl (lv_at hl 2 rfl) ?_
    refine lv_iadd hx hb dX6_car_23 ?_
    refine gi_i hf (fun hi4 hj5 hf => ?_)
    refine m_ild C hP mA_6 hi4 dX6_car_24 ?_
    refine lv_goto (tgt := 29) hx hb dX6_car_25 (by decide) ?_
    exact r_iret (X := mE Γ) C hP hf dX6_car_29
