-- X6_findLine
theorem qX6_findLine : Cond.instanceMethod yX6_findLine ∈ Ub ∧ Cond.selects RX6 yX6_findLine yX6_findLine ∈ Ub ∧ Cond.initialized RX6 ∈ Ub ∧ Cond.code yX6_findLine cX6_findLine 3 (none : Option Jvm.ClassFile.FieldType) ∈ Ub ∧ (yX6_findLine.cls = RX6 ∧ yX6_findLine.cls ≠ "java/lang/invoke/MethodHandle" ∧ yX6_findLine.cls ≠ "java/lang/invoke/VarHandle" ∧ (parseMethodDescriptor yX6_findLine.desc).map (fun d => d.parameters.length) = some 0) := ⟨k5_176, ks_57, k1_5, k5_177, by decide +kernel⟩
def fX6_findLine_17  (K7 : mM → Int32 → Option mM) : Nat → mM → Int32 → Int32 → Option mM
  | 0, _, _, _ => none
  | n + 1, S, x1, x2 =>
    gi x1 5 (if (S.1 3 (x1).toNatClampNeg) ≤ x2 then K7 S (x1 + (nI 1)) else gi (((nI 8) * x1) + x2) 40 (gi (S.1 0 29) 40 (sv (mS S 16 ((S.1 0 29).toNatClampNeg) (S.1 6 (((nI 8) * x1) + x2).toNatClampNeg)) fun S10 => ( sv (mS S10 0 29 ((S10.1 0 29) + (nI 1))) fun S11 => ( (fX6_findLine_17  K7 n) S11 x1 (x2 + (nI 1)))))))
set_option maxHeartbeats 4000000 in
set_option maxRecDepth 100000 in
theorem wX6_findLine_17 {p : Program} {l : Launch} {e : Env} {s : State} {m : MethodId} {args : Array Value} {below : List Frame} {meth : Method} {c : Code} {Γ : gG} {Sz : mM} (C : Cx Γ 28 p s m args meth c RX6 cX6_findLine 3 none)  {K7 : mM → Int32 → Option mM} (hK7 : ∀ (S : mM) (x1 : Int32) , K7 S x1 = some Sz → ∀ (H : Heap) (locs : List Loc) (ls : Array Slot), St Γ 28 (mE Γ S) s.heap H locs → lv_has ls 3 [(0, .ref (Γ.2.2 (0))), (1, .int x1)] → W p l e { frames := 0, cells := 0, slots := 0, locals := 0 } s m args below meth c H locs 0 0 (MQ below (gQv Γ 28 (mE Γ Sz)) args s 0 0 (wA Γ 28)) (F0 m 7 ls [])) : ∀ n : Nat, ∀ (S : mM) (x1 : Int32) (x2 : Int32) , fX6_findLine_17  K7 n S x1 x2 = some Sz → ∀ (H : Heap) (locs : List Loc) (ls : Array Slot), St Γ 28 (mE Γ S) s.heap H locs → lv_has ls 3 [(0, .ref (Γ.2.2 (0))), (1, .int x1), (2, .int x2)] → W p l e { frames := 0, cells := 0, slots := 0, locals := 0 } s m args below meth c H locs 0 0 (MQ below (gQv Γ 28 (mE Γ Sz)) args s 0 0 (wA Γ 28)) (F0 m 17 ls []) := by
  obtain ⟨hx, hb, -, -, hown, hts, -, hwx, -⟩ := id C
  intro n
  induction n with
  | zero =>
    intro S x1 x2 hf
    unfold fX6_findLine_17 at hf
    cases hf
  | succ n ih =>
    intro S x1 x2 hf H locs ls hP hl
    unfold fX6_findLine_17 at hf
    refine lv_iload_n hx hb dX6_findLine_17 rfl (lv_at hl 2 rfl) ?_
    refine lv_aload_n hx hb dX6_findLine_18 rfl (lv_at hl 0 rfl) ?_
    refine m_get C hP 5 (by decide) k4_58 rfl (v := .ref (Γ.2.2 (3))) rfl dX6_findLine_19 ?_
    refine lv_iload_n hx hb dX6_findLine_22 rfl (lv_at hl 1 rfl) ?_
    refine gi_i hf (fun hi3 hj4 hf => ?_)
    refine m_ild C hP mA_3 hi3 dX6_findLine_23 ?_
    refine lv_icmp_ge (tgt := 63) hx hb dX6_findLine_24 (by decide) (fun hc5 => ?_) (fun hc5 => ?_)
    · have hf := if_t hc5 hf
      refine lv_iinc (v := x1 + (nI 1)) (lv' := [(1, .int (x1 + (nI 1))), (0, .ref (Γ.2.2 (0))), (2, .int x2)]) hx hb dX6_findLine_63 hl (k := 1) rfl rfl (by decide) rfl (fun ls hl => ?_)
      refine lv_goto (tgt := 7) hx hb dX6_findLine_66 (by decide) ?_
      exact hK7 S (x1 + (nI 1))  hf _ _ _ hP (lv_sub hl [1, 0] rfl)
    · have hf := if_f hc5 hf
      refine lv_aload_n hx hb dX6_findLine_27 rfl (lv_at hl 0 rfl) ?_
      refine m_get C hP 28 (by decide) k4_81 rfl (v := .ref (Γ.2.2 (16))) rfl dX6_findLine_28 ?_
      refine lv_aload_n hx hb dX6_findLine_31 rfl (lv_at hl 0 rfl) ?_
      refine m_get C hP 29 (by decide) k4_82 rfl (v := .int (S.1 0 29)) rfl dX6_findLine_32 ?_
      refine lv_aload_n hx hb dX6_findLine_35 rfl (lv_at hl 0 rfl) ?_
      refine m_get C hP 8 (by decide) k4_61 rfl (v := .ref (Γ.2.2 (6))) rfl dX6_findLine_36 ?_
      refine lv_bipush (v := nI 8) hx hb dX6_findLine_39 rfl ?_
      refine lv_iload_n hx hb dX6_findLine_41 rfl (lv_at hl 1 rfl) ?_
      refine lv_imul hx hb dX6_findLine_42 ?_
      refine lv_iload_n hx hb dX6_findLine_43 rfl (lv_at hl 2 rfl) ?_
      refine lv_iadd hx hb dX6_findLine_44 ?_
      refine gi_i hf (fun hi6 hj7 hf => ?_)
      refine m_ild C hP mA_6 hi6 dX6_findLine_45 ?_
      refine gi_i hf (fun hi8 hj9 hf => ?_)
      refine m_ist C hP mA_16 hi8 dX6_findLine_46 (fun H locs hP => ?_)
      refine sv_i hf (fun S10 e10 hf => ?_)
      rw [← e10] at hP
      refine lv_aload_n hx hb dX6_findLine_47 rfl (lv_at hl 0 rfl) ?_
      refine lv_dup hx hb dX6_findLine_48 rfl ?_
      refine m_get C hP 29 (by decide) k4_82 rfl (v := .int (S10.1 0 29)) rfl dX6_findLine_49 ?_
      refine lv_iconst (v := nI 1) hx hb dX6_findLine_52 rfl ?_
      refine lv_iadd hx hb dX6_findLine_53 ?_
      refine m_put C hP 29 (by decide) k4_82 dX6_findLine_54 (fun H locs hP => ?_)
      refine sv_i hf (fun S11 e11 hf => ?_)
      rw [← e11] at hP
      refine lv_iinc (v := x2 + (nI 1)) (lv' := [(2, .int (x2 + (nI 1))), (0, .ref (Γ.2.2 (0))), (1, .int x1)]) hx hb dX6_findLine_57 hl (k := 2) rfl rfl (by decide) rfl (fun ls hl => ?_)
      refine lv_goto (tgt := 17) hx hb dX6_findLine_60 (by decide) ?_
      exact ih S11 x1 (x2 + (nI 1))  hf _ _ _ hP (lv_sub hl [1, 2, 0] rfl)
def fX6_findLine_7   : Nat → mM → Int32 → Option mM
  | 0, _, _ => none
  | n + 1, S, x1 =>
    if (S.1 0 0) ≤ x1 then some S else fX6_findLine_17  (fX6_findLine_7   n) lF S x1 (nI 1)
set_option maxHeartbeats 4000000 in
set_option maxRecDepth 100000 in
theorem wX6_findLine_7 {p : Program} {l : Launch} {e : Env} {s : State} {m : MethodId} {args : Array Value} {below : List Frame} {meth : Method} {c : Code} {Γ : gG} {Sz : mM} (C : Cx Γ 28 p s m args meth c RX6 cX6_findLine 3 none)   : ∀ n : Nat, ∀ (S : mM) (x1 : Int32) , fX6_findLine_7   n S x1 = some Sz → ∀ (H : Heap) (locs : List Loc) (ls : Array Slot), St Γ 28 (mE Γ S) s.heap H locs → lv_has ls 3 [(0, .ref (Γ.2.2 (0))), (1, .int x1)] → W p l e { frames := 0, cells := 0, slots := 0, locals := 0 } s m args below meth c H locs 0 0 (MQ below (gQv Γ 28 (mE Γ Sz)) args s 0 0 (wA Γ 28)) (F0 m 7 ls []) := by
  obtain ⟨hx, hb, -, -, hown, hts, -, hwx, -⟩ := id C
  intro n
  induction n with
  | zero =>
    intro S x1 hf
    unfold fX6_findLine_7 at hf
    cases hf
  | succ n ih =>
    intro S x1 hf H locs ls hP hl
    unfold fX6_findLine_7 at hf
    refine lv_iload_n hx hb dX6_findLine_7 rfl (lv_at hl 1 rfl) ?_
    refine lv_aload_n hx hb dX6_findLine_8 rfl (lv_at hl 0 rfl) ?_
    refine m_get C hP 0 (by decide) k4_53 rfl (v := .int (S.1 0 0)) rfl dX6_findLine_9 ?_
    refine lv_icmp_ge (tgt := 69) hx hb dX6_findLine_12 (by decide) (fun hc2 => ?_) (fun hc2 => ?_)
    · have hf := if_t hc2 hf
      exact r_vret (X := mE Γ) C hP hf dX6_findLine_69
    · have hf := if_f hc2 hf
      refine lv_iconst (v := nI 1) hx hb dX6_findLine_15 rfl ?_
      refine lv_istore_n (lv' := [(2, .int (nI 1)), (0, .ref (Γ.2.2 (0))), (1, .int x1)]) hx hb dX6_findLine_16 rfl hl (by decide) rfl (fun ls hl => ?_)
      exact wX6_findLine_17 C  ih lF S x1 (nI 1)  hf _ _ _ hP (lv_sub hl [1, 2, 0] rfl)
def fX6_findLine  (S : mM)  : Option mM :=
  sv (mS S 0 29 (nI 0)) fun S1 => ( fX6_findLine_7   lF S1 (nI 0))
set_option maxHeartbeats 4000000 in
set_option maxRecDepth 100000 in
theorem mX6_findLine (l : Launch) (Γ : gG)   {S : mM}  {Sz : mM} (hf : fX6_findLine S = some Sz) : CtV l Γ 28 yX6_findLine cX6_findLine 3 0 0 [.ref (Γ.2.2 (0))] (mE Γ S) (mE Γ Sz) := by
  refine met_body (Γ := Γ) (lv := [(0, .ref (Γ.2.2 (0)))]) RX6 (by decide) rfl rfl rfl ?_
  intro p e s m below meth c H locs ls C hP hl
  obtain ⟨hx, hb, -, -, hown, hts, -, hwx, -⟩ := id C
  unfold fX6_findLine at hf
  refine lv_aload_n hx hb dX6_findLine_0 rfl (lv_at hl 0 rfl) ?_
  refine lv_iconst (v := nI 0) hx hb dX6_findLine_1 rfl ?_
  refine m_put C hP 29 (by decide) k4_82 dX6_findLine_2 (fun H locs hP => ?_)
  refine sv_i hf (fun S1 e1 hf => ?_)
  rw [← e1] at hP
  refine lv_iconst (v := nI 0) hx hb dX6_findLine_5 rfl ?_
  refine lv_istore_n (lv' := [(1, .int (nI 0)), (0, .ref (Γ.2.2 (0)))]) hx hb dX6_findLine_6 rfl hl (by decide) rfl (fun ls hl => ?_)
  exact wX6_findLine_7 C   lF S1 (nI 0)  hf _ _ _ hP (lv_sub hl [1, 0] rfl)
-- X6_sumOfFirst
theorem qX6_sumOfFirst : Cond.instanceMethod yX6_sumOfFirst ∈ Ub ∧ Cond.selects RX6 yX6_sumOfFirst yX6_sumOfFirst ∈ Ub ∧ Cond.initialized RX6 ∈ Ub ∧ Cond.code yX6_sumOfFirst cX6_sumOfFirst 3 (some FieldType.int) ∈ Ub ∧ (yX6_sumOfFirst.cls = RX6 ∧ yX6_sumOfFirst.cls ≠ "java/lang/invoke/MethodHandle" ∧ yX6_sumOfFirst.cls ≠ "java/lang/invoke/VarHandle" ∧ (parseMethodDescriptor yX6_sumOfFirst.desc).map (fun d => d.parameters.length) = some 0) := ⟨k5_184, ks_59, k1_5, k5_185, by decide +kernel⟩
def fX6_sumOfFirst_32  (K4 : mM → Int32 → Int32 → Option (Int32 × mM)) (S : mM) (x2 : Int32) (y0 : Int32) (y1 : Int32) : Option (Int32 × mM) :=
  K4 S (y0 + y1) (x2 + (nI 1))
set_option maxHeartbeats 4000000 in
set_option maxRecDepth 100000 in
theorem wX6_sumOfFirst_32 {p : Program} {l : Launch} {e : Env} {s : State} {m : MethodId} {args : Array Value} {below : List Frame} {meth : Method} {c : Code} {Γ : gG} {rz : Int32} {Sz : mM} (C : Cx Γ 28 p s m args meth c RX6 cX6_sumOfFirst 3 (some .int))  {K4 : mM → Int32 → Int32 → Option (Int32 × mM)} (hK4 : ∀ (S : mM) (x1 : Int32) (x2 : Int32) , K4 S x1 x2 = some (rz, Sz) → ∀ (H : Heap) (locs : List Loc) (ls : Array Slot), St Γ 28 (mE Γ S) s.heap H locs → lv_has ls 3 [(0, .ref (Γ.2.2 (0))), (1, .int x1), (2, .int x2)] → W p l e { frames := 0, cells := 0, slots := 0, locals := 0 } s m args below meth c H locs 0 0 (MQ below (gQi Γ 28 rz (mE Γ Sz)) args s 0 0 (wA Γ 28)) (F0 m 4 ls [])) : ∀ (S : mM) (x2 : Int32) (y0 : Int32) (y1 : Int32) , fX6_sumOfFirst_32  K4 S x2 y0 y1 = some (rz, Sz) → ∀ (H : Heap) (locs : List Loc) (ls : Array Slot), St Γ 28 (mE Γ S) s.heap H locs → lv_has ls 3 [(0, .ref (Γ.2.2 (0))), (2, .int x2)] → W p l e { frames := 0, cells := 0, slots := 0, locals := 0 } s m args below meth c H locs 0 0 (MQ below (gQi Γ 28 rz (mE Γ Sz)) args s 0 0 (wA Γ 28)) (F0 m 32 ls [.int y1, .int y0]) := by
  obtain ⟨hx, hb, -, -, hown, hts, -, hwx, -⟩ := id C
  intro S x2 y0 y1 hf H locs ls hP hl
  unfold fX6_sumOfFirst_32 at hf
  refine lv_iadd hx hb dX6_sumOfFirst_32 ?_
  refine lv_istore_n (lv' := [(1, .int (y0 + y1)), (0, .ref (Γ.2.2 (0))), (2, .int x2)]) hx hb dX6_sumOfFirst_33 rfl hl (by decide) rfl (fun ls hl => ?_)
  refine lv_iinc (v := x2 + (nI 1)) (lv' := [(2, .int (x2 + (nI 1))), (1, .int (y0 + y1)), (0, .ref (Γ.2.2 (0)))]) hx hb dX6_sumOfFirst_34 hl (k := 2) rfl rfl (by decide) rfl (fun ls hl => ?_)
  refine lv_goto (tgt := 4) hx hb dX6_sumOfFirst_37 (by decide) ?_
  exact hK4 S (y0 + y1) (x2 + (nI 1))  hf _ _ _ hP (lv_sub hl [2, 1, 0] rfl)
def fX6_sumOfFirst_4   : Nat → mM → Int32 → Int32 → Option (Int32 × mM)
  | 0, _, _, _ => none
  | n + 1, S, x1, x2 =>
    if (S.1 0 0) ≤ x2 then some (x1, S) else gi x2 5 (if (S.1 3 (x2).toNatClampNeg) ≤ 0 then fX6_sumOfFirst_32  (fX6_sumOfFirst_4   n)  S x2 x1 (nI 0) else gi x2 5 (fX6_sumOfFirst_32  (fX6_sumOfFirst_4   n)  S x2 x1 (S.1 4 (x2).toNatClampNeg)))
set_option maxHeartbeats 4000000 in
set_option maxRecDepth 100000 in
theorem wX6_sumOfFirst_4 {p : Program} {l : Launch} {e : Env} {s : State} {m : MethodId} {args : Array Value} {below : List Frame} {meth : Method} {c : Code} {Γ : gG} {rz : Int32} {Sz : mM} (C : Cx Γ 28 p s m args meth c RX6 cX6_sumOfFirst 3 (some .int))   : ∀ n : Nat, ∀ (S : mM) (x1 : Int32) (x2 : Int32) , fX6_sumOfFirst_4   n S x1 x2 = some (rz, Sz) → ∀ (H : Heap) (locs : List Loc) (ls : Array Slot), St Γ 28 (mE Γ S) s.heap H locs → lv_has ls 3 [(0, .ref (Γ.2.2 (0))), (1, .int x1), (2, .int x2)] → W p l e { frames := 0, cells := 0, slots := 0, locals := 0 } s m args below meth c H locs 0 0 (MQ below (gQi Γ 28 rz (mE Γ Sz)) args s 0 0 (wA Γ 28)) (F0 m 4 ls []) := by
  obtain ⟨hx, hb, -, -, hown, hts, -, hwx, -⟩ := id C
  intro n
  induction n with
  | zero =>
    intro S x1 x2 hf
    unfold fX6_sumOfFirst_4 at hf
    cases hf
  | succ n ih =>
    intro S x1 x2 hf H locs ls hP hl
    unfold fX6_sumOfFirst_4 at hf
    refine lv_iload_n hx hb dX6_sumOfFirst_4 rfl (lv_at hl 2 rfl) ?_
    refine lv_aload_n hx hb dX6_sumOfFirst_5 rfl (lv_at hl 0 rfl) ?_
    refine m_get C hP 0 (by decide) k4_53 rfl (v := .int (S.1 0 0)) rfl dX6_sumOfFirst_6 ?_
    refine lv_icmp_ge (tgt := 40) hx hb dX6_sumOfFirst_9 (by decide) (fun hc1 => ?_) (fun hc1 => ?_)
    · have hf := if_t hc1 hf
      refine lv_iload_n hx hb dX6_sumOfFirst_40 rfl (lv_at hl 1 rfl) ?_
      exact r_iret (X := mE Γ) C hP hf dX6_sumOfFirst_41
    · have hf := if_f hc1 hf
      refine lv_iload_n hx hb dX6_sumOfFirst_12 rfl (lv_at hl 1 rfl) ?_
      refine lv_aload_n hx hb dX6_sumOfFirst_13 rfl (lv_at hl 0 rfl) ?_
      refine m_get C hP 5 (by decide) k4_58 rfl (v := .ref (Γ.2.2 (3))) rfl dX6_sumOfFirst_14 ?_
      refine lv_iload_n hx hb dX6_sumOfFirst_17 rfl (lv_at hl 2 rfl) ?_
      refine gi_i hf (fun hi2 hj3 hf => ?_)
      refine m_ild C hP mA_3 hi2 dX6_sumOfFirst_18 ?_
      refine lv_if_le (tgt := 31) hx hb dX6_sumOfFirst_19 (by decide) (fun hc4 => ?_) (fun hc4 => ?_)
      · have hf := if_t hc4 hf
        refine lv_iconst (v := nI 0) hx hb dX6_sumOfFirst_31 rfl ?_
        exact wX6_sumOfFirst_32 C  ih  S x2 x1 (nI 0)  hf _ _ _ hP (lv_sub hl [0, 2] rfl)
      · have hf := if_f hc4 hf
        refine lv_aload_n hx hb dX6_sumOfFirst_22 rfl (lv_at hl 0 rfl) ?_
        refine m_get C hP 6 (by decide) k4_59 rfl (v := .ref (Γ.2.2 (4))) rfl dX6_sumOfFirst_23 ?_
        refine lv_iload_n hx hb dX6_sumOfFirst_26 rfl (lv_at hl 2 rfl) ?_
        refine gi_i hf (fun hi5 hj6 hf => ?_)
        refine m_ild C hP mA_4 hi5 dX6_sumOfFirst_27 ?_
        refine lv_goto (tgt := 32) hx hb dX6_sumOfFirst_28 (by decide) ?_
        exact wX6_sumOfFirst_32 C  ih  S x2 x1 (S.1 4 (x2).toNatClampNeg)  hf _ _ _ hP (lv_sub hl [0, 2] rfl)
def fX6_sumOfFirst  (S : mM)  : Option (Int32 × mM) :=
  fX6_sumOfFirst_4   lF S (nI 0) (nI 0)
set_option maxHeartbeats 4000000 in
set_option maxRecDepth 100000 in
theorem mX6_sumOfFirst (l : Launch) (Γ : gG)   {S : mM}  {rz : Int32} {Sz : mM} (hf : fX6_sumOfFirst S = some (rz, Sz)) : CtI l Γ 28 yX6_sumOfFirst cX6_sumOfFirst 3 .int 0 0 [.ref (Γ.2.2 (0))] (mE Γ S) rz (mE Γ Sz) := by
  refine met_body (Γ := Γ) (lv := [(0, .ref (Γ.2.2 (0)))]) RX6 (by decide) rfl rfl rfl ?_
  intro p e s m below meth c H locs ls C hP hl
  obtain ⟨hx, hb, -, -, hown, hts, -, hwx, -⟩ := id C
  unfold fX6_sumOfFirst at hf
  refine lv_iconst (v := nI 0) hx hb dX6_sumOfFirst_0 rfl ?_
  refine lv_istore_n (lv' := [(1, .int (nI 0)), (0, .ref (Γ.2.2 (0)))]) hx hb dX6_sumOfFirst_1 rfl hl (by decide) rfl (fun ls hl => ?_)
  refine lv_iconst (v := nI 0) hx hb dX6_sumOfFirst_2 rfl ?_
  refine lv_istore_n (lv' := [(2, .int (nI 0)), (1, .int (nI 0)), (0, .ref (Γ.2.2 (0)))]) hx hb dX6_sumOfFirst_3 rfl hl (by decide) rfl (fun ls hl => ?_)
  exact wX6_sumOfFirst_4 C   lF S (nI 0) (nI 0)  hf _ _ _ hP (lv_sub hl [2, 1, 0] rfl)
-- X6_beginFree
theorem qX6_beginFree : Cond.instanceMethod yX6_beginFree ∈ Ub ∧ Cond.selects RX6 yX6_beginFree yX6_beginFree ∈ Ub ∧ Cond.initialized RX6 ∈ Ub ∧ Cond.code yX6_beginFree cX6_beginFree 3 (none : Option Jvm.ClassFile.FieldType) ∈ Ub ∧ (yX6_beginFree.cls = RX6 ∧ yX6_beginFree.cls ≠ "java/lang/invoke/MethodHandle" ∧ yX6_beginFree.cls ≠ "java/lang/invoke/VarHandle" ∧ (parseMethodDescriptor yX6_beginFree.desc).map (fun d => d.parameters.length) = some 1) := ⟨k5_180, ks_58, k1_5, k5_181, by decide +kernel⟩
def fX6_beginFree_43  (K2 : mM → Int32 → Int32 → Option mM) (S : mM) (x1 : Int32) (x2 : Int32) (y1 : Int32) (y2 : Int32) : Option mM :=
  gi y1 5 (sv (mS S 17 ((y1).toNatClampNeg) y2) fun S5 => ( K2 S5 x1 (x2 + (nI 1))))
set_option maxHeartbeats 4000000 in
set_option maxRecDepth 100000 in
theorem wX6_beginFree_43 {p : Program} {l : Launch} {e : Env} {s : State} {m : MethodId} {args : Array Value} {below : List Frame} {meth : Method} {c : Code} {Γ : gG} {Sz : mM} (C : Cx Γ 28 p s m args meth c RX6 cX6_beginFree 3 none)  {K2 : mM → Int32 → Int32 → Option mM} (hK2 : ∀ (S : mM) (x1 : Int32) (x2 : Int32) , K2 S x1 x2 = some Sz → ∀ (H : Heap) (locs : List Loc) (ls : Array Slot), St Γ 28 (mE Γ S) s.heap H locs → lv_has ls 3 [(0, .ref (Γ.2.2 (0))), (1, .int x1), (2, .int x2)] → W p l e { frames := 0, cells := 0, slots := 0, locals := 0 } s m args below meth c H locs 0 0 (MQ below (gQv Γ 28 (mE Γ Sz)) args s 0 0 (wA Γ 28)) (F0 m 2 ls [])) : ∀ (S : mM) (x1 : Int32) (x2 : Int32) (y1 : Int32) (y2 : Int32) , fX6_beginFree_43  K2 S x1 x2 y1 y2 = some Sz → ∀ (H : Heap) (locs : List Loc) (ls : Array Slot), St Γ 28 (mE Γ S) s.heap H locs → lv_has ls 3 [(0, .ref (Γ.2.2 (0))), (1, .int x1), (2, .int x2)] → W p l e { frames := 0, cells := 0, slots := 0, locals := 0 } s m args below meth c H locs 0 0 (MQ below (gQv Γ 28 (mE Γ Sz)) args s 0 0 (wA Γ 28)) (F0 m 43 ls [.int y2, .int y1, .ref (Γ.2.2 (17))]) := by
  obtain ⟨hx, hb, -, -, hown, hts, -, hwx, -⟩ := id C
  intro S x1 x2 y1 y2 hf H locs ls hP hl
  unfold fX6_beginFree_43 at hf
  refine gi_i hf (fun hi3 hj4 hf => ?_)
  refine m_ist C hP mA_17 hi3 dX6_beginFree_43 (fun H locs hP => ?_)
  refine sv_i hf (fun S5 e5 hf => ?_)
  rw [← e5] at hP
  refine lv_iinc (v := x2 + (nI 1)) (lv' := [(2, .int (x2 + (nI 1))), (0, .ref (Γ.2.2 (0))), (1, .int x1)]) hx hb dX6_beginFree_44 hl (k := 2) rfl rfl (by decide) rfl (fun ls hl => ?_)
  refine lv_goto (tgt := 2) hx hb dX6_beginFree_47 (by decide) ?_
  exact hK2 S5 x1 (x2 + (nI 1))  hf _ _ _ hP (lv_sub hl [1, 2, 0] rfl)
def fX6_beginFree_42  (K2 : mM → Int32 → Int32 → Option mM) (S : mM) (x1 : Int32) (x2 : Int32) (y1 : Int32) : Option mM :=
  fX6_beginFree_43  K2  S x1 x2 y1 (nI 0)
set_option maxHeartbeats 4000000 in
set_option maxRecDepth 100000 in
theorem wX6_beginFree_42 {p : Program} {l : Launch} {e : Env} {s : State} {m : MethodId} {args : Array Value} {below : List Frame} {meth : Method} {c : Code} {Γ : gG} {Sz : mM} (C : Cx Γ 28 p s m args meth c RX6 cX6_beginFree 3 none)  {K2 : mM → Int32 → Int32 → Option mM} (hK2 : ∀ (S : mM) (x1 : Int32) (x2 : Int32) , K2 S x1 x2 = some Sz → ∀ (H : Heap) (locs : List Loc) (ls : Array Slot), St Γ 28 (mE Γ S) s.heap H locs → lv_has ls 3 [(0, .ref (Γ.2.2 (0))), (1, .int x1), (2, .int x2)] → W p l e { frames := 0, cells := 0, slots := 0, locals := 0 } s m args below meth c H locs 0 0 (MQ below (gQv Γ 28 (mE Γ Sz)) args s 0 0 (wA Γ 28)) (F0 m 2 ls [])) : ∀ (S : mM) (x1 : Int32) (x2 : Int32) (y1 : Int32) , fX6_beginFree_42  K2 S x1 x2 y1 = some Sz → ∀ (H : Heap) (locs : List Loc) (ls : Array Slot), St Γ 28 (mE Γ S) s.heap H locs → lv_has ls 3 [(0, .ref (Γ.2.2 (0))), (1, .int x1), (2, .int x2)] → W p l e { frames := 0, cells := 0, slots := 0, locals := 0 } s m args below meth c H locs 0 0 (MQ below (gQv Γ 28 (mE Γ Sz)) args s 0 0 (wA Γ 28)) (F0 m 42 ls [.int y1, .ref (Γ.2.2 (17))]) := by
  obtain ⟨hx, hb, -, -, hown, hts, -, hwx, -⟩ := id C
  intro S x1 x2 y1 hf H locs ls hP hl
  unfold fX6_beginFree_42 at hf
  refine lv_iconst (v := nI 0) hx hb dX6_beginFree_42 rfl ?_
  exact wX6_beginFree_43 C  hK2  S x1 x2 y1 (nI 0)  hf _ _ _ hP (lv_sub hl [0, 1, 2] rfl)
def fX6_beginFree_2   : Nat → mM → Int32 → Int32 → Option mM
  | 0, _, _, _ => none
  | n + 1, S, x1, x2 =>
    if (nI 5) ≤ x2 then some S else if x1 = 0 then if (S.1 0 0) ≤ x2 then fX6_beginFree_42  (fX6_beginFree_2   n)  S x1 x2 x2 else gi x2 5 (if (S.1 3 (x2).toNatClampNeg) ≤ 0 then fX6_beginFree_42  (fX6_beginFree_2   n)  S x1 x2 x2 else gi x2 5 (fX6_beginFree_43  (fX6_beginFree_2   n)  S x1 x2 x2 (S.1 4 (x2).toNatClampNeg))) else fX6_beginFree_42  (fX6_beginFree_2   n)  S x1 x2 x2
set_option maxHeartbeats 4000000 in
set_option maxRecDepth 100000 in
theorem wX6_beginFree_2 {p : Program} {l : Launch} {e : Env} {s : State} {m : MethodId} {args : Array Value} {below : List Frame} {meth : Method} {c : Code} {Γ : gG} {Sz : mM} (C : Cx Γ 28 p s m args meth c RX6 cX6_beginFree 3 none)   : ∀ n : Nat, ∀ (S : mM) (x1 : Int32) (x2 : Int32) , fX6_beginFree_2   n S x1 x2 = some Sz → ∀ (H : Heap) (locs : List Loc) (ls : Array Slot), St Γ 28 (mE Γ S) s.heap H locs → lv_has ls 3 [(0, .ref (Γ.2.2 (0))), (1, .int x1), (2, .int x2)] → W p l e { frames := 0, cells := 0, slots := 0, locals := 0 } s m args below meth c H locs 0 0 (MQ below (gQv Γ 28 (mE Γ Sz)) args s 0 0 (wA Γ 28)) (F0 m 2 ls []) := by
  obtain ⟨hx, hb, -, -, hown, hts, -, hwx, -⟩ := id C
  intro n
  induction n with
  | zero =>
    intro S x1 x2 hf
    unfold fX6_beginFree_2 at hf
    cases hf
  | succ n ih =>
    intro S x1 x2 hf H locs ls hP hl
    unfold fX6_beginFree_2 at hf
    refine lv_iload_n hx hb dX6_beginFree_2 rfl (lv_at hl 2 rfl) ?_
    refine lv_iconst (v := nI 5) hx hb dX6_beginFree_3 rfl ?_
    refine lv_icmp_ge (tgt := 50) hx hb dX6_beginFree_4 (by decide) (fun hc1 => ?_) (fun hc1 => ?_)
    · have hf := if_t hc1 hf
      exact r_vret (X := mE Γ) C hP hf dX6_beginFree_50
    · have hf := if_f hc1 hf
      refine lv_aload_n hx hb dX6_beginFree_7 rfl (lv_at hl 0 rfl) ?_
      refine m_get C hP 30 (by decide) k4_83 rfl (v := .ref (Γ.2.2 (17))) rfl dX6_beginFree_8 ?_
      refine lv_iload_n hx hb dX6_beginFree_11 rfl (lv_at hl 2 rfl) ?_
      refine lv_iload_n hx hb dX6_beginFree_12 rfl (lv_at hl 1 rfl) ?_
      refine lv_if_ne (tgt := 42) hx hb dX6_beginFree_13 (by decide) (fun hc2 => ?_) (fun hc2 => ?_)
      · have hf := if_f hc2 hf
        exact wX6_beginFree_42 C  ih  S x1 x2 x2  hf _ _ _ hP (lv_sub hl [0, 1, 2] rfl)
      · have hf := if_t hc2 hf
        refine lv_iload_n hx hb dX6_beginFree_16 rfl (lv_at hl 2 rfl) ?_
        refine lv_aload_n hx hb dX6_beginFree_17 rfl (lv_at hl 0 rfl) ?_
        refine m_get C hP 0 (by decide) k4_53 rfl (v := .int (S.1 0 0)) rfl dX6_beginFree_18 ?_
        refine lv_icmp_ge (tgt := 42) hx hb dX6_beginFree_21 (by decide) (fun hc6 => ?_) (fun hc6 => ?_)
        · have hf := if_t hc6 hf
          exact wX6_beginFree_42 C  ih  S x1 x2 x2  hf _ _ _ hP (lv_sub hl [0, 1, 2] rfl)
        · have hf := if_f hc6 hf
          refine lv_aload_n hx hb dX6_beginFree_24 rfl (lv_at hl 0 rfl) ?_
          refine m_get C hP 5 (by decide) k4_58 rfl (v := .ref (Γ.2.2 (3))) rfl dX6_beginFree_25 ?_
          refine lv_iload_n hx hb dX6_beginFree_28 rfl (lv_at hl 2 rfl) ?_
          refine gi_i hf (fun hi7 hj8 hf => ?_)
          refine m_ild C hP mA_3 hi7 dX6_beginFree_29 ?_
          refine lv_if_le (tgt := 42) hx hb dX6_beginFree_30 (by decide) (fun hc9 => ?_) (fun hc9 => ?_)
          · have hf := if_t hc9 hf
            exact wX6_beginFree_42 C  ih  S x1 x2 x2  hf _ _ _ hP (lv_sub hl [0, 1, 2] rfl)
          · have hf := if_f hc9 hf
            refine lv_aload_n hx hb dX6_beginFree_33 rfl (lv_at hl 0 rfl) ?_
            refine m_get C hP 6 (by decide) k4_59 rfl (v := .ref (Γ.2.2 (4))) rfl dX6_beginFree_34 ?_
            refine lv_iload_n hx hb dX6_beginFree_37 rfl (lv_at hl 2 rfl) ?_
            refine gi_i hf (fun hi10 hj11 hf => ?_)
            refine m_ild C hP mA_4 hi10 dX6_beginFree_38 ?_
            refine lv_goto (tgt := 43) hx hb dX6_beginFree_39 (by decide) ?_
            exact wX6_beginFree_43 C  ih  S x1 x2 x2 (S.1 4 (x2).toNatClampNeg)  hf _ _ _ hP (lv_sub hl [0, 1, 2] rfl)
def fX6_beginFree  (S : mM) (x1 : Int32) : Option mM :=
  fX6_beginFree_2   lF S x1 (nI 0)
set_option maxHeartbeats 4000000 in
set_option maxRecDepth 100000 in
theorem mX6_beginFree (l : Launch) (Γ : gG)   {S : mM} {x1 : Int32} {Sz : mM} (hf : fX6_beginFree S x1 = some Sz) : CtV l Γ 28 yX6_beginFree cX6_beginFree 3 0 0 [.ref (Γ.2.2 (0)), .int x1] (mE Γ S) (mE Γ Sz) := by
  refine met_body (Γ := Γ) (lv := [(0, .ref (Γ.2.2 (0))), (1, .int x1)]) RX6 (by decide) rfl rfl rfl ?_
  intro p e s m below meth c H locs ls C hP hl
  obtain ⟨hx, hb, -, -, hown, hts, -, hwx, -⟩ := id C
  unfold fX6_beginFree at hf
  refine lv_iconst (v := nI 0) hx hb dX6_beginFree_0 rfl ?_
  refine lv_istore_n (lv' := [(2, .int (nI 0)), (0, .ref (Γ.2.2 (0))), (1, .int x1)]) hx hb dX6_beginFree_1 rfl hl (by decide) rfl (fun ls hl => ?_)
  exact wX6_beginFree_2 C   lF S x1 (nI 0)  hf _ _ _ hP (lv_sub hl [1, 2, 0] rfl)
-- X6_sendTo
theorem qX6_sendTo : Cond.instanceMethod yX6_sendTo ∈ Ub ∧ Cond.selects RX6 yX6_sendTo yX6_sendTo ∈ Ub ∧ Cond.initialized RX6 ∈ Ub ∧ Cond.code yX6_sendTo cX6_sendTo 3 (some FieldType.int) ∈ Ub ∧ (yX6_sendTo.cls = RX6 ∧ yX6_sendTo.cls ≠ "java/lang/invoke/MethodHandle" ∧ yX6_sendTo.cls ≠ "java/lang/invoke/VarHandle" ∧ (parseMethodDescriptor yX6_sendTo.desc).map (fun d => d.parameters.length) = some 2) := ⟨k5_188, ks_60, k1_5, k5_189, by decide +kernel⟩
def fX6_sendTo  (S : mM) (x1 : Int32) (x2 : Int32) : Option (Int32 × mM) :=
  gi x1 5 (bd (fX6_takesIn S x1 x2) fun v3 S3 => ( gi x1 5 (sv (mS S3 17 ((x1).toNatClampNeg) ((S.1 17 (x1).toNatClampNeg) + v3)) fun S6 => ( gi x1 5 (some (S6.1 17 (x1).toNatClampNeg, S6))))))
set_option maxHeartbeats 4000000 in
set_option maxRecDepth 100000 in
theorem mX6_sendTo (l : Launch) (Γ : gG)   {S : mM} {x1 : Int32} {x2 : Int32} {rz : Int32} {Sz : mM} (hf : fX6_sendTo S x1 x2 = some (rz, Sz)) : CtI l Γ 28 yX6_sendTo cX6_sendTo 3 .int 3 65 [.ref (Γ.2.2 (0)), .int x1, .int x2] (mE Γ S) rz (mE Γ Sz) := by
  refine met_body (Γ := Γ) (lv := [(0, .ref (Γ.2.2 (0))), (1, .int x1), (2, .int x2)]) RX6 (by decide) rfl rfl rfl ?_
  intro p e s m below meth c H locs ls C hP hl
  obtain ⟨hx, hb, -, -, hown, hts, -, hwx, -⟩ := id C
  unfold fX6_sendTo at hf
  refine lv_aload_n hx hb dX6_sendTo_0 rfl (lv_at hl 0 rfl) ?_
  refine m_get C hP 30 (by decide) k4_83 rfl (v := .ref (Γ.2.2 (17))) rfl dX6_sendTo_1 ?_
  refine lv_iload_n hx hb dX6_sendTo_4 rfl (lv_at hl 1 rfl) ?_
  refine lv_dup2_11 hx hb dX6_sendTo_5 rfl rfl ?_
  refine gi_i hf (fun hi1 hj2 hf => ?_)
  refine m_ild C hP mA_17 hi1 dX6_sendTo_6 ?_
  refine lv_aload_n hx hb dX6_sendTo_7 rfl (lv_at hl 0 rfl) ?_
  refine lv_iload_n hx hb dX6_sendTo_8 rfl (lv_at hl 1 rfl) ?_
  refine lv_iload_n hx hb dX6_sendTo_9 rfl (lv_at hl 2 rfl) ?_
  refine bd_i hf (fun v3 S3 hq3 hf => ?_)
  refine goI (runV (rest := [.int (S.1 17 (x1).toNatClampNeg), .int x1, .ref (Γ.2.2 (17))]) (b := 0) (mX6_takesIn l Γ  hq3) C hP hl.1 (by decide) mE0 rfl k5_8 qX6_takesIn.1 qX6_takesIn.2.1 qX6_takesIn.2.2.1 qX6_takesIn.2.2.2.1 rfl qX6_takesIn.2.2.2.2 ⟨Nat.le_of_ble_eq_true rfl, Nat.le_of_ble_eq_true rfl⟩ ⟨Nat.le_refl 0, Nat.le_refl 0⟩ (Nat.le_of_ble_eq_true rfl) dX6_sendTo_10) hP (fun H locs hP => ?_)
  refine lv_iadd hx hb dX6_sendTo_13 ?_
  refine gi_i hf (fun hi4 hj5 hf => ?_)
  refine m_ist C hP mA_17 hi4 dX6_sendTo_14 (fun H locs hP => ?_)
  refine sv_i hf (fun S6 e6 hf => ?_)
  rw [← e6] at hP
  refine lv_aload_n hx hb dX6_sendTo_15 rfl (lv_at hl 0 rfl) ?_
  refine m_get C hP 30 (by decide) k4_83 rfl (v := .ref (Γ.2.2 (17))) rfl dX6_sendTo_16 ?_
  refine lv_iload_n hx hb dX6_sendTo_19 rfl (lv_at hl 1 rfl) ?_
  refine gi_i hf (fun hi7 hj8 hf => ?_)
  refine m_ild C hP mA_17 hi7 dX6_sendTo_20 ?_
  exact r_iret (X := mE Γ) C hP hf dX6_sendTo_21
-- X6_least
theorem qX6_least : Cond.instanceMethod yX6_least ∈ Ub ∧ Cond.selects RX6 yX6_least yX6_least ∈ Ub ∧ Cond.initialized RX6 ∈ Ub ∧ Cond.code yX6_least cX6_least 8 (some FieldType.int) ∈ Ub ∧ (yX6_least.cls = RX6 ∧ yX6_least.cls ≠ "java/lang/invoke/MethodHandle" ∧ yX6_least.cls ≠ "java/lang/invoke/VarHandle" ∧ (parseMethodDescriptor yX6_least.desc).map (fun d => d.parameters.length) = some 0) := ⟨k5_171, k5_172, k1_5, k5_173, by decide +kernel⟩
def fX6_least_188  (K102 : mM → Int32 → Int32 → Int32 → Int32 → Option (Int32 × mM)) (S : mM) (x1 : Int32) (x2 : Int32) (x4 : Int32) (y0 : Int32) : Option (Int32 × mM) :=
  K102 S x1 x2 y0 (x4 + (nI 1))
set_option maxHeartbeats 4000000 in
set_option maxRecDepth 100000 in
theorem wX6_least_188 {p : Program} {l : Launch} {e : Env} {s : State} {m : MethodId} {args : Array Value} {below : List Frame} {meth : Method} {c : Code} {Γ : gG} {rz : Int32} {Sz : mM} (C : Cx Γ 28 p s m args meth c RX6 cX6_least 8 (some .int))  {K102 : mM → Int32 → Int32 → Int32 → Int32 → Option (Int32 × mM)} (hK102 : ∀ (S : mM) (x1 : Int32) (x2 : Int32) (x3 : Int32) (x4 : Int32) , K102 S x1 x2 x3 x4 = some (rz, Sz) → ∀ (H : Heap) (locs : List Loc) (ls : Array Slot), St Γ 28 (mE Γ S) s.heap H locs → lv_has ls 8 [(0, .ref (Γ.2.2 (0))), (1, .int x1), (2, .int x2), (3, .int x3), (4, .int x4)] → W p l e { frames := 4, cells := 0, slots := 0, locals := 87 } s m args below meth c H locs 0 0 (MQ below (gQi Γ 28 rz (mE Γ Sz)) args s 0 0 (wA Γ 28)) (F0 m 102 ls [])) : ∀ (S : mM) (x1 : Int32) (x2 : Int32) (x4 : Int32) (y0 : Int32) , fX6_least_188  K102 S x1 x2 x4 y0 = some (rz, Sz) → ∀ (H : Heap) (locs : List Loc) (ls : Array Slot), St Γ 28 (mE Γ S) s.heap H locs → lv_has ls 8 [(0, .ref (Γ.2.2 (0))), (1, .int x1), (2, .int x2), (4, .int x4)] → W p l e { frames := 4, cells := 0, slots := 0, locals := 87 } s m args below meth c H locs 0 0 (MQ below (gQi Γ 28 rz (mE Γ Sz)) args s 0 0 (wA Γ 28)) (F0 m 188 ls [.int y0]) := by
  obtain ⟨hx, hb, -, -, hown, hts, -, hwx, -⟩ := id C
  intro S x1 x2 x4 y0 hf H locs ls hP hl
  unfold fX6_least_188 at hf
  refine lv_istore_n (lv' := [(3, .int y0), (0, .ref (Γ.2.2 (0))), (1, .int x1), (2, .int x2), (4, .int x4)]) hx hb dX6_least_188 rfl hl (by decide) rfl (fun ls hl => ?_)
  refine lv_iinc (v := x4 + (nI 1)) (lv' := [(4, .int (x4 + (nI 1))), (3, .int y0), (0, .ref (Γ.2.2 (0))), (1, .int x1), (2, .int x2)]) hx hb dX6_least_189 hl (k := 4) rfl rfl (by decide) rfl (fun ls hl => ?_)
  refine lv_goto (tgt := 102) hx hb dX6_least_192 (by decide) ?_
  exact hK102 S x1 x2 y0 (x4 + (nI 1))  hf _ _ _ hP (lv_sub hl [2, 3, 4, 1, 0] rfl)
def fX6_least_182  (K102 : mM → Int32 → Int32 → Int32 → Int32 → Option (Int32 × mM)) (S : mM) (x1 : Int32) (x2 : Int32) (x4 : Int32) (x5 : Int32) : Option (Int32 × mM) :=
  fX6_least_188  K102  S x1 x2 x4 x5
set_option maxHeartbeats 4000000 in
set_option maxRecDepth 100000 in
theorem wX6_least_182 {p : Program} {l : Launch} {e : Env} {s : State} {m : MethodId} {args : Array Value} {below : List Frame} {meth : Method} {c : Code} {Γ : gG} {rz : Int32} {Sz : mM} (C : Cx Γ 28 p s m args meth c RX6 cX6_least 8 (some .int))  {K102 : mM → Int32 → Int32 → Int32 → Int32 → Option (Int32 × mM)} (hK102 : ∀ (S : mM) (x1 : Int32) (x2 : Int32) (x3 : Int32) (x4 : Int32) , K102 S x1 x2 x3 x4 = some (rz, Sz) → ∀ (H : Heap) (locs : List Loc) (ls : Array Slot), St Γ 28 (mE Γ S) s.heap H locs → lv_has ls 8 [(0, .ref (Γ.2.2 (0))), (1, .int x1), (2, .int x2), (3, .int x3), (4, .int x4)] → W p l e { frames := 4, cells := 0, slots := 0, locals := 87 } s m args below meth c H locs 0 0 (MQ below (gQi Γ 28 rz (mE Γ Sz)) args s 0 0 (wA Γ 28)) (F0 m 102 ls [])) : ∀ (S : mM) (x1 : Int32) (x2 : Int32) (x4 : Int32) (x5 : Int32) , fX6_least_182  K102 S x1 x2 x4 x5 = some (rz, Sz) → ∀ (H : Heap) (locs : List Loc) (ls : Array Slot), St Γ 28 (mE Γ S) s.heap H locs → lv_has ls 8 [(0, .ref (Γ.2.2 (0))), (1, .int x1), (2, .int x2), (4, .int x4), (5, .int x5)] → W p l e { frames := 4, cells := 0, slots := 0, locals := 87 } s m args below meth c H locs 0 0 (MQ below (gQi Γ 28 rz (mE Γ Sz)) args s 0 0 (wA Γ 28)) (F0 m 182 ls []) := by
  obtain ⟨hx, hb, -, -, hown, hts, -, hwx, -⟩ := id C
  intro S x1 x2 x4 x5 hf H locs ls hP hl
  unfold fX6_least_182 at hf
  refine lv_iload hx hb dX6_least_182 (lv_at hl 4 rfl) ?_
  refine lv_goto (tgt := 188) hx hb dX6_least_184 (by decide) ?_
  exact wX6_least_188 C  hK102  S x1 x2 x4 x5  hf _ _ _ hP (lv_sub hl [0, 1, 2, 3] rfl)
def fX6_least_126  (K102 : mM → Int32 → Int32 → Int32 → Int32 → Option (Int32 × mM)) : Nat → mM → Int32 → Int32 → Int32 → Int32 → Int32 → Int32 → Int32 → Option (Int32 × mM)
  | 0, _, _, _, _, _, _, _, _ => none
  | n + 1, S, x1, x2, x3, x4, x5, x6, x7 =>
    if (S.1 0 29) ≤ x7 then if x3 < 0 then fX6_least_182  K102  S x1 x2 x4 x5 else if x3 ≤ x5 then fX6_least_188  K102  S x1 x2 x4 x3 else fX6_least_182  K102  S x1 x2 x4 x5 else gz x1 (gi (x6 - x6 / x1 * x1) 5 (gi x7 40 (bd (fX6_sendTo S (S.1 18 (x6 - x6 / x1 * x1).toNatClampNeg) (S.1 16 (x7).toNatClampNeg)) fun v19 S19 => ( gz x1 ((fX6_least_126  K102 n) S19 x1 x2 x3 x4 (x5 + v19) (x6 / x1) (x7 + (nI 1)))))))
set_option maxHeartbeats 4000000 in
set_option maxRecDepth 100000 in
theorem wX6_least_126 {p : Program} {l : Launch} {e : Env} {s : State} {m : MethodId} {args : Array Value} {below : List Frame} {meth : Method} {c : Code} {Γ : gG} {rz : Int32} {Sz : mM} (C : Cx Γ 28 p s m args meth c RX6 cX6_least 8 (some .int))  {K102 : mM → Int32 → Int32 → Int32 → Int32 → Option (Int32 × mM)} (hK102 : ∀ (S : mM) (x1 : Int32) (x2 : Int32) (x3 : Int32) (x4 : Int32) , K102 S x1 x2 x3 x4 = some (rz, Sz) → ∀ (H : Heap) (locs : List Loc) (ls : Array Slot), St Γ 28 (mE Γ S) s.heap H locs → lv_has ls 8 [(0, .ref (Γ.2.2 (0))), (1, .int x1), (2, .int x2), (3, .int x3), (4, .int x4)] → W p l e { frames := 4, cells := 0, slots := 0, locals := 87 } s m args below meth c H locs 0 0 (MQ below (gQi Γ 28 rz (mE Γ Sz)) args s 0 0 (wA Γ 28)) (F0 m 102 ls [])) : ∀ n : Nat, ∀ (S : mM) (x1 : Int32) (x2 : Int32) (x3 : Int32) (x4 : Int32) (x5 : Int32) (x6 : Int32) (x7 : Int32) , fX6_least_126  K102 n S x1 x2 x3 x4 x5 x6 x7 = some (rz, Sz) → ∀ (H : Heap) (locs : List Loc) (ls : Array Slot), St Γ 28 (mE Γ S) s.heap H locs → lv_has ls 8 [(0, .ref (Γ.2.2 (0))), (1, .int x1), (2, .int x2), (3, .int x3), (4, .int x4), (5, .int x5), (6, .int x6), (7, .int x7)] → W p l e { frames := 4, cells := 0, slots := 0, locals := 87 } s m args below meth c H locs 0 0 (MQ below (gQi Γ 28 rz (mE Γ Sz)) args s 0 0 (wA Γ 28)) (F0 m 126 ls []) := by
  obtain ⟨hx, hb, -, -, hown, hts, -, hwx, -⟩ := id C
  intro n
  induction n with
  | zero =>
    intro S x1 x2 x3 x4 x5 x6 x7 hf
    unfold fX6_least_126 at hf
    cases hf
  | succ n ih =>
    intro S x1 x2 x3 x4 x5 x6 x7 hf H locs ls hP hl
    unfold fX6_least_126 at hf
    refine lv_iload hx hb dX6_least_126 (lv_at hl 7 rfl) ?_
    refine lv_aload_n hx hb dX6_least_128 rfl (lv_at hl 0 rfl) ?_
    refine m_get C hP 29 (by decide) k4_82 rfl (v := .int (S.1 0 29)) rfl dX6_least_129 ?_
    refine lv_icmp_ge (tgt := 172) hx hb dX6_least_132 (by decide) (fun hc11 => ?_) (fun hc11 => ?_)
    · have hf := if_t hc11 hf
      refine lv_iload_n hx hb dX6_least_172 rfl (lv_at hl 3 rfl) ?_
      refine lv_if_lt (tgt := 182) hx hb dX6_least_173 (by decide) (fun hc12 => ?_) (fun hc12 => ?_)
      · have hf := if_t hc12 hf
        exact wX6_least_182 C  hK102  S x1 x2 x4 x5  hf _ _ _ hP (lv_sub hl [0, 1, 2, 4, 5] rfl)
      · have hf := if_f hc12 hf
        refine lv_iload hx hb dX6_least_176 (lv_at hl 5 rfl) ?_
        refine lv_iload_n hx hb dX6_least_178 rfl (lv_at hl 3 rfl) ?_
        refine lv_icmp_ge (tgt := 187) hx hb dX6_least_179 (by decide) (fun hc13 => ?_) (fun hc13 => ?_)
        · have hf := if_t hc13 hf
          refine lv_iload_n hx hb dX6_least_187 rfl (lv_at hl 3 rfl) ?_
          exact wX6_least_188 C  hK102  S x1 x2 x4 x3  hf _ _ _ hP (lv_sub hl [0, 1, 2, 4] rfl)
        · have hf := if_f hc13 hf
          exact wX6_least_182 C  hK102  S x1 x2 x4 x5  hf _ _ _ hP (lv_sub hl [0, 1, 2, 4, 5] rfl)
    · have hf := if_f hc11 hf
      refine lv_iload hx hb dX6_least_135 (lv_at hl 5 rfl) ?_
      refine lv_aload_n hx hb dX6_least_137 rfl (lv_at hl 0 rfl) ?_
      refine lv_aload_n hx hb dX6_least_138 rfl (lv_at hl 0 rfl) ?_
      refine m_get C hP 31 (by decide) k4_84 rfl (v := .ref (Γ.2.2 (18))) rfl dX6_least_139 ?_
      refine lv_iload hx hb dX6_least_142 (lv_at hl 6 rfl) ?_
      refine lv_iload_n hx hb dX6_least_144 rfl (lv_at hl 1 rfl) ?_
      refine gz_i hf (fun hz14 hf => ?_)
      refine lv_irem hx hb dX6_least_145 hz14 ?_
      refine gi_i hf (fun hi15 hj16 hf => ?_)
      refine m_ild C hP mA_18 hi15 dX6_least_146 ?_
      refine lv_aload_n hx hb dX6_least_147 rfl (lv_at hl 0 rfl) ?_
      refine m_get C hP 28 (by decide) k4_81 rfl (v := .ref (Γ.2.2 (16))) rfl dX6_least_148 ?_
      refine lv_iload hx hb dX6_least_151 (lv_at hl 7 rfl) ?_
      refine gi_i hf (fun hi17 hj18 hf => ?_)
      refine m_ild C hP mA_16 hi17 dX6_least_153 ?_
      refine bd_i hf (fun v19 S19 hq19 hf => ?_)
      refine goI (runV (rest := [.int x5]) (b := 0) (mX6_sendTo l Γ  hq19) C hP hl.1 (by decide) mE0 rfl k5_186 qX6_sendTo.1 qX6_sendTo.2.1 qX6_sendTo.2.2.1 qX6_sendTo.2.2.2.1 rfl qX6_sendTo.2.2.2.2 ⟨Nat.le_of_ble_eq_true rfl, Nat.le_of_ble_eq_true rfl⟩ ⟨Nat.le_refl 0, Nat.le_refl 0⟩ (Nat.le_of_ble_eq_true rfl) dX6_least_154) hP (fun H locs hP => ?_)
      refine lv_iadd hx hb dX6_least_157 ?_
      refine lv_istore (lv' := [(5, .int (x5 + v19)), (0, .ref (Γ.2.2 (0))), (1, .int x1), (2, .int x2), (3, .int x3), (4, .int x4), (6, .int x6), (7, .int x7)]) hx hb dX6_least_158 hl (by decide) rfl (fun ls hl => ?_)
      refine lv_iload hx hb dX6_least_160 (lv_at hl 6 rfl) ?_
      refine lv_iload_n hx hb dX6_least_162 rfl (lv_at hl 2 rfl) ?_
      refine gz_i hf (fun hz20 hf => ?_)
      refine lv_idiv hx hb dX6_least_163 hz20 ?_
      refine lv_istore (lv' := [(6, .int (x6 / x1)), (5, .int (x5 + v19)), (0, .ref (Γ.2.2 (0))), (1, .int x1), (2, .int x2), (3, .int x3), (4, .int x4), (7, .int x7)]) hx hb dX6_least_164 hl (by decide) rfl (fun ls hl => ?_)
      refine lv_iinc (v := x7 + (nI 1)) (lv' := [(7, .int (x7 + (nI 1))), (6, .int (x6 / x1)), (5, .int (x5 + v19)), (0, .ref (Γ.2.2 (0))), (1, .int x1), (2, .int x2), (3, .int x3), (4, .int x4)]) hx hb dX6_least_166 hl (k := 7) rfl rfl (by decide) rfl (fun ls hl => ?_)
      refine lv_goto (tgt := 126) hx hb dX6_least_169 (by decide) ?_
      exact ih S19 x1 x2 x3 x4 (x5 + v19) (x6 / x1) (x7 + (nI 1))  hf _ _ _ hP (lv_sub hl [3, 4, 5, 6, 7, 2, 1, 0] rfl)
def fX6_least_102   : Nat → mM → Int32 → Int32 → Int32 → Int32 → Option (Int32 × mM)
  | 0, _, _, _, _, _ => none
  | n + 1, S, x1, x2, x3, x4 =>
    if x2 ≤ x4 then some (x3, S) else bv (fX6_beginFree S (nI 0)) fun S9 => ( bd (fX6_sumOfFirst S9) fun v10 S10 => ( fX6_least_126  (fX6_least_102   n) lF S10 x1 x2 x3 x4 v10 x4 (nI 0)))
set_option maxHeartbeats 4000000 in
set_option maxRecDepth 100000 in
theorem wX6_least_102 {p : Program} {l : Launch} {e : Env} {s : State} {m : MethodId} {args : Array Value} {below : List Frame} {meth : Method} {c : Code} {Γ : gG} {rz : Int32} {Sz : mM} (C : Cx Γ 28 p s m args meth c RX6 cX6_least 8 (some .int))   : ∀ n : Nat, ∀ (S : mM) (x1 : Int32) (x2 : Int32) (x3 : Int32) (x4 : Int32) , fX6_least_102   n S x1 x2 x3 x4 = some (rz, Sz) → ∀ (H : Heap) (locs : List Loc) (ls : Array Slot), St Γ 28 (mE Γ S) s.heap H locs → lv_has ls 8 [(0, .ref (Γ.2.2 (0))), (1, .int x1), (2, .int x2), (3, .int x3), (4, .int x4)] → W p l e { frames := 4, cells := 0, slots := 0, locals := 87 } s m args below meth c H locs 0 0 (MQ below (gQi Γ 28 rz (mE Γ Sz)) args s 0 0 (wA Γ 28)) (F0 m 102 ls []) := by
  obtain ⟨hx, hb, -, -, hown, hts, -, hwx, -⟩ := id C
  intro n
  induction n with
  | zero =>
    intro S x1 x2 x3 x4 hf
    unfold fX6_least_102 at hf
    cases hf
  | succ n ih =>
    intro S x1 x2 x3 x4 hf H locs ls hP hl
    unfold fX6_least_102 at hf
    refine lv_iload hx hb dX6_least_102 (lv_at hl 4 rfl) ?_
    refine lv_iload_n hx hb dX6_least_104 rfl (lv_at hl 2 rfl) ?_
    refine lv_icmp_ge (tgt := 195) hx hb dX6_least_105 (by decide) (fun hc8 => ?_) (fun hc8 => ?_)
    · have hf := if_t hc8 hf
      refine lv_iload_n hx hb dX6_least_195 rfl (lv_at hl 3 rfl) ?_
      exact r_iret (X := mE Γ) C hP hf dX6_least_196
    · have hf := if_f hc8 hf
      refine lv_aload_n hx hb dX6_least_108 rfl (lv_at hl 0 rfl) ?_
      refine lv_iconst (v := nI 0) hx hb dX6_least_109 rfl ?_
      refine bv_i hf (fun S9 hq9 hf => ?_)
      refine goV (runV (rest := []) (b := 0) (mX6_beginFree l Γ  hq9) C hP hl.1 (by decide) mE0 rfl k5_178 qX6_beginFree.1 qX6_beginFree.2.1 qX6_beginFree.2.2.1 qX6_beginFree.2.2.2.1 rfl qX6_beginFree.2.2.2.2 ⟨Nat.le_of_ble_eq_true rfl, Nat.le_of_ble_eq_true rfl⟩ ⟨Nat.le_refl 0, Nat.le_refl 0⟩ (Nat.le_of_ble_eq_true rfl) dX6_least_110) hP (fun H locs hP => ?_)
      refine lv_aload_n hx hb dX6_least_113 rfl (lv_at hl 0 rfl) ?_
      refine bd_i hf (fun v10 S10 hq10 hf => ?_)
      refine goI (runV (rest := []) (b := 0) (mX6_sumOfFirst l Γ  hq10) C hP hl.1 (by decide) mE0 rfl k5_182 qX6_sumOfFirst.1 qX6_sumOfFirst.2.1 qX6_sumOfFirst.2.2.1 qX6_sumOfFirst.2.2.2.1 rfl qX6_sumOfFirst.2.2.2.2 ⟨Nat.le_of_ble_eq_true rfl, Nat.le_of_ble_eq_true rfl⟩ ⟨Nat.le_refl 0, Nat.le_refl 0⟩ (Nat.le_of_ble_eq_true rfl) dX6_least_114) hP (fun H locs hP => ?_)
      refine lv_istore (lv' := [(5, .int v10), (0, .ref (Γ.2.2 (0))), (1, .int x1), (2, .int x2), (3, .int x3), (4, .int x4)]) hx hb dX6_least_117 hl (by decide) rfl (fun ls hl => ?_)
      refine lv_iload hx hb dX6_least_119 (lv_at hl 5 rfl) ?_
      refine lv_istore (lv' := [(6, .int x4), (5, .int v10), (0, .ref (Γ.2.2 (0))), (1, .int x1), (2, .int x2), (3, .int x3), (4, .int x4)]) hx hb dX6_least_121 hl (by decide) rfl (fun ls hl => ?_)
      refine lv_iconst (v := nI 0) hx hb dX6_least_123 rfl ?_
      refine lv_istore (lv' := [(7, .int (nI 0)), (6, .int x4), (5, .int v10), (0, .ref (Γ.2.2 (0))), (1, .int x1), (2, .int x2), (3, .int x3), (4, .int x4)]) hx hb dX6_least_124 hl (by decide) rfl (fun ls hl => ?_)
      exact wX6_least_126 C  ih lF S10 x1 x2 x3 x4 v10 x4 (nI 0)  hf _ _ _ hP (lv_sub hl [3, 4, 5, 6, 7, 2, 1, 0] rfl)
def fX6_least_79   : Nat → mM → Int32 → Int32 → Int32 → Option (Int32 × mM)
  | 0, _, _, _, _ => none
  | n + 1, S, x1, x2, x3 =>
    if (S.1 0 29) ≤ x3 then fX6_least_102   lF S x1 x2 (-1) (nI 0) else (fX6_least_79   n) S x1 (x2 * x1) (x3 + (nI 1))
set_option maxHeartbeats 4000000 in
set_option maxRecDepth 100000 in
theorem wX6_least_79 {p : Program} {l : Launch} {e : Env} {s : State} {m : MethodId} {args : Array Value} {below : List Frame} {meth : Method} {c : Code} {Γ : gG} {rz : Int32} {Sz : mM} (C : Cx Γ 28 p s m args meth c RX6 cX6_least 8 (some .int))   : ∀ n : Nat, ∀ (S : mM) (x1 : Int32) (x2 : Int32) (x3 : Int32) , fX6_least_79   n S x1 x2 x3 = some (rz, Sz) → ∀ (H : Heap) (locs : List Loc) (ls : Array Slot), St Γ 28 (mE Γ S) s.heap H locs → lv_has ls 8 [(0, .ref (Γ.2.2 (0))), (1, .int x1), (2, .int x2), (3, .int x3)] → W p l e { frames := 4, cells := 0, slots := 0, locals := 87 } s m args below meth c H locs 0 0 (MQ below (gQi Γ 28 rz (mE Γ Sz)) args s 0 0 (wA Γ 28)) (F0 m 79 ls []) := by
  obtain ⟨hx, hb, -, -, hown, hts, -, hwx, -⟩ := id C
  intro n
  induction n with
  | zero =>
    intro S x1 x2 x3 hf
    unfold fX6_least_79 at hf
    cases hf
  | succ n ih =>
    intro S x1 x2 x3 hf H locs ls hP hl
    unfold fX6_least_79 at hf
    refine lv_iload_n hx hb dX6_least_79 rfl (lv_at hl 3 rfl) ?_
    refine lv_aload_n hx hb dX6_least_80 rfl (lv_at hl 0 rfl) ?_
    refine m_get C hP 29 (by decide) k4_82 rfl (v := .int (S.1 0 29)) rfl dX6_least_81 ?_
    refine lv_icmp_ge (tgt := 97) hx hb dX6_least_84 (by decide) (fun hc7 => ?_) (fun hc7 => ?_)
    · have hf := if_t hc7 hf
      refine lv_iconst (v := (-1)) hx hb dX6_least_97 rfl ?_
      refine lv_istore_n (lv' := [(3, .int ((-1))), (0, .ref (Γ.2.2 (0))), (1, .int x1), (2, .int x2)]) hx hb dX6_least_98 rfl hl (by decide) rfl (fun ls hl => ?_)
      refine lv_iconst (v := nI 0) hx hb dX6_least_99 rfl ?_
      refine lv_istore (lv' := [(4, .int (nI 0)), (3, .int ((-1))), (0, .ref (Γ.2.2 (0))), (1, .int x1), (2, .int x2)]) hx hb dX6_least_100 hl (by decide) rfl (fun ls hl => ?_)
      exact wX6_least_102 C   lF S x1 x2 (-1) (nI 0)  hf _ _ _ hP (lv_sub hl [2, 3, 4, 1, 0] rfl)
    · have hf := if_f hc7 hf
      refine lv_iload_n hx hb dX6_least_87 rfl (lv_at hl 2 rfl) ?_
      refine lv_iload_n hx hb dX6_least_88 rfl (lv_at hl 1 rfl) ?_
      refine lv_imul hx hb dX6_least_89 ?_
      refine lv_istore_n (lv' := [(2, .int (x2 * x1)), (0, .ref (Γ.2.2 (0))), (1, .int x1), (3, .int x3)]) hx hb dX6_least_90 rfl hl (by decide) rfl (fun ls hl => ?_)
      refine lv_iinc (v := x3 + (nI 1)) (lv' := [(3, .int (x3 + (nI 1))), (2, .int (x2 * x1)), (0, .ref (Γ.2.2 (0))), (1, .int x1)]) hx hb dX6_least_91 hl (k := 3) rfl rfl (by decide) rfl (fun ls hl => ?_)
      refine lv_goto (tgt := 79) hx hb dX6_least_94 (by decide) ?_
      exact ih S x1 (x2 * x1) (x3 + (nI 1))  hf _ _ _ hP (lv_sub hl [2, 3, 1, 0] rfl)
def fX6_least_75   (S : mM) (x1 : Int32) : Option (Int32 × mM) :=
  fX6_least_79   lF S x1 (nI 1) (nI 0)
set_option maxHeartbeats 4000000 in
set_option maxRecDepth 100000 in
theorem wX6_least_75 {p : Program} {l : Launch} {e : Env} {s : State} {m : MethodId} {args : Array Value} {below : List Frame} {meth : Method} {c : Code} {Γ : gG} {rz : Int32} {Sz : mM} (C : Cx Γ 28 p s m args meth c RX6 cX6_least 8 (some .int))   : ∀ (S : mM) (x1 : Int32) , fX6_least_75   S x1 = some (rz, Sz) → ∀ (H : Heap) (locs : List Loc) (ls : Array Slot), St Γ 28 (mE Γ S) s.heap H locs → lv_has ls 8 [(0, .ref (Γ.2.2 (0))), (1, .int x1)] → W p l e { frames := 4, cells := 0, slots := 0, locals := 87 } s m args below meth c H locs 0 0 (MQ below (gQi Γ 28 rz (mE Γ Sz)) args s 0 0 (wA Γ 28)) (F0 m 75 ls []) := by
  obtain ⟨hx, hb, -, -, hown, hts, -, hwx, -⟩ := id C
  intro S x1 hf H locs ls hP hl
  unfold fX6_least_75 at hf
  refine lv_iconst (v := nI 1) hx hb dX6_least_75 rfl ?_
  refine lv_istore_n (lv' := [(2, .int (nI 1)), (0, .ref (Γ.2.2 (0))), (1, .int x1)]) hx hb dX6_least_76 rfl hl (by decide) rfl (fun ls hl => ?_)
  refine lv_iconst (v := nI 0) hx hb dX6_least_77 rfl ?_
  refine lv_istore_n (lv' := [(3, .int (nI 0)), (2, .int (nI 1)), (0, .ref (Γ.2.2 (0))), (1, .int x1)]) hx hb dX6_least_78 rfl hl (by decide) rfl (fun ls hl => ?_)
  exact wX6_least_79 C   lF S x1 (nI 1) (nI 0)  hf _ _ _ hP (lv_sub hl [2, 3, 1, 0] rfl)
def fX6_least_41  (K13 : mM → Int32 → Int32 → Option (Int32 × mM)) (S : mM) (x1 : Int32) (x2 : Int32) : Option (Int32 × mM) :=
  K13 S x1 (x2 + (nI 1))
set_option maxHeartbeats 4000000 in
set_option maxRecDepth 100000 in
theorem wX6_least_41 {p : Program} {l : Launch} {e : Env} {s : State} {m : MethodId} {args : Array Value} {below : List Frame} {meth : Method} {c : Code} {Γ : gG} {rz : Int32} {Sz : mM} (C : Cx Γ 28 p s m args meth c RX6 cX6_least 8 (some .int))  {K13 : mM → Int32 → Int32 → Option (Int32 × mM)} (hK13 : ∀ (S : mM) (x1 : Int32) (x2 : Int32) , K13 S x1 x2 = some (rz, Sz) → ∀ (H : Heap) (locs : List Loc) (ls : Array Slot), St Γ 28 (mE Γ S) s.heap H locs → lv_has ls 8 [(0, .ref (Γ.2.2 (0))), (1, .int x1), (2, .int x2)] → W p l e { frames := 4, cells := 0, slots := 0, locals := 87 } s m args below meth c H locs 0 0 (MQ below (gQi Γ 28 rz (mE Γ Sz)) args s 0 0 (wA Γ 28)) (F0 m 13 ls [])) : ∀ (S : mM) (x1 : Int32) (x2 : Int32) , fX6_least_41  K13 S x1 x2 = some (rz, Sz) → ∀ (H : Heap) (locs : List Loc) (ls : Array Slot), St Γ 28 (mE Γ S) s.heap H locs → lv_has ls 8 [(0, .ref (Γ.2.2 (0))), (1, .int x1), (2, .int x2)] → W p l e { frames := 4, cells := 0, slots := 0, locals := 87 } s m args below meth c H locs 0 0 (MQ below (gQi Γ 28 rz (mE Γ Sz)) args s 0 0 (wA Γ 28)) (F0 m 41 ls []) := by
  obtain ⟨hx, hb, -, -, hown, hts, -, hwx, -⟩ := id C
  intro S x1 x2 hf H locs ls hP hl
  unfold fX6_least_41 at hf
  refine lv_iinc (v := x2 + (nI 1)) (lv' := [(2, .int (x2 + (nI 1))), (0, .ref (Γ.2.2 (0))), (1, .int x1)]) hx hb dX6_least_41 hl (k := 2) rfl rfl (by decide) rfl (fun ls hl => ?_)
  refine lv_goto (tgt := 13) hx hb dX6_least_44 (by decide) ?_
  exact hK13 S x1 (x2 + (nI 1))  hf _ _ _ hP (lv_sub hl [1, 2, 0] rfl)
def fX6_least_13   : Nat → mM → Int32 → Int32 → Option (Int32 × mM)
  | 0, _, _, _ => none
  | n + 1, S, x1, x2 =>
    if (S.1 0 0) ≤ x2 then if (nI 6) < (S.1 0 29) then some ((-4), S) else if (nI 3) < x1 then some ((-4), S) else if (S.1 0 29) ≤ 0 then fX6_least_75    S x1 else if x1 = 0 then some ((-4), S) else fX6_least_75    S x1 else gi x2 5 (if (S.1 1 (x2).toNatClampNeg) = (nI 5) then fX6_least_41  (fX6_least_13   n)  S x1 x2 else gi x1 5 (sv (mS S 18 ((x1).toNatClampNeg) x2) fun S27 => ( fX6_least_41  (fX6_least_13   n)  S27 (x1 + (nI 1)) x2)))
set_option maxHeartbeats 4000000 in
set_option maxRecDepth 100000 in
theorem wX6_least_13 {p : Program} {l : Launch} {e : Env} {s : State} {m : MethodId} {args : Array Value} {below : List Frame} {meth : Method} {c : Code} {Γ : gG} {rz : Int32} {Sz : mM} (C : Cx Γ 28 p s m args meth c RX6 cX6_least 8 (some .int))   : ∀ n : Nat, ∀ (S : mM) (x1 : Int32) (x2 : Int32) , fX6_least_13   n S x1 x2 = some (rz, Sz) → ∀ (H : Heap) (locs : List Loc) (ls : Array Slot), St Γ 28 (mE Γ S) s.heap H locs → lv_has ls 8 [(0, .ref (Γ.2.2 (0))), (1, .int x1), (2, .int x2)] → W p l e { frames := 4, cells := 0, slots := 0, locals := 87 } s m args below meth c H locs 0 0 (MQ below (gQi Γ 28 rz (mE Γ Sz)) args s 0 0 (wA Γ 28)) (F0 m 13 ls []) := by
  obtain ⟨hx, hb, -, -, hown, hts, -, hwx, -⟩ := id C
  intro n
  induction n with
  | zero =>
    intro S x1 x2 hf
    unfold fX6_least_13 at hf
    cases hf
  | succ n ih =>
    intro S x1 x2 hf H locs ls hP hl
    unfold fX6_least_13 at hf
    refine lv_iload_n hx hb dX6_least_13 rfl (lv_at hl 2 rfl) ?_
    refine lv_aload_n hx hb dX6_least_14 rfl (lv_at hl 0 rfl) ?_
    refine m_get C hP 0 (by decide) k4_53 rfl (v := .int (S.1 0 0)) rfl dX6_least_15 ?_
    refine lv_icmp_ge (tgt := 47) hx hb dX6_least_18 (by decide) (fun hc3 => ?_) (fun hc3 => ?_)
    · have hf := if_t hc3 hf
      refine lv_aload_n hx hb dX6_least_47 rfl (lv_at hl 0 rfl) ?_
      refine m_get C hP 29 (by decide) k4_82 rfl (v := .int (S.1 0 29)) rfl dX6_least_48 ?_
      refine lv_bipush (v := nI 6) hx hb dX6_least_51 rfl ?_
      refine lv_icmp_gt (tgt := 72) hx hb dX6_least_53 (by decide) (fun hc4 => ?_) (fun hc4 => ?_)
      · have hf := if_t hc4 hf
        refine lv_bipush (v := (-4)) hx hb dX6_least_72 rfl ?_
        exact r_iret (X := mE Γ) C hP hf dX6_least_74
      · have hf := if_f hc4 hf
        refine lv_iload_n hx hb dX6_least_56 rfl (lv_at hl 1 rfl) ?_
        refine lv_iconst (v := nI 3) hx hb dX6_least_57 rfl ?_
        refine lv_icmp_gt (tgt := 72) hx hb dX6_least_58 (by decide) (fun hc5 => ?_) (fun hc5 => ?_)
        · have hf := if_t hc5 hf
          refine lv_bipush (v := (-4)) hx hb dX6_least_72 rfl ?_
          exact r_iret (X := mE Γ) C hP hf dX6_least_74
        · have hf := if_f hc5 hf
          refine lv_aload_n hx hb dX6_least_61 rfl (lv_at hl 0 rfl) ?_
          refine m_get C hP 29 (by decide) k4_82 rfl (v := .int (S.1 0 29)) rfl dX6_least_62 ?_
          refine lv_if_le (tgt := 75) hx hb dX6_least_65 (by decide) (fun hc6 => ?_) (fun hc6 => ?_)
          · have hf := if_t hc6 hf
            exact wX6_least_75 C    S x1  hf _ _ _ hP (lv_sub hl [0, 1] rfl)
          · have hf := if_f hc6 hf
            refine lv_iload_n hx hb dX6_least_68 rfl (lv_at hl 1 rfl) ?_
            refine lv_if_ne (tgt := 75) hx hb dX6_least_69 (by decide) (fun hc21 => ?_) (fun hc21 => ?_)
            · have hf := if_f hc21 hf
              exact wX6_least_75 C    S x1  hf _ _ _ hP (lv_sub hl [0, 1] rfl)
            · have hf := if_t hc21 hf
              refine lv_bipush (v := (-4)) hx hb dX6_least_72 rfl ?_
              exact r_iret (X := mE Γ) C hP hf dX6_least_74
    · have hf := if_f hc3 hf
      refine lv_aload_n hx hb dX6_least_21 rfl (lv_at hl 0 rfl) ?_
      refine m_get C hP 3 (by decide) k4_56 rfl (v := .ref (Γ.2.2 (1))) rfl dX6_least_22 ?_
      refine lv_iload_n hx hb dX6_least_25 rfl (lv_at hl 2 rfl) ?_
      refine gi_i hf (fun hi22 hj23 hf => ?_)
      refine m_ild C hP mA_1 hi22 dX6_least_26 ?_
      refine lv_iconst (v := nI 5) hx hb dX6_least_27 rfl ?_
      refine lv_icmp_eq (tgt := 41) hx hb dX6_least_28 (by decide) (fun hc24 => ?_) (fun hc24 => ?_)
      · have hf := if_t hc24 hf
        exact wX6_least_41 C  ih  S x1 x2  hf _ _ _ hP (lv_sub hl [0, 1, 2] rfl)
      · have hf := if_f hc24 hf
        refine lv_aload_n hx hb dX6_least_31 rfl (lv_at hl 0 rfl) ?_
        refine m_get C hP 31 (by decide) k4_84 rfl (v := .ref (Γ.2.2 (18))) rfl dX6_least_32 ?_
        refine lv_iload_n hx hb dX6_least_35 rfl (lv_at hl 1 rfl) ?_
        refine lv_iload_n hx hb dX6_least_36 rfl (lv_at hl 2 rfl) ?_
        refine gi_i hf (fun hi25 hj26 hf => ?_)
        refine m_ist C hP mA_18 hi25 dX6_least_37 (fun H locs hP => ?_)
        refine sv_i hf (fun S27 e27 hf => ?_)
        rw [← e27] at hP
        refine lv_iinc (v := x1 + (nI 1)) (lv' := [(1, .int (x1 + (nI 1))), (0, .ref (Γ.2.2 (0))), (2, .int x2)]) hx hb dX6_least_38 hl (k := 1) rfl rfl (by decide) rfl (fun ls hl => ?_)
        exact wX6_least_41 C  ih  S27 (x1 + (nI 1)) x2  hf _ _ _ hP (lv_sub hl [1, 0, 2] rfl)
def fX6_least  (S : mM)  : Option (Int32 × mM) :=
  sv (mS S 0 9 (nI 0)) fun S1 => ( bv (fX6_findLine S1) fun S2 => ( fX6_least_13   lF S2 (nI 0) (nI 0)))
set_option maxHeartbeats 4000000 in
set_option maxRecDepth 100000 in
theorem mX6_least (l : Launch) (Γ : gG)   {S : mM}  {rz : Int32} {Sz : mM} (hf : fX6_least S = some (rz, Sz)) : CtI l Γ 28 yX6_least cX6_least 8 .int 4 87 [.ref (Γ.2.2 (0))] (mE Γ S) rz (mE Γ Sz) := by
  refine met_body (Γ := Γ) (lv := [(0, .ref (Γ.2.2 (0)))]) RX6 (by decide) rfl rfl rfl ?_
  intro p e s m below meth c H locs ls C hP hl
  obtain ⟨hx, hb, -, -, hown, hts, -, hwx, -⟩ := id C
  unfold fX6_least at hf
  refine lv_aload_n hx hb dX6_least_0 rfl (lv_at hl 0 rfl) ?_
  refine lv_iconst (v := nI 0) hx hb dX6_least_1 rfl ?_
  refine m_put C hP 9 (by decide) k4_62 dX6_least_2 (fun H locs hP => ?_)
  refine sv_i hf (fun S1 e1 hf => ?_)
  rw [← e1] at hP
  refine lv_aload_n hx hb dX6_least_5 rfl (lv_at hl 0 rfl) ?_
  refine bv_i hf (fun S2 hq2 hf => ?_)
  refine goV (runV (rest := []) (b := 0) (mX6_findLine l Γ  hq2) C hP hl.1 (by decide) mE0 rfl k5_174 qX6_findLine.1 qX6_findLine.2.1 qX6_findLine.2.2.1 qX6_findLine.2.2.2.1 rfl qX6_findLine.2.2.2.2 ⟨Nat.le_of_ble_eq_true rfl, Nat.le_of_ble_eq_true rfl⟩ ⟨Nat.le_refl 0, Nat.le_refl 0⟩ (Nat.le_of_ble_eq_true rfl) dX6_least_6) hP (fun H locs hP => ?_)
  refine lv_iconst (v := nI 0) hx hb dX6_least_9 rfl ?_
  refine lv_istore_n (lv' := [(1, .int (nI 0)), (0, .ref (Γ.2.2 (0)))]) hx hb dX6_least_10 rfl hl (by decide) rfl (fun ls hl => ?_)
  refine lv_iconst (v := nI 0) hx hb dX6_least_11 rfl ?_
  refine lv_istore_n (lv' := [(2, .int (nI 0)), (1, .int (nI 0)), (0, .ref (Γ.2.2 (0)))]) hx hb dX6_least_12 rfl hl (by decide) rfl (fun ls hl => ?_)
  exact wX6_least_13 C   lF S2 (nI 0) (nI 0)  hf _ _ _ hP (lv_sub hl [2, 1, 0] rfl)
-- X6_oneLine
theorem qX6_oneLine : Cond.instanceMethod yX6_oneLine ∈ Ub ∧ Cond.selects RX6 yX6_oneLine yX6_oneLine ∈ Ub ∧ Cond.initialized RX6 ∈ Ub ∧ Cond.code yX6_oneLine cX6_oneLine 5 (some FieldType.int) ∈ Ub ∧ (yX6_oneLine.cls = RX6 ∧ yX6_oneLine.cls ≠ "java/lang/invoke/MethodHandle" ∧ yX6_oneLine.cls ≠ "java/lang/invoke/VarHandle" ∧ (parseMethodDescriptor yX6_oneLine.desc).map (fun d => d.parameters.length) = some 0) := ⟨k5_191, k5_192, k1_5, k5_193, by decide +kernel⟩
def fX6_oneLine_75  (K31 : mM → Int32 → Int32 → Option (Int32 × mM)) (K44 : mM → Int32 → Int32 → Int32 → Int32 → Option (Int32 × mM)) (S : mM) (x1 : Int32) (x2 : Int32) (x4 : Int32) (y0 : Int32) : Option (Int32 × mM) :=
  K44 S x1 x2 y0 (x4 + (nI 1))
set_option maxHeartbeats 4000000 in
set_option maxRecDepth 100000 in
theorem wX6_oneLine_75 {p : Program} {l : Launch} {e : Env} {s : State} {m : MethodId} {args : Array Value} {below : List Frame} {meth : Method} {c : Code} {Γ : gG} {rz : Int32} {Sz : mM} (C : Cx Γ 28 p s m args meth c RX6 cX6_oneLine 5 (some .int))  {K31 : mM → Int32 → Int32 → Option (Int32 × mM)} (hK31 : ∀ (S : mM) (x1 : Int32) (x2 : Int32) , K31 S x1 x2 = some (rz, Sz) → ∀ (H : Heap) (locs : List Loc) (ls : Array Slot), St Γ 28 (mE Γ S) s.heap H locs → lv_has ls 5 [(0, .ref (Γ.2.2 (0))), (1, .int x1), (2, .int x2)] → W p l e { frames := 4, cells := 0, slots := 0, locals := 87 } s m args below meth c H locs 0 0 (MQ below (gQi Γ 28 rz (mE Γ Sz)) args s 0 0 (wA Γ 28)) (F0 m 31 ls [])) {K44 : mM → Int32 → Int32 → Int32 → Int32 → Option (Int32 × mM)} (hK44 : ∀ (S : mM) (x1 : Int32) (x2 : Int32) (x3 : Int32) (x4 : Int32) , K44 S x1 x2 x3 x4 = some (rz, Sz) → ∀ (H : Heap) (locs : List Loc) (ls : Array Slot), St Γ 28 (mE Γ S) s.heap H locs → lv_has ls 5 [(0, .ref (Γ.2.2 (0))), (1, .int x1), (2, .int x2), (3, .int x3), (4, .int x4)] → W p l e { frames := 4, cells := 0, slots := 0, locals := 87 } s m args below meth c H locs 0 0 (MQ below (gQi Γ 28 rz (mE Γ Sz)) args s 0 0 (wA Γ 28)) (F0 m 44 ls [])) : ∀ (S : mM) (x1 : Int32) (x2 : Int32) (x4 : Int32) (y0 : Int32) , fX6_oneLine_75  K31 K44 S x1 x2 x4 y0 = some (rz, Sz) → ∀ (H : Heap) (locs : List Loc) (ls : Array Slot), St Γ 28 (mE Γ S) s.heap H locs → lv_has ls 5 [(0, .ref (Γ.2.2 (0))), (1, .int x1), (2, .int x2), (4, .int x4)] → W p l e { frames := 4, cells := 0, slots := 0, locals := 87 } s m args below meth c H locs 0 0 (MQ below (gQi Γ 28 rz (mE Γ Sz)) args s 0 0 (wA Γ 28)) (F0 m 75 ls [.int y0]) := by
  obtain ⟨hx, hb, -, -, hown, hts, -, hwx, -⟩ := id C
  intro S x1 x2 x4 y0 hf H locs ls hP hl
  unfold fX6_oneLine_75 at hf
  refine lv_istore_n (lv' := [(3, .int y0), (0, .ref (Γ.2.2 (0))), (1, .int x1), (2, .int x2), (4, .int x4)]) hx hb dX6_oneLine_75 rfl hl (by decide) rfl (fun ls hl => ?_)
  refine lv_iinc (v := x4 + (nI 1)) (lv' := [(4, .int (x4 + (nI 1))), (3, .int y0), (0, .ref (Γ.2.2 (0))), (1, .int x1), (2, .int x2)]) hx hb dX6_oneLine_76 hl (k := 4) rfl rfl (by decide) rfl (fun ls hl => ?_)
  refine lv_goto (tgt := 44) hx hb dX6_oneLine_79 (by decide) ?_
  exact hK44 S x1 x2 y0 (x4 + (nI 1))  hf _ _ _ hP (lv_sub hl [2, 3, 4, 1, 0] rfl)
def fX6_oneLine_44  (K31 : mM → Int32 → Int32 → Option (Int32 × mM)) : Nat → mM → Int32 → Int32 → Int32 → Int32 → Option (Int32 × mM)
  | 0, _, _, _, _, _ => none
  | n + 1, S, x1, x2, x3, x4 =>
    if (S.1 0 0) ≤ x4 then gi x2 40 (bd (fX6_sendTo S x3 (S.1 16 (x2).toNatClampNeg)) fun v10 S10 => ( K31 S10 (x1 + v10) (x2 + (nI 1)))) else gi x4 5 (gi x3 5 (if (S.1 17 (x3).toNatClampNeg) ≤ (S.1 17 (x4).toNatClampNeg) then fX6_oneLine_75  K31 (fX6_oneLine_44  K31 n)  S x1 x2 x4 x3 else fX6_oneLine_75  K31 (fX6_oneLine_44  K31 n)  S x1 x2 x4 x4))
set_option maxHeartbeats 4000000 in
set_option maxRecDepth 100000 in
theorem wX6_oneLine_44 {p : Program} {l : Launch} {e : Env} {s : State} {m : MethodId} {args : Array Value} {below : List Frame} {meth : Method} {c : Code} {Γ : gG} {rz : Int32} {Sz : mM} (C : Cx Γ 28 p s m args meth c RX6 cX6_oneLine 5 (some .int))  {K31 : mM → Int32 → Int32 → Option (Int32 × mM)} (hK31 : ∀ (S : mM) (x1 : Int32) (x2 : Int32) , K31 S x1 x2 = some (rz, Sz) → ∀ (H : Heap) (locs : List Loc) (ls : Array Slot), St Γ 28 (mE Γ S) s.heap H locs → lv_has ls 5 [(0, .ref (Γ.2.2 (0))), (1, .int x1), (2, .int x2)] → W p l e { frames := 4, cells := 0, slots := 0, locals := 87 } s m args below meth c H locs 0 0 (MQ below (gQi Γ 28 rz (mE Γ Sz)) args s 0 0 (wA Γ 28)) (F0 m 31 ls [])) : ∀ n : Nat, ∀ (S : mM) (x1 : Int32) (x2 : Int32) (x3 : Int32) (x4 : Int32) , fX6_oneLine_44  K31 n S x1 x2 x3 x4 = some (rz, Sz) → ∀ (H : Heap) (locs : List Loc) (ls : Array Slot), St Γ 28 (mE Γ S) s.heap H locs → lv_has ls 5 [(0, .ref (Γ.2.2 (0))), (1, .int x1), (2, .int x2), (3, .int x3), (4, .int x4)] → W p l e { frames := 4, cells := 0, slots := 0, locals := 87 } s m args below meth c H locs 0 0 (MQ below (gQi Γ 28 rz (mE Γ Sz)) args s 0 0 (wA Γ 28)) (F0 m 44 ls []) := by
  obtain ⟨hx, hb, -, -, hown, hts, -, hwx, -⟩ := id C
  intro n
  induction n with
  | zero =>
    intro S x1 x2 x3 x4 hf
    unfold fX6_oneLine_44 at hf
    cases hf
  | succ n ih =>
    intro S x1 x2 x3 x4 hf H locs ls hP hl
    unfold fX6_oneLine_44 at hf
    refine lv_iload hx hb dX6_oneLine_44 (lv_at hl 4 rfl) ?_
    refine lv_aload_n hx hb dX6_oneLine_46 rfl (lv_at hl 0 rfl) ?_
    refine m_get C hP 0 (by decide) k4_53 rfl (v := .int (S.1 0 0)) rfl dX6_oneLine_47 ?_
    refine lv_icmp_ge (tgt := 82) hx hb dX6_oneLine_50 (by decide) (fun hc7 => ?_) (fun hc7 => ?_)
    · have hf := if_t hc7 hf
      refine lv_iload_n hx hb dX6_oneLine_82 rfl (lv_at hl 1 rfl) ?_
      refine lv_aload_n hx hb dX6_oneLine_83 rfl (lv_at hl 0 rfl) ?_
      refine lv_iload_n hx hb dX6_oneLine_84 rfl (lv_at hl 3 rfl) ?_
      refine lv_aload_n hx hb dX6_oneLine_85 rfl (lv_at hl 0 rfl) ?_
      refine m_get C hP 28 (by decide) k4_81 rfl (v := .ref (Γ.2.2 (16))) rfl dX6_oneLine_86 ?_
      refine lv_iload_n hx hb dX6_oneLine_89 rfl (lv_at hl 2 rfl) ?_
      refine gi_i hf (fun hi8 hj9 hf => ?_)
      refine m_ild C hP mA_16 hi8 dX6_oneLine_90 ?_
      refine bd_i hf (fun v10 S10 hq10 hf => ?_)
      refine goI (runV (rest := [.int x1]) (b := 0) (mX6_sendTo l Γ  hq10) C hP hl.1 (by decide) mE0 rfl k5_186 qX6_sendTo.1 qX6_sendTo.2.1 qX6_sendTo.2.2.1 qX6_sendTo.2.2.2.1 rfl qX6_sendTo.2.2.2.2 ⟨Nat.le_of_ble_eq_true rfl, Nat.le_of_ble_eq_true rfl⟩ ⟨Nat.le_refl 0, Nat.le_refl 0⟩ (Nat.le_of_ble_eq_true rfl) dX6_oneLine_91) hP (fun H locs hP => ?_)
      refine lv_iadd hx hb dX6_oneLine_94 ?_
      refine lv_istore_n (lv' := [(1, .int (x1 + v10)), (0, .ref (Γ.2.2 (0))), (2, .int x2), (3, .int x3), (4, .int x4)]) hx hb dX6_oneLine_95 rfl hl (by decide) rfl (fun ls hl => ?_)
      refine lv_iinc (v := x2 + (nI 1)) (lv' := [(2, .int (x2 + (nI 1))), (1, .int (x1 + v10)), (0, .ref (Γ.2.2 (0))), (3, .int x3), (4, .int x4)]) hx hb dX6_oneLine_96 hl (k := 2) rfl rfl (by decide) rfl (fun ls hl => ?_)
      refine lv_goto (tgt := 31) hx hb dX6_oneLine_99 (by decide) ?_
      exact hK31 S10 (x1 + v10) (x2 + (nI 1))  hf _ _ _ hP (lv_sub hl [2, 1, 0] rfl)
    · have hf := if_f hc7 hf
      refine lv_aload_n hx hb dX6_oneLine_53 rfl (lv_at hl 0 rfl) ?_
      refine m_get C hP 30 (by decide) k4_83 rfl (v := .ref (Γ.2.2 (17))) rfl dX6_oneLine_54 ?_
      refine lv_iload hx hb dX6_oneLine_57 (lv_at hl 4 rfl) ?_
      refine gi_i hf (fun hi11 hj12 hf => ?_)
      refine m_ild C hP mA_17 hi11 dX6_oneLine_59 ?_
      refine lv_aload_n hx hb dX6_oneLine_60 rfl (lv_at hl 0 rfl) ?_
      refine m_get C hP 30 (by decide) k4_83 rfl (v := .ref (Γ.2.2 (17))) rfl dX6_oneLine_61 ?_
      refine lv_iload_n hx hb dX6_oneLine_64 rfl (lv_at hl 3 rfl) ?_
      refine gi_i hf (fun hi13 hj14 hf => ?_)
      refine m_ild C hP mA_17 hi13 dX6_oneLine_65 ?_
      refine lv_icmp_ge (tgt := 74) hx hb dX6_oneLine_66 (by decide) (fun hc15 => ?_) (fun hc15 => ?_)
      · have hf := if_t hc15 hf
        refine lv_iload_n hx hb dX6_oneLine_74 rfl (lv_at hl 3 rfl) ?_
        exact wX6_oneLine_75 C  hK31 ih  S x1 x2 x4 x3  hf _ _ _ hP (lv_sub hl [0, 1, 2, 4] rfl)
      · have hf := if_f hc15 hf
        refine lv_iload hx hb dX6_oneLine_69 (lv_at hl 4 rfl) ?_
        refine lv_goto (tgt := 75) hx hb dX6_oneLine_71 (by decide) ?_
        exact wX6_oneLine_75 C  hK31 ih  S x1 x2 x4 x4  hf _ _ _ hP (lv_sub hl [0, 1, 2, 4] rfl)
def fX6_oneLine_31   : Nat → mM → Int32 → Int32 → Option (Int32 × mM)
  | 0, _, _, _ => none
  | n + 1, S, x1, x2 =>
    if (S.1 0 29) ≤ x2 then some (x1, S) else fX6_oneLine_44  (fX6_oneLine_31   n) lF S x1 x2 (nI 0) (nI 1)
set_option maxHeartbeats 4000000 in
set_option maxRecDepth 100000 in
theorem wX6_oneLine_31 {p : Program} {l : Launch} {e : Env} {s : State} {m : MethodId} {args : Array Value} {below : List Frame} {meth : Method} {c : Code} {Γ : gG} {rz : Int32} {Sz : mM} (C : Cx Γ 28 p s m args meth c RX6 cX6_oneLine 5 (some .int))   : ∀ n : Nat, ∀ (S : mM) (x1 : Int32) (x2 : Int32) , fX6_oneLine_31   n S x1 x2 = some (rz, Sz) → ∀ (H : Heap) (locs : List Loc) (ls : Array Slot), St Γ 28 (mE Γ S) s.heap H locs → lv_has ls 5 [(0, .ref (Γ.2.2 (0))), (1, .int x1), (2, .int x2)] → W p l e { frames := 4, cells := 0, slots := 0, locals := 87 } s m args below meth c H locs 0 0 (MQ below (gQi Γ 28 rz (mE Γ Sz)) args s 0 0 (wA Γ 28)) (F0 m 31 ls []) := by
  obtain ⟨hx, hb, -, -, hown, hts, -, hwx, -⟩ := id C
  intro n
  induction n with
  | zero =>
    intro S x1 x2 hf
    unfold fX6_oneLine_31 at hf
    cases hf
  | succ n ih =>
    intro S x1 x2 hf H locs ls hP hl
    unfold fX6_oneLine_31 at hf
    refine lv_iload_n hx hb dX6_oneLine_31 rfl (lv_at hl 2 rfl) ?_
    refine lv_aload_n hx hb dX6_oneLine_32 rfl (lv_at hl 0 rfl) ?_
    refine m_get C hP 29 (by decide) k4_82 rfl (v := .int (S.1 0 29)) rfl dX6_oneLine_33 ?_
    refine lv_icmp_ge (tgt := 102) hx hb dX6_oneLine_36 (by decide) (fun hc6 => ?_) (fun hc6 => ?_)
    · have hf := if_t hc6 hf
      refine lv_iload_n hx hb dX6_oneLine_102 rfl (lv_at hl 1 rfl) ?_
      exact r_iret (X := mE Γ) C hP hf dX6_oneLine_103
    · have hf := if_f hc6 hf
      refine lv_iconst (v := nI 0) hx hb dX6_oneLine_39 rfl ?_
      refine lv_istore_n (lv' := [(3, .int (nI 0)), (0, .ref (Γ.2.2 (0))), (1, .int x1), (2, .int x2)]) hx hb dX6_oneLine_40 rfl hl (by decide) rfl (fun ls hl => ?_)
      refine lv_iconst (v := nI 1) hx hb dX6_oneLine_41 rfl ?_
      refine lv_istore (lv' := [(4, .int (nI 1)), (3, .int (nI 0)), (0, .ref (Γ.2.2 (0))), (1, .int x1), (2, .int x2)]) hx hb dX6_oneLine_42 hl (by decide) rfl (fun ls hl => ?_)
      exact wX6_oneLine_44 C  ih lF S x1 x2 (nI 0) (nI 1)  hf _ _ _ hP (lv_sub hl [2, 3, 4, 1, 0] rfl)
def fX6_oneLine  (S : mM)  : Option (Int32 × mM) :=
  sv (mS S 0 9 (nI 0)) fun S1 => ( if (S1.1 0 0) = 0 then some ((-4), S1) else bv (fX6_findLine S1) fun S3 => ( bv (fX6_beginFree S3 (nI 0)) fun S4 => ( bd (fX6_sumOfFirst S4) fun v5 S5 => ( fX6_oneLine_31   lF S5 v5 (nI 0)))))
set_option maxHeartbeats 4000000 in
set_option maxRecDepth 100000 in
theorem mX6_oneLine (l : Launch) (Γ : gG)   {S : mM}  {rz : Int32} {Sz : mM} (hf : fX6_oneLine S = some (rz, Sz)) : CtI l Γ 28 yX6_oneLine cX6_oneLine 5 .int 4 87 [.ref (Γ.2.2 (0))] (mE Γ S) rz (mE Γ Sz) := by
  refine met_body (Γ := Γ) (lv := [(0, .ref (Γ.2.2 (0)))]) RX6 (by decide) rfl rfl rfl ?_
  intro p e s m below meth c H locs ls C hP hl
  obtain ⟨hx, hb, -, -, hown, hts, -, hwx, -⟩ := id C
  unfold fX6_oneLine at hf
  refine lv_aload_n hx hb dX6_oneLine_0 rfl (lv_at hl 0 rfl) ?_
  refine lv_iconst (v := nI 0) hx hb dX6_oneLine_1 rfl ?_
  refine m_put C hP 9 (by decide) k4_62 dX6_oneLine_2 (fun H locs hP => ?_)
  refine sv_i hf (fun S1 e1 hf => ?_)
  rw [← e1] at hP
  refine lv_aload_n hx hb dX6_oneLine_5 rfl (lv_at hl 0 rfl) ?_
  refine m_get C hP 0 (by decide) k4_53 rfl (v := .int (S1.1 0 0)) rfl dX6_oneLine_6 ?_
  refine lv_if_ne (tgt := 15) hx hb dX6_oneLine_9 (by decide) (fun hc2 => ?_) (fun hc2 => ?_)
  · have hf := if_f hc2 hf
    refine lv_aload_n hx hb dX6_oneLine_15 rfl (lv_at hl 0 rfl) ?_
    refine bv_i hf (fun S3 hq3 hf => ?_)
    refine goV (runV (rest := []) (b := 0) (mX6_findLine l Γ  hq3) C hP hl.1 (by decide) mE0 rfl k5_174 qX6_findLine.1 qX6_findLine.2.1 qX6_findLine.2.2.1 qX6_findLine.2.2.2.1 rfl qX6_findLine.2.2.2.2 ⟨Nat.le_of_ble_eq_true rfl, Nat.le_of_ble_eq_true rfl⟩ ⟨Nat.le_refl 0, Nat.le_refl 0⟩ (Nat.le_of_ble_eq_true rfl) dX6_oneLine_16) hP (fun H locs hP => ?_)
    refine lv_aload_n hx hb dX6_oneLine_19 rfl (lv_at hl 0 rfl) ?_
    refine lv_iconst (v := nI 0) hx hb dX6_oneLine_20 rfl ?_
    refine bv_i hf (fun S4 hq4 hf => ?_)
    refine goV (runV (rest := []) (b := 0) (mX6_beginFree l Γ  hq4) C hP hl.1 (by decide) mE0 rfl k5_178 qX6_beginFree.1 qX6_beginFree.2.1 qX6_beginFree.2.2.1 qX6_beginFree.2.2.2.1 rfl qX6_beginFree.2.2.2.2 ⟨Nat.le_of_ble_eq_true rfl, Nat.le_of_ble_eq_true rfl⟩ ⟨Nat.le_refl 0, Nat.le_refl 0⟩ (Nat.le_of_ble_eq_true rfl) dX6_oneLine_21) hP (fun H locs hP => ?_)
    refine lv_aload_n hx hb dX6_oneLine_24 rfl (lv_at hl 0 rfl) ?_
    refine bd_i hf (fun v5 S5 hq5 hf => ?_)
    refine goI (runV (rest := []) (b := 0) (mX6_sumOfFirst l Γ  hq5) C hP hl.1 (by decide) mE0 rfl k5_182 qX6_sumOfFirst.1 qX6_sumOfFirst.2.1 qX6_sumOfFirst.2.2.1 qX6_sumOfFirst.2.2.2.1 rfl qX6_sumOfFirst.2.2.2.2 ⟨Nat.le_of_ble_eq_true rfl, Nat.le_of_ble_eq_true rfl⟩ ⟨Nat.le_refl 0, Nat.le_refl 0⟩ (Nat.le_of_ble_eq_true rfl) dX6_oneLine_25) hP (fun H locs hP => ?_)
    refine lv_istore_n (lv' := [(1, .int v5), (0, .ref (Γ.2.2 (0)))]) hx hb dX6_oneLine_28 rfl hl (by decide) rfl (fun ls hl => ?_)
    refine lv_iconst (v := nI 0) hx hb dX6_oneLine_29 rfl ?_
    refine lv_istore_n (lv' := [(2, .int (nI 0)), (1, .int v5), (0, .ref (Γ.2.2 (0)))]) hx hb dX6_oneLine_30 rfl hl (by decide) rfl (fun ls hl => ?_)
    exact wX6_oneLine_31 C   lF S5 v5 (nI 0)  hf _ _ _ hP (lv_sub hl [2, 1, 0] rfl)
  · have hf := if_t hc2 hf
    refine lv_bipush (v := (-4)) hx hb dX6_oneLine_12 rfl ?_
    exact r_iret (X := mE Γ) C hP hf dX6_oneLine_14
-- X6_beside
theorem qX6_beside : Cond.instanceMethod yX6_beside ∈ Ub ∧ Cond.selects RX6 yX6_beside yX6_beside ∈ Ub ∧ Cond.initialized RX6 ∈ Ub ∧ Cond.code yX6_beside cX6_beside 6 (some FieldType.int) ∈ Ub ∧ (yX6_beside.cls = RX6 ∧ yX6_beside.cls ≠ "java/lang/invoke/MethodHandle" ∧ yX6_beside.cls ≠ "java/lang/invoke/VarHandle" ∧ (parseMethodDescriptor yX6_beside.desc).map (fun d => d.parameters.length) = some 3) := ⟨k5_195, k5_196, k1_5, k5_197, by decide +kernel⟩
def fX6_beside_38   (S : mM)  : Option (Int32 × mM) :=
  some ((-1000000001), S)
set_option maxHeartbeats 4000000 in
set_option maxRecDepth 100000 in
theorem wX6_beside_38 {p : Program} {l : Launch} {e : Env} {s : State} {m : MethodId} {args : Array Value} {below : List Frame} {meth : Method} {c : Code} {Γ : gG} {rz : Int32} {Sz : mM} (C : Cx Γ 28 p s m args meth c RX6 cX6_beside 6 (some .int))   : ∀ (S : mM)  , fX6_beside_38   S  = some (rz, Sz) → ∀ (H : Heap) (locs : List Loc) (ls : Array Slot), St Γ 28 (mE Γ S) s.heap H locs → lv_has ls 6 [] → W p l e { frames := 4, cells := 0, slots := 0, locals := 87 } s m args below meth c H locs 0 0 (MQ below (gQi Γ 28 rz (mE Γ Sz)) args s 0 0 (wA Γ 28)) (F0 m 38 ls []) := by
  obtain ⟨hx, hb, -, -, hown, hts, -, hwx, -⟩ := id C
  intro S  hf H locs ls hP hl
  unfold fX6_beside_38 at hf
  refine lv_ldcw (v := -1000000001) hx hb hown (hts _ k5_198) dX6_beside_38 ?_
  exact r_iret (X := mE Γ) C hP hf dX6_beside_41
def fX6_beside_93  (K52 : mM → Int32 → Int32 → Int32 → Int32 → Int32 → Option (Int32 × mM)) (S : mM) (x1 : Int32) (x2 : Int32) (x3 : Int32) (x5 : Int32) (y0 : Int32) (y1 : Int32) (y2 : Int32) : Option (Int32 × mM) :=
  K52 S x1 x2 x3 (y0 + (y1 - y2)) (x5 + (nI 1))
set_option maxHeartbeats 4000000 in
set_option maxRecDepth 100000 in
theorem wX6_beside_93 {p : Program} {l : Launch} {e : Env} {s : State} {m : MethodId} {args : Array Value} {below : List Frame} {meth : Method} {c : Code} {Γ : gG} {rz : Int32} {Sz : mM} (C : Cx Γ 28 p s m args meth c RX6 cX6_beside 6 (some .int))  {K52 : mM → Int32 → Int32 → Int32 → Int32 → Int32 → Option (Int32 × mM)} (hK52 : ∀ (S : mM) (x1 : Int32) (x2 : Int32) (x3 : Int32) (x4 : Int32) (x5 : Int32) , K52 S x1 x2 x3 x4 x5 = some (rz, Sz) → ∀ (H : Heap) (locs : List Loc) (ls : Array Slot), St Γ 28 (mE Γ S) s.heap H locs → lv_has ls 6 [(0, .ref (Γ.2.2 (0))), (1, .int x1), (2, .int x2), (3, .int x3), (4, .int x4), (5, .int x5)] → W p l e { frames := 4, cells := 0, slots := 0, locals := 87 } s m args below meth c H locs 0 0 (MQ below (gQi Γ 28 rz (mE Γ Sz)) args s 0 0 (wA Γ 28)) (F0 m 52 ls [])) : ∀ (S : mM) (x1 : Int32) (x2 : Int32) (x3 : Int32) (x5 : Int32) (y0 : Int32) (y1 : Int32) (y2 : Int32) , fX6_beside_93  K52 S x1 x2 x3 x5 y0 y1 y2 = some (rz, Sz) → ∀ (H : Heap) (locs : List Loc) (ls : Array Slot), St Γ 28 (mE Γ S) s.heap H locs → lv_has ls 6 [(0, .ref (Γ.2.2 (0))), (1, .int x1), (2, .int x2), (3, .int x3), (5, .int x5)] → W p l e { frames := 4, cells := 0, slots := 0, locals := 87 } s m args below meth c H locs 0 0 (MQ below (gQi Γ 28 rz (mE Γ Sz)) args s 0 0 (wA Γ 28)) (F0 m 93 ls [.int y2, .int y1, .int y0]) := by
  obtain ⟨hx, hb, -, -, hown, hts, -, hwx, -⟩ := id C
  intro S x1 x2 x3 x5 y0 y1 y2 hf H locs ls hP hl
  unfold fX6_beside_93 at hf
  refine lv_isub hx hb dX6_beside_93 ?_
  refine lv_iadd hx hb dX6_beside_94 ?_
  refine lv_istore (lv' := [(4, .int (y0 + (y1 - y2))), (0, .ref (Γ.2.2 (0))), (1, .int x1), (2, .int x2), (3, .int x3), (5, .int x5)]) hx hb dX6_beside_95 hl (by decide) rfl (fun ls hl => ?_)
  refine lv_iinc (v := x5 + (nI 1)) (lv' := [(5, .int (x5 + (nI 1))), (4, .int (y0 + (y1 - y2))), (0, .ref (Γ.2.2 (0))), (1, .int x1), (2, .int x2), (3, .int x3)]) hx hb dX6_beside_97 hl (k := 5) rfl rfl (by decide) rfl (fun ls hl => ?_)
  refine lv_goto (tgt := 52) hx hb dX6_beside_100 (by decide) ?_
  exact hK52 S x1 x2 x3 (y0 + (y1 - y2)) (x5 + (nI 1))  hf _ _ _ hP (lv_sub hl [2, 3, 4, 5, 1, 0] rfl)
def fX6_beside_79  (K52 : mM → Int32 → Int32 → Int32 → Int32 → Int32 → Option (Int32 × mM)) (S : mM) (x1 : Int32) (x2 : Int32) (x3 : Int32) (x5 : Int32) (y0 : Int32) (y1 : Int32) : Option (Int32 × mM) :=
  gi x1 5 (if (S.1 7 (x1).toNatClampNeg) = 0 then fX6_beside_93  K52  S x1 x2 x3 x5 y0 y1 (nI 0) else fX6_beside_93  K52  S x1 x2 x3 x5 y0 y1 (nI 1))
set_option maxHeartbeats 4000000 in
set_option maxRecDepth 100000 in
theorem wX6_beside_79 {p : Program} {l : Launch} {e : Env} {s : State} {m : MethodId} {args : Array Value} {below : List Frame} {meth : Method} {c : Code} {Γ : gG} {rz : Int32} {Sz : mM} (C : Cx Γ 28 p s m args meth c RX6 cX6_beside 6 (some .int))  {K52 : mM → Int32 → Int32 → Int32 → Int32 → Int32 → Option (Int32 × mM)} (hK52 : ∀ (S : mM) (x1 : Int32) (x2 : Int32) (x3 : Int32) (x4 : Int32) (x5 : Int32) , K52 S x1 x2 x3 x4 x5 = some (rz, Sz) → ∀ (H : Heap) (locs : List Loc) (ls : Array Slot), St Γ 28 (mE Γ S) s.heap H locs → lv_has ls 6 [(0, .ref (Γ.2.2 (0))), (1, .int x1), (2, .int x2), (3, .int x3), (4, .int x4), (5, .int x5)] → W p l e { frames := 4, cells := 0, slots := 0, locals := 87 } s m args below meth c H locs 0 0 (MQ below (gQi Γ 28 rz (mE Γ Sz)) args s 0 0 (wA Γ 28)) (F0 m 52 ls [])) : ∀ (S : mM) (x1 : Int32) (x2 : Int32) (x3 : Int32) (x5 : Int32) (y0 : Int32) (y1 : Int32) , fX6_beside_79  K52 S x1 x2 x3 x5 y0 y1 = some (rz, Sz) → ∀ (H : Heap) (locs : List Loc) (ls : Array Slot), St Γ 28 (mE Γ S) s.heap H locs → lv_has ls 6 [(0, .ref (Γ.2.2 (0))), (1, .int x1), (2, .int x2), (3, .int x3), (5, .int x5)] → W p l e { frames := 4, cells := 0, slots := 0, locals := 87 } s m args below meth c H locs 0 0 (MQ below (gQi Γ 28 rz (mE Γ Sz)) args s 0 0 (wA Γ 28)) (F0 m 79 ls [.int y1, .int y0]) := by
  obtain ⟨hx, hb, -, -, hown, hts, -, hwx, -⟩ := id C
  intro S x1 x2 x3 x5 y0 y1 hf H locs ls hP hl
  unfold fX6_beside_79 at hf
  refine lv_aload_n hx hb dX6_beside_79 rfl (lv_at hl 0 rfl) ?_
  refine m_get C hP 10 (by decide) k4_63 rfl (v := .ref (Γ.2.2 (7))) rfl dX6_beside_80 ?_
  refine lv_iload_n hx hb dX6_beside_83 rfl (lv_at hl 1 rfl) ?_
  refine gi_i hf (fun hi16 hj17 hf => ?_)
  refine m_zld C hP  hi16 dX6_beside_84 ?_
  refine lv_if_eq (tgt := 92) hx hb dX6_beside_85 (by decide) (fun hc18 => ?_) (fun hc18 => ?_)
  · have hf := if_t hc18 hf
    refine lv_iconst (v := nI 0) hx hb dX6_beside_92 rfl ?_
    exact wX6_beside_93 C  hK52  S x1 x2 x3 x5 y0 y1 (nI 0)  hf _ _ _ hP (lv_sub hl [0, 1, 2, 3, 4] rfl)
  · have hf := if_f hc18 hf
    refine lv_iconst (v := nI 1) hx hb dX6_beside_88 rfl ?_
    refine lv_goto (tgt := 93) hx hb dX6_beside_89 (by decide) ?_
    exact wX6_beside_93 C  hK52  S x1 x2 x3 x5 y0 y1 (nI 1)  hf _ _ _ hP (lv_sub hl [0, 1, 2, 3, 4] rfl)
def fX6_beside_52   : Nat → mM → Int32 → Int32 → Int32 → Int32 → Int32 → Option (Int32 × mM)
  | 0, _, _, _, _, _, _ => none
  | n + 1, S, x1, x2, x3, x4, x5 =>
    if x3 ≤ x5 then bv (fX6_close S) fun S11 => ( some (x4, S11)) else bd (fX6_minuteOn S) fun v12 S12 => ( gi x2 5 (if (S12.1 7 (x2).toNatClampNeg) = 0 then fX6_beside_79  (fX6_beside_52   n)  S12 x1 x2 x3 x5 x4 (nI 0) else fX6_beside_79  (fX6_beside_52   n)  S12 x1 x2 x3 x5 x4 (nI 1)))
set_option maxHeartbeats 4000000 in
set_option maxRecDepth 100000 in
theorem wX6_beside_52 {p : Program} {l : Launch} {e : Env} {s : State} {m : MethodId} {args : Array Value} {below : List Frame} {meth : Method} {c : Code} {Γ : gG} {rz : Int32} {Sz : mM} (C : Cx Γ 28 p s m args meth c RX6 cX6_beside 6 (some .int))   : ∀ n : Nat, ∀ (S : mM) (x1 : Int32) (x2 : Int32) (x3 : Int32) (x4 : Int32) (x5 : Int32) , fX6_beside_52   n S x1 x2 x3 x4 x5 = some (rz, Sz) → ∀ (H : Heap) (locs : List Loc) (ls : Array Slot), St Γ 28 (mE Γ S) s.heap H locs → lv_has ls 6 [(0, .ref (Γ.2.2 (0))), (1, .int x1), (2, .int x2), (3, .int x3), (4, .int x4), (5, .int x5)] → W p l e { frames := 4, cells := 0, slots := 0, locals := 87 } s m args below meth c H locs 0 0 (MQ below (gQi Γ 28 rz (mE Γ Sz)) args s 0 0 (wA Γ 28)) (F0 m 52 ls []) := by
  obtain ⟨hx, hb, -, -, hown, hts, -, hwx, -⟩ := id C
  intro n
  induction n with
  | zero =>
    intro S x1 x2 x3 x4 x5 hf
    unfold fX6_beside_52 at hf
    cases hf
  | succ n ih =>
    intro S x1 x2 x3 x4 x5 hf H locs ls hP hl
    unfold fX6_beside_52 at hf
    refine lv_iload hx hb dX6_beside_52 (lv_at hl 5 rfl) ?_
    refine lv_iload_n hx hb dX6_beside_54 rfl (lv_at hl 3 rfl) ?_
    refine lv_icmp_ge (tgt := 103) hx hb dX6_beside_55 (by decide) (fun hc10 => ?_) (fun hc10 => ?_)
    · have hf := if_t hc10 hf
      refine lv_aload_n hx hb dX6_beside_103 rfl (lv_at hl 0 rfl) ?_
      refine bv_i hf (fun S11 hq11 hf => ?_)
      refine goV (runV (rest := []) (b := 0) (mX6_close l Γ  hq11) C hP hl.1 (by decide) mE0 rfl k5_34 qX6_close.1 qX6_close.2.1 qX6_close.2.2.1 qX6_close.2.2.2.1 rfl qX6_close.2.2.2.2 ⟨Nat.le_of_ble_eq_true rfl, Nat.le_of_ble_eq_true rfl⟩ ⟨Nat.le_refl 0, Nat.le_refl 0⟩ (Nat.le_of_ble_eq_true rfl) dX6_beside_104) hP (fun H locs hP => ?_)
      refine lv_iload hx hb dX6_beside_107 (lv_at hl 4 rfl) ?_
      exact r_iret (X := mE Γ) C hP hf dX6_beside_109
    · have hf := if_f hc10 hf
      refine lv_aload_n hx hb dX6_beside_58 rfl (lv_at hl 0 rfl) ?_
      refine bd_i hf (fun v12 S12 hq12 hf => ?_)
      refine goI (runV (rest := []) (b := 0) (mX6_minuteOn l Γ  hq12) C hP hl.1 (by decide) mE0 rfl k5_22 qX6_minuteOn.1 qX6_minuteOn.2.1 qX6_minuteOn.2.2.1 qX6_minuteOn.2.2.2.1 rfl qX6_minuteOn.2.2.2.2 ⟨Nat.le_of_ble_eq_true rfl, Nat.le_of_ble_eq_true rfl⟩ ⟨Nat.le_refl 0, Nat.le_refl 0⟩ (Nat.le_of_ble_eq_true rfl) dX6_beside_59) hP (fun H locs hP => ?_)
      refine lv_pop hx hb dX6_beside_62 rfl ?_
      refine lv_iload hx hb dX6_beside_63 (lv_at hl 4 rfl) ?_
      refine lv_aload_n hx hb dX6_beside_65 rfl (lv_at hl 0 rfl) ?_
      refine m_get C hP 10 (by decide) k4_63 rfl (v := .ref (Γ.2.2 (7))) rfl dX6_beside_66 ?_
      refine lv_iload_n hx hb dX6_beside_69 rfl (lv_at hl 2 rfl) ?_
      refine gi_i hf (fun hi13 hj14 hf => ?_)
      refine m_zld C hP  hi13 dX6_beside_70 ?_
      refine lv_if_eq (tgt := 78) hx hb dX6_beside_71 (by decide) (fun hc15 => ?_) (fun hc15 => ?_)
      · have hf := if_t hc15 hf
        refine lv_iconst (v := nI 0) hx hb dX6_beside_78 rfl ?_
        exact wX6_beside_79 C  ih  S12 x1 x2 x3 x5 x4 (nI 0)  hf _ _ _ hP (lv_sub hl [0, 1, 2, 3, 5] rfl)
      · have hf := if_f hc15 hf
        refine lv_iconst (v := nI 1) hx hb dX6_beside_74 rfl ?_
        refine lv_goto (tgt := 79) hx hb dX6_beside_75 (by decide) ?_
        exact wX6_beside_79 C  ih  S12 x1 x2 x3 x5 x4 (nI 1)  hf _ _ _ hP (lv_sub hl [0, 1, 2, 3, 5] rfl)
def fX6_beside  (S : mM) (x1 : Int32) (x2 : Int32) (x3 : Int32) : Option (Int32 × mM) :=
  sv (mS S 0 9 (nI 0)) fun S1 => ( bd (fX6_isLane S1 x1) fun v2 S2 => ( if v2 = 0 then fX6_beside_38    S2  else bd (fX6_isLane S2 x2) fun v4 S4 => ( if v4 = 0 then fX6_beside_38    S4  else if x1 = x2 then fX6_beside_38    S4  else bd (fX6_in S4 x3.toInt64 1 60) fun v7 S7 => ( if v7 = 0 then fX6_beside_38    S7  else bv (fX6_open S7) fun S9 => ( fX6_beside_52   lF S9 x1 x2 x3 (nI 0) (nI 0))))))
set_option maxHeartbeats 4000000 in
set_option maxRecDepth 100000 in
theorem mX6_beside (l : Launch) (Γ : gG)   {S : mM} {x1 : Int32} {x2 : Int32} {x3 : Int32} {rz : Int32} {Sz : mM} (hf : fX6_beside S x1 x2 x3 = some (rz, Sz)) : CtI l Γ 28 yX6_beside cX6_beside 6 .int 4 87 [.ref (Γ.2.2 (0)), .int x1, .int x2, .int x3] (mE Γ S) rz (mE Γ Sz) := by
  refine met_body (Γ := Γ) (lv := [(0, .ref (Γ.2.2 (0))), (1, .int x1), (2, .int x2), (3, .int x3)]) RX6 (by decide) rfl rfl rfl ?_
  intro p e s m below meth c H locs ls C hP hl
  obtain ⟨hx, hb, -, -, hown, hts, -, hwx, -⟩ := id C
  unfold fX6_beside at hf
  refine lv_aload_n hx hb dX6_beside_0 rfl (lv_at hl 0 rfl) ?_
  refine lv_iconst (v := nI 0) hx hb dX6_beside_1 rfl ?_
  refine m_put C hP 9 (by decide) k4_62 dX6_beside_2 (fun H locs hP => ?_)
  refine sv_i hf (fun S1 e1 hf => ?_)
  rw [← e1] at hP
  refine lv_aload_n hx hb dX6_beside_5 rfl (lv_at hl 0 rfl) ?_
  refine lv_iload_n hx hb dX6_beside_6 rfl (lv_at hl 1 rfl) ?_
  refine bd_i hf (fun v2 S2 hq2 hf => ?_)
  refine goI (runV (rest := []) (b := 0) (mX6_isLane l Γ  hq2) C hP hl.1 (by decide) mE0 rfl k5_30 qX6_isLane.1 qX6_isLane.2.1 qX6_isLane.2.2.1 qX6_isLane.2.2.2.1 rfl qX6_isLane.2.2.2.2 ⟨Nat.le_of_ble_eq_true rfl, Nat.le_of_ble_eq_true rfl⟩ ⟨Nat.le_refl 0, Nat.le_refl 0⟩ (Nat.le_of_ble_eq_true rfl) dX6_beside_7) hP (fun H locs hP => ?_)
  refine lv_if_eq (tgt := 38) hx hb dX6_beside_10 (by decide) (fun hc3 => ?_) (fun hc3 => ?_)
  · have hf := if_t hc3 hf
    exact wX6_beside_38 C    S2   hf _ _ _ hP (lv_sub hl [] rfl)
  · have hf := if_f hc3 hf
    refine lv_aload_n hx hb dX6_beside_13 rfl (lv_at hl 0 rfl) ?_
    refine lv_iload_n hx hb dX6_beside_14 rfl (lv_at hl 2 rfl) ?_
    refine bd_i hf (fun v4 S4 hq4 hf => ?_)
    refine goI (runV (rest := []) (b := 0) (mX6_isLane l Γ  hq4) C hP hl.1 (by decide) mE0 rfl k5_30 qX6_isLane.1 qX6_isLane.2.1 qX6_isLane.2.2.1 qX6_isLane.2.2.2.1 rfl qX6_isLane.2.2.2.2 ⟨Nat.le_of_ble_eq_true rfl, Nat.le_of_ble_eq_true rfl⟩ ⟨Nat.le_refl 0, Nat.le_refl 0⟩ (Nat.le_of_ble_eq_true rfl) dX6_beside_15) hP (fun H locs hP => ?_)
    refine lv_if_eq (tgt := 38) hx hb dX6_beside_18 (by decide) (fun hc5 => ?_) (fun hc5 => ?_)
    · have hf := if_t hc5 hf
      exact wX6_beside_38 C    S4   hf _ _ _ hP (lv_sub hl [] rfl)
    · have hf := if_f hc5 hf
      refine lv_iload_n hx hb dX6_beside_21 rfl (lv_at hl 1 rfl) ?_
      refine lv_iload_n hx hb dX6_beside_22 rfl (lv_at hl 2 rfl) ?_
      refine lv_icmp_eq (tgt := 38) hx hb dX6_beside_23 (by decide) (fun hc6 => ?_) (fun hc6 => ?_)
      · have hf := if_t hc6 hf
        exact wX6_beside_38 C    S4   hf _ _ _ hP (lv_sub hl [] rfl)
      · have hf := if_f hc6 hf
        refine lv_iload_n hx hb dX6_beside_26 rfl (lv_at hl 3 rfl) ?_
        refine lv_i2l (v := x3.toInt64) hx hb dX6_beside_27 rfl ?_
        refine lv_lconst (v := 1) hx hb dX6_beside_28 (by decide) ?_
        refine lv_ldc2 (v := 60) hx hb hown (hts _ k5_87) dX6_beside_29 ?_
        refine bd_i hf (fun v7 S7 hq7 hf => ?_)
        refine goI (runS (rest := []) (mX6_in l Γ  hq7) C hP hl.1 k4_215 qX6_in.1 qX6_in.2.1 qX6_in.2.2.1 rfl qX6_in.2.2.2 ⟨Nat.le_of_ble_eq_true rfl, Nat.le_of_ble_eq_true rfl⟩ ⟨Nat.le_refl 0, Nat.le_refl 0⟩ (Nat.le_of_ble_eq_true rfl) dX6_beside_32) hP (fun H locs hP => ?_)
        refine lv_if_ne (tgt := 42) hx hb dX6_beside_35 (by decide) (fun hc8 => ?_) (fun hc8 => ?_)
        · have hf := if_f hc8 hf
          refine lv_aload_n hx hb dX6_beside_42 rfl (lv_at hl 0 rfl) ?_
          refine bv_i hf (fun S9 hq9 hf => ?_)
          refine goV (runV (rest := []) (b := 0) (mX6_open l Γ  hq9) C hP hl.1 (by decide) mE0 rfl k4_232 qX6_open.1 qX6_open.2.1 qX6_open.2.2.1 qX6_open.2.2.2.1 rfl qX6_open.2.2.2.2 ⟨Nat.le_of_ble_eq_true rfl, Nat.le_of_ble_eq_true rfl⟩ ⟨Nat.le_refl 0, Nat.le_refl 0⟩ (Nat.le_of_ble_eq_true rfl) dX6_beside_43) hP (fun H locs hP => ?_)
          refine lv_iconst (v := nI 0) hx hb dX6_beside_46 rfl ?_
          refine lv_istore (lv' := [(4, .int (nI 0)), (0, .ref (Γ.2.2 (0))), (1, .int x1), (2, .int x2), (3, .int x3)]) hx hb dX6_beside_47 hl (by decide) rfl (fun ls hl => ?_)
          refine lv_iconst (v := nI 0) hx hb dX6_beside_49 rfl ?_
          refine lv_istore (lv' := [(5, .int (nI 0)), (4, .int (nI 0)), (0, .ref (Γ.2.2 (0))), (1, .int x1), (2, .int x2), (3, .int x3)]) hx hb dX6_beside_50 hl (by decide) rfl (fun ls hl => ?_)
          exact wX6_beside_52 C   lF S9 x1 x2 x3 (nI 0) (nI 0)  hf _ _ _ hP (lv_sub hl [2, 3, 4, 5, 1, 0] rfl)
        · have hf := if_t hc8 hf
          exact wX6_beside_38 C    S7   hf _ _ _ hP (lv_sub hl [] rfl)
-- X6_wrongSorts
theorem qX6_wrongSorts : Cond.instanceMethod yX6_wrongSorts ∈ Ub ∧ Cond.selects RX6 yX6_wrongSorts yX6_wrongSorts ∈ Ub ∧ Cond.initialized RX6 ∈ Ub ∧ Cond.code yX6_wrongSorts cX6_wrongSorts 5 (some FieldType.int) ∈ Ub ∧ (yX6_wrongSorts.cls = RX6 ∧ yX6_wrongSorts.cls ≠ "java/lang/invoke/MethodHandle" ∧ yX6_wrongSorts.cls ≠ "java/lang/invoke/VarHandle" ∧ (parseMethodDescriptor yX6_wrongSorts.desc).map (fun d => d.parameters.length) = some 1) := ⟨k5_207, ks_61, k1_5, k5_208, by decide +kernel⟩
def fX6_wrongSorts_73   (S : mM) (x3 : Int32) : Option (Int32 × mM) :=
  if x3 = 0 then some ((-13), S) else some (nI 0, S)
set_option maxHeartbeats 4000000 in
set_option maxRecDepth 100000 in
theorem wX6_wrongSorts_73 {p : Program} {l : Launch} {e : Env} {s : State} {m : MethodId} {args : Array Value} {below : List Frame} {meth : Method} {c : Code} {Γ : gG} {rz : Int32} {Sz : mM} (C : Cx Γ 28 p s m args meth c RX6 cX6_wrongSorts 5 (some .int))   : ∀ (S : mM) (x3 : Int32) , fX6_wrongSorts_73   S x3 = some (rz, Sz) → ∀ (H : Heap) (locs : List Loc) (ls : Array Slot), St Γ 28 (mE Γ S) s.heap H locs → lv_has ls 5 [(3, .int x3)] → W p l e { frames := 3, cells := 0, slots := 0, locals := 67 } s m args below meth c H locs 0 0 (MQ below (gQi Γ 28 rz (mE Γ Sz)) args s 0 0 (wA Γ 28)) (F0 m 73 ls []) := by
  obtain ⟨hx, hb, -, -, hown, hts, -, hwx, -⟩ := id C
  intro S x3 hf H locs ls hP hl
  unfold fX6_wrongSorts_73 at hf
  refine lv_iload_n hx hb dX6_wrongSorts_73 rfl (lv_at hl 0 rfl) ?_
  refine lv_if_eq (tgt := 81) hx hb dX6_wrongSorts_74 (by decide) (fun hc9 => ?_) (fun hc9 => ?_)
  · have hf := if_t hc9 hf
    refine lv_bipush (v := (-13)) hx hb dX6_wrongSorts_81 rfl ?_
    exact r_iret (X := mE Γ) C hP hf dX6_wrongSorts_83
  · have hf := if_f hc9 hf
    refine lv_iconst (v := nI 0) hx hb dX6_wrongSorts_77 rfl ?_
    refine lv_goto (tgt := 83) hx hb dX6_wrongSorts_78 (by decide) ?_
    exact r_iret (X := mE Γ) C hP hf dX6_wrongSorts_83
def fX6_wrongSorts_32   : Nat → mM → Int32 → Int32 → Int32 → Option (Int32 × mM)
  | 0, _, _, _, _ => none
  | n + 1, S, x1, x3, x4 =>
    gi x1 8 (if (S.1 25 (x1).toNatClampNeg) ≤ x4 then fX6_wrongSorts_73    S x3 else if x3 = 0 then fX6_wrongSorts_73    S x3 else gi (((nI 100) * x1) + x4) 800 (bd (fX6_in S (S.2.1 26 (((nI 100) * x1) + x4).toNatClampNeg) 0 3) fun v13 S13 => ( (fX6_wrongSorts_32   n) S13 x1 v13 (x4 + (nI 1)))))
set_option maxHeartbeats 4000000 in
set_option maxRecDepth 100000 in
theorem wX6_wrongSorts_32 {p : Program} {l : Launch} {e : Env} {s : State} {m : MethodId} {args : Array Value} {below : List Frame} {meth : Method} {c : Code} {Γ : gG} {rz : Int32} {Sz : mM} (C : Cx Γ 28 p s m args meth c RX6 cX6_wrongSorts 5 (some .int))   : ∀ n : Nat, ∀ (S : mM) (x1 : Int32) (x3 : Int32) (x4 : Int32) , fX6_wrongSorts_32   n S x1 x3 x4 = some (rz, Sz) → ∀ (H : Heap) (locs : List Loc) (ls : Array Slot), St Γ 28 (mE Γ S) s.heap H locs → lv_has ls 5 [(0, .ref (Γ.2.2 (0))), (1, .int x1), (3, .int x3), (4, .int x4)] → W p l e { frames := 3, cells := 0, slots := 0, locals := 67 } s m args below meth c H locs 0 0 (MQ below (gQi Γ 28 rz (mE Γ Sz)) args s 0 0 (wA Γ 28)) (F0 m 32 ls []) := by
  obtain ⟨hx, hb, -, -, hown, hts, -, hwx, -⟩ := id C
  intro n
  induction n with
  | zero =>
    intro S x1 x3 x4 hf
    unfold fX6_wrongSorts_32 at hf
    cases hf
  | succ n ih =>
    intro S x1 x3 x4 hf H locs ls hP hl
    unfold fX6_wrongSorts_32 at hf
    refine lv_iload hx hb dX6_wrongSorts_32 (lv_at hl 3 rfl) ?_
    refine lv_aload_n hx hb dX6_wrongSorts_34 rfl (lv_at hl 0 rfl) ?_
    refine m_get C hP 39 (by decide) k4_92 rfl (v := .ref (Γ.2.2 (25))) rfl dX6_wrongSorts_35 ?_
    refine lv_iload_n hx hb dX6_wrongSorts_38 rfl (lv_at hl 1 rfl) ?_
    refine gi_i hf (fun hi6 hj7 hf => ?_)
    refine m_ild C hP mA_25 hi6 dX6_wrongSorts_39 ?_
    refine lv_icmp_ge (tgt := 73) hx hb dX6_wrongSorts_40 (by decide) (fun hc8 => ?_) (fun hc8 => ?_)
    · have hf := if_t hc8 hf
      exact wX6_wrongSorts_73 C    S x3  hf _ _ _ hP (lv_sub hl [2] rfl)
    · have hf := if_f hc8 hf
      refine lv_iload_n hx hb dX6_wrongSorts_43 rfl (lv_at hl 2 rfl) ?_
      refine lv_if_eq (tgt := 73) hx hb dX6_wrongSorts_44 (by decide) (fun hc10 => ?_) (fun hc10 => ?_)
      · have hf := if_t hc10 hf
        exact wX6_wrongSorts_73 C    S x3  hf _ _ _ hP (lv_sub hl [2] rfl)
      · have hf := if_f hc10 hf
        refine lv_aload_n hx hb dX6_wrongSorts_47 rfl (lv_at hl 0 rfl) ?_
        refine m_get C hP 40 (by decide) k4_93 rfl (v := .ref (Γ.2.2 (26))) rfl dX6_wrongSorts_48 ?_
        refine lv_bipush (v := nI 100) hx hb dX6_wrongSorts_51 rfl ?_
        refine lv_iload_n hx hb dX6_wrongSorts_53 rfl (lv_at hl 1 rfl) ?_
        refine lv_imul hx hb dX6_wrongSorts_54 ?_
        refine lv_iload hx hb dX6_wrongSorts_55 (lv_at hl 3 rfl) ?_
        refine lv_iadd hx hb dX6_wrongSorts_57 ?_
        refine gi_i hf (fun hi11 hj12 hf => ?_)
        refine m_lld C hP mB_26 hi11 dX6_wrongSorts_58 ?_
        refine lv_lconst (v := 0) hx hb dX6_wrongSorts_59 (by decide) ?_
        refine lv_ldc2 (v := 3) hx hb hown (hts _ k5_74) dX6_wrongSorts_60 ?_
        refine bd_i hf (fun v13 S13 hq13 hf => ?_)
        refine goI (runS (rest := []) (mX6_in l Γ  hq13) C hP hl.1 k4_215 qX6_in.1 qX6_in.2.1 qX6_in.2.2.1 rfl qX6_in.2.2.2 ⟨Nat.le_of_ble_eq_true rfl, Nat.le_of_ble_eq_true rfl⟩ ⟨Nat.le_refl 0, Nat.le_refl 0⟩ (Nat.le_of_ble_eq_true rfl) dX6_wrongSorts_63) hP (fun H locs hP => ?_)
        refine lv_istore_n (lv' := [(3, .int v13), (0, .ref (Γ.2.2 (0))), (1, .int x1), (4, .int x4)]) hx hb dX6_wrongSorts_66 rfl hl (by decide) rfl (fun ls hl => ?_)
        refine lv_iinc (v := x4 + (nI 1)) (lv' := [(4, .int (x4 + (nI 1))), (3, .int v13), (0, .ref (Γ.2.2 (0))), (1, .int x1)]) hx hb dX6_wrongSorts_67 hl (k := 3) rfl rfl (by decide) rfl (fun ls hl => ?_)
        refine lv_goto (tgt := 32) hx hb dX6_wrongSorts_70 (by decide) ?_
        exact ih S13 x1 v13 (x4 + (nI 1))  hf _ _ _ hP (lv_sub hl [2, 3, 1, 0] rfl)
def fX6_wrongSorts_28   (S : mM) (x1 : Int32) (y0 : Int32) : Option (Int32 × mM) :=
  fX6_wrongSorts_32   lF S x1 y0 (nI 0)
set_option maxHeartbeats 4000000 in
set_option maxRecDepth 100000 in
theorem wX6_wrongSorts_28 {p : Program} {l : Launch} {e : Env} {s : State} {m : MethodId} {args : Array Value} {below : List Frame} {meth : Method} {c : Code} {Γ : gG} {rz : Int32} {Sz : mM} (C : Cx Γ 28 p s m args meth c RX6 cX6_wrongSorts 5 (some .int))   : ∀ (S : mM) (x1 : Int32) (y0 : Int32) , fX6_wrongSorts_28   S x1 y0 = some (rz, Sz) → ∀ (H : Heap) (locs : List Loc) (ls : Array Slot), St Γ 28 (mE Γ S) s.heap H locs → lv_has ls 5 [(0, .ref (Γ.2.2 (0))), (1, .int x1)] → W p l e { frames := 3, cells := 0, slots := 0, locals := 67 } s m args below meth c H locs 0 0 (MQ below (gQi Γ 28 rz (mE Γ Sz)) args s 0 0 (wA Γ 28)) (F0 m 28 ls [.int y0]) := by
  obtain ⟨hx, hb, -, -, hown, hts, -, hwx, -⟩ := id C
  intro S x1 y0 hf H locs ls hP hl
  unfold fX6_wrongSorts_28 at hf
  refine lv_istore_n (lv' := [(3, .int y0), (0, .ref (Γ.2.2 (0))), (1, .int x1)]) hx hb dX6_wrongSorts_28 rfl hl (by decide) rfl (fun ls hl => ?_)
  refine lv_iconst (v := nI 0) hx hb dX6_wrongSorts_29 rfl ?_
  refine lv_istore (lv' := [(4, .int (nI 0)), (3, .int y0), (0, .ref (Γ.2.2 (0))), (1, .int x1)]) hx hb dX6_wrongSorts_30 hl (by decide) rfl (fun ls hl => ?_)
  exact wX6_wrongSorts_32 C   lF S x1 y0 (nI 0)  hf _ _ _ hP (lv_sub hl [2, 3, 1, 0] rfl)
def fX6_wrongSorts  (S : mM) (x1 : Int32) : Option (Int32 × mM) :=
  bd (fX6_wrongBytes S x1) fun v1 S1 => ( if (0 : Int32) ≤ v1 then gi x1 8 (if (nI 20) < (S1.1 25 (x1).toNatClampNeg) then fX6_wrongSorts_28    S1 x1 (nI 0) else fX6_wrongSorts_28    S1 x1 (nI 1)) else some (v1, S1))
set_option maxHeartbeats 4000000 in
set_option maxRecDepth 100000 in
theorem mX6_wrongSorts (l : Launch) (Γ : gG)   {S : mM} {x1 : Int32} {rz : Int32} {Sz : mM} (hf : fX6_wrongSorts S x1 = some (rz, Sz)) : CtI l Γ 28 yX6_wrongSorts cX6_wrongSorts 5 .int 3 67 [.ref (Γ.2.2 (0)), .int x1] (mE Γ S) rz (mE Γ Sz) := by
  refine met_body (Γ := Γ) (lv := [(0, .ref (Γ.2.2 (0))), (1, .int x1)]) RX6 (by decide) rfl rfl rfl ?_
  intro p e s m below meth c H locs ls C hP hl
  obtain ⟨hx, hb, -, -, hown, hts, -, hwx, -⟩ := id C
  unfold fX6_wrongSorts at hf
  refine lv_aload_n hx hb dX6_wrongSorts_0 rfl (lv_at hl 0 rfl) ?_
  refine lv_iload_n hx hb dX6_wrongSorts_1 rfl (lv_at hl 1 rfl) ?_
  refine bd_i hf (fun v1 S1 hq1 hf => ?_)
  refine goI (runV (rest := []) (b := 0) (mX6_wrongBytes l Γ  hq1) C hP hl.1 (by decide) mE0 rfl k4_206 qX6_wrongBytes.1 qX6_wrongBytes.2.1 qX6_wrongBytes.2.2.1 qX6_wrongBytes.2.2.2.1 rfl qX6_wrongBytes.2.2.2.2 ⟨Nat.le_of_ble_eq_true rfl, Nat.le_of_ble_eq_true rfl⟩ ⟨Nat.le_refl 0, Nat.le_refl 0⟩ (Nat.le_of_ble_eq_true rfl) dX6_wrongSorts_2) hP (fun H locs hP => ?_)
  refine lv_istore_n (lv' := [(2, .int v1), (0, .ref (Γ.2.2 (0))), (1, .int x1)]) hx hb dX6_wrongSorts_5 rfl hl (by decide) rfl (fun ls hl => ?_)
  refine lv_iload_n hx hb dX6_wrongSorts_6 rfl (lv_at hl 0 rfl) ?_
  refine lv_if_ge (tgt := 12) hx hb dX6_wrongSorts_7 (by decide) (fun hc2 => ?_) (fun hc2 => ?_)
  · have hf := if_t hc2 hf
    refine lv_aload_n hx hb dX6_wrongSorts_12 rfl (lv_at hl 1 rfl) ?_
    refine m_get C hP 39 (by decide) k4_92 rfl (v := .ref (Γ.2.2 (25))) rfl dX6_wrongSorts_13 ?_
    refine lv_iload_n hx hb dX6_wrongSorts_16 rfl (lv_at hl 2 rfl) ?_
    refine gi_i hf (fun hi3 hj4 hf => ?_)
    refine m_ild C hP mA_25 hi3 dX6_wrongSorts_17 ?_
    refine lv_bipush (v := nI 20) hx hb dX6_wrongSorts_18 rfl ?_
    refine lv_icmp_gt (tgt := 27) hx hb dX6_wrongSorts_20 (by decide) (fun hc5 => ?_) (fun hc5 => ?_)
    · have hf := if_t hc5 hf
      refine lv_iconst (v := nI 0) hx hb dX6_wrongSorts_27 rfl ?_
      exact wX6_wrongSorts_28 C    S1 x1 (nI 0)  hf _ _ _ hP (lv_sub hl [1, 2] rfl)
    · have hf := if_f hc5 hf
      refine lv_iconst (v := nI 1) hx hb dX6_wrongSorts_23 rfl ?_
      refine lv_goto (tgt := 28) hx hb dX6_wrongSorts_24 (by decide) ?_
      exact wX6_wrongSorts_28 C    S1 x1 (nI 1)  hf _ _ _ hP (lv_sub hl [1, 2] rfl)
  · have hf := if_f hc2 hf
    refine lv_iload_n hx hb dX6_wrongSorts_10 rfl (lv_at hl 0 rfl) ?_
    exact r_iret (X := mE Γ) C hP hf dX6_wrongSorts_11
-- X6_chosen
theorem qX6_chosen : Cond.instanceMethod yX6_chosen ∈ Ub ∧ Cond.selects RX6 yX6_chosen yX6_chosen ∈ Ub ∧ Cond.initialized RX6 ∈ Ub ∧ Cond.code yX6_chosen cX6_chosen 4 (some FieldType.int) ∈ Ub ∧ (yX6_chosen.cls = RX6 ∧ yX6_chosen.cls ≠ "java/lang/invoke/MethodHandle" ∧ yX6_chosen.cls ≠ "java/lang/invoke/VarHandle" ∧ (parseMethodDescriptor yX6_chosen.desc).map (fun d => d.parameters.length) = some 3) := ⟨k5_211, ks_62, k1_5, k5_212, by decide +kernel⟩
def fX6_chosen  (S : mM) (x1 : Int32) (x2 : Int32) (x3 : Int32) : Option (Int32 × mM) :=
  if x1 = 0 then bd (fX6_whichLane S) fun v9 S9 => ( some (v9, S9)) else if x1 = (nI 1) then bd (fX6_bestLane S x2) fun v8 S8 => ( some (v8, S8)) else if (S.1 0 0) ≤ 0 then some ((-4), S) else gz (S.1 0 0) (bd (fX6_mayCome S (x3 - x3 / (S.1 0 0) * (S.1 0 0))) fun v5 S5 => ( if v5 = 0 then some ((-4), S5) else gz (S5.1 0 0) (some (x3 - x3 / (S5.1 0 0) * (S5.1 0 0), S5))))
set_option maxHeartbeats 4000000 in
set_option maxRecDepth 100000 in
theorem mX6_chosen (l : Launch) (Γ : gG)   {S : mM} {x1 : Int32} {x2 : Int32} {x3 : Int32} {rz : Int32} {Sz : mM} (hf : fX6_chosen S x1 x2 x3 = some (rz, Sz)) : CtI l Γ 28 yX6_chosen cX6_chosen 4 .int 6 133 [.ref (Γ.2.2 (0)), .int x1, .int x2, .int x3] (mE Γ S) rz (mE Γ Sz) := by
  refine met_body (Γ := Γ) (lv := [(0, .ref (Γ.2.2 (0))), (1, .int x1), (2, .int x2), (3, .int x3)]) RX6 (by decide) rfl rfl rfl ?_
  intro p e s m below meth c H locs ls C hP hl
  obtain ⟨hx, hb, -, -, hown, hts, -, hwx, -⟩ := id C
  unfold fX6_chosen at hf
  refine lv_iload_n hx hb dX6_chosen_0 rfl (lv_at hl 1 rfl) ?_
  refine lv_if_ne (tgt := 9) hx hb dX6_chosen_1 (by decide) (fun hc1 => ?_) (fun hc1 => ?_)
  · have hf := if_f hc1 hf
    refine lv_iload_n hx hb dX6_chosen_9 rfl (lv_at hl 1 rfl) ?_
    refine lv_iconst (v := nI 1) hx hb dX6_chosen_10 rfl ?_
    refine lv_icmp_ne (tgt := 20) hx hb dX6_chosen_11 (by decide) (fun hc2 => ?_) (fun hc2 => ?_)
    · have hf := if_f hc2 hf
      refine lv_aload_n hx hb dX6_chosen_20 rfl (lv_at hl 0 rfl) ?_
      refine m_get C hP 0 (by decide) k4_53 rfl (v := .int (S.1 0 0)) rfl dX6_chosen_21 ?_
      refine lv_if_le (tgt := 49) hx hb dX6_chosen_24 (by decide) (fun hc3 => ?_) (fun hc3 => ?_)
      · have hf := if_t hc3 hf
        refine lv_bipush (v := (-4)) hx hb dX6_chosen_49 rfl ?_
        exact r_iret (X := mE Γ) C hP hf dX6_chosen_51
      · have hf := if_f hc3 hf
        refine lv_aload_n hx hb dX6_chosen_27 rfl (lv_at hl 0 rfl) ?_
        refine lv_iload_n hx hb dX6_chosen_28 rfl (lv_at hl 3 rfl) ?_
        refine lv_aload_n hx hb dX6_chosen_29 rfl (lv_at hl 0 rfl) ?_
        refine m_get C hP 0 (by decide) k4_53 rfl (v := .int (S.1 0 0)) rfl dX6_chosen_30 ?_
        refine gz_i hf (fun hz4 hf => ?_)
        refine lv_irem hx hb dX6_chosen_33 hz4 ?_
        refine bd_i hf (fun v5 S5 hq5 hf => ?_)
        refine goI (runV (rest := []) (b := 0) (mX6_mayCome l Γ  hq5) C hP hl.1 (by decide) mE0 rfl k5_96 qX6_mayCome.1 qX6_mayCome.2.1 qX6_mayCome.2.2.1 qX6_mayCome.2.2.2.1 rfl qX6_mayCome.2.2.2.2 ⟨Nat.le_of_ble_eq_true rfl, Nat.le_of_ble_eq_true rfl⟩ ⟨Nat.le_refl 0, Nat.le_refl 0⟩ (Nat.le_of_ble_eq_true rfl) dX6_chosen_34) hP (fun H locs hP => ?_)
        refine lv_if_eq (tgt := 49) hx hb dX6_chosen_37 (by decide) (fun hc6 => ?_) (fun hc6 => ?_)
        · have hf := if_t hc6 hf
          refine lv_bipush (v := (-4)) hx hb dX6_chosen_49 rfl ?_
          exact r_iret (X := mE Γ) C hP hf dX6_chosen_51
        · have hf := if_f hc6 hf
          refine lv_iload_n hx hb dX6_chosen_40 rfl (lv_at hl 3 rfl) ?_
          refine lv_aload_n hx hb dX6_chosen_41 rfl (lv_at hl 0 rfl) ?_
          refine m_get C hP 0 (by decide) k4_53 rfl (v := .int (S5.1 0 0)) rfl dX6_chosen_42 ?_
          refine gz_i hf (fun hz7 hf => ?_)
          refine lv_irem hx hb dX6_chosen_45 hz7 ?_
          refine lv_goto (tgt := 51) hx hb dX6_chosen_46 (by decide) ?_
          exact r_iret (X := mE Γ) C hP hf dX6_chosen_51
    · have hf := if_t hc2 hf
      refine lv_aload_n hx hb dX6_chosen_14 rfl (lv_at hl 0 rfl) ?_
      refine lv_iload_n hx hb dX6_chosen_15 rfl (lv_at hl 2 rfl) ?_
      refine bd_i hf (fun v8 S8 hq8 hf => ?_)
      refine goI (runV (rest := []) (b := 0) (mX6_bestLane l Γ  hq8) C hP hl.1 (by decide) mE0 rfl k5_104 qX6_bestLane.1 qX6_bestLane.2.1 qX6_bestLane.2.2.1 qX6_bestLane.2.2.2.1 rfl qX6_bestLane.2.2.2.2 ⟨Nat.le_of_ble_eq_true rfl, Nat.le_of_ble_eq_true rfl⟩ ⟨Nat.le_refl 0, Nat.le_refl 0⟩ (Nat.le_of_ble_eq_true rfl) dX6_chosen_16) hP (fun H locs hP => ?_)
      exact r_iret (X := mE Γ) C hP hf dX6_chosen_19
  · have hf := if_t hc1 hf
    refine lv_aload_n hx hb dX6_chosen_4 rfl (lv_at hl 0 rfl) ?_
    refine bd_i hf (fun v9 S9 hq9 hf => ?_)
    refine goI (runV (rest := []) (b := 0) (mX6_whichLane l Γ  hq9) C hP hl.1 (by decide) mE0 rfl k5_92 qX6_whichLane.1 qX6_whichLane.2.1 qX6_whichLane.2.2.1 qX6_whichLane.2.2.2.1 rfl qX6_whichLane.2.2.2.2 ⟨Nat.le_of_ble_eq_true rfl, Nat.le_of_ble_eq_true rfl⟩ ⟨Nat.le_refl 0, Nat.le_refl 0⟩ (Nat.le_of_ble_eq_true rfl) dX6_chosen_5) hP (fun H locs hP => ?_)
    exact r_iret (X := mE Γ) C hP hf dX6_chosen_8
-- X6_comers
theorem qX6_comers : Cond.instanceMethod yX6_comers ∈ Ub ∧ Cond.selects RX6 yX6_comers yX6_comers ∈ Ub ∧ Cond.initialized RX6 ∈ Ub ∧ Cond.code yX6_comers cX6_comers 11 (some FieldType.int) ∈ Ub ∧ (yX6_comers.cls = RX6 ∧ yX6_comers.cls ≠ "java/lang/invoke/MethodHandle" ∧ yX6_comers.cls ≠ "java/lang/invoke/VarHandle" ∧ (parseMethodDescriptor yX6_comers.desc).map (fun d => d.parameters.length) = some 4) := ⟨k5_200, k5_201, k1_5, k5_202, by decide +kernel⟩
def fX6_comers_153  (K72 : mM → Int32 → Int32 → Int32 → Int32 → Int32 → Int32 → Int32 → Option (Int32 × mM)) (S : mM) (x1 : Int32) (x2 : Int32) (x3 : Int32) (x4 : Int32) (x6 : Int32) (x7 : Int32) (x8 : Int32) : Option (Int32 × mM) :=
  K72 S x1 x2 x3 x4 x6 x7 (x8 + (nI 1))
set_option maxHeartbeats 4000000 in
set_option maxRecDepth 100000 in
theorem wX6_comers_153 {p : Program} {l : Launch} {e : Env} {s : State} {m : MethodId} {args : Array Value} {below : List Frame} {meth : Method} {c : Code} {Γ : gG} {rz : Int32} {Sz : mM} (C : Cx Γ 28 p s m args meth c RX6 cX6_comers 11 (some .int))  {K72 : mM → Int32 → Int32 → Int32 → Int32 → Int32 → Int32 → Int32 → Option (Int32 × mM)} (hK72 : ∀ (S : mM) (x1 : Int32) (x2 : Int32) (x3 : Int32) (x4 : Int32) (x6 : Int32) (x7 : Int32) (x8 : Int32) , K72 S x1 x2 x3 x4 x6 x7 x8 = some (rz, Sz) → ∀ (H : Heap) (locs : List Loc) (ls : Array Slot), St Γ 28 (mE Γ S) s.heap H locs → lv_has ls 11 [(0, .ref (Γ.2.2 (0))), (1, .int x1), (2, .int x2), (3, .int x3), (4, .int x4), (6, .int x6), (7, .int x7), (8, .int x8)] → W p l e { frames := 7, cells := 0, slots := 0, locals := 156 } s m args below meth c H locs 0 0 (MQ below (gQi Γ 28 rz (mE Γ Sz)) args s 0 0 (wA Γ 28)) (F0 m 72 ls [])) : ∀ (S : mM) (x1 : Int32) (x2 : Int32) (x3 : Int32) (x4 : Int32) (x6 : Int32) (x7 : Int32) (x8 : Int32) , fX6_comers_153  K72 S x1 x2 x3 x4 x6 x7 x8 = some (rz, Sz) → ∀ (H : Heap) (locs : List Loc) (ls : Array Slot), St Γ 28 (mE Γ S) s.heap H locs → lv_has ls 11 [(0, .ref (Γ.2.2 (0))), (1, .int x1), (2, .int x2), (3, .int x3), (4, .int x4), (6, .int x6), (7, .int x7), (8, .int x8)] → W p l e { frames := 7, cells := 0, slots := 0, locals := 156 } s m args below meth c H locs 0 0 (MQ below (gQi Γ 28 rz (mE Γ Sz)) args s 0 0 (wA Γ 28)) (F0 m 153 ls []) := by
  obtain ⟨hx, hb, -, -, hown, hts, -, hwx, -⟩ := id C
  intro S x1 x2 x3 x4 x6 x7 x8 hf H locs ls hP hl
  unfold fX6_comers_153 at hf
  refine lv_iinc (v := x8 + (nI 1)) (lv' := [(8, .int (x8 + (nI 1))), (0, .ref (Γ.2.2 (0))), (1, .int x1), (2, .int x2), (3, .int x3), (4, .int x4), (6, .int x6), (7, .int x7)]) hx hb dX6_comers_153 hl (k := 7) rfl rfl (by decide) rfl (fun ls hl => ?_)
  refine lv_goto (tgt := 72) hx hb dX6_comers_156 (by decide) ?_
  exact hK72 S x1 x2 x3 x4 x6 x7 (x8 + (nI 1))  hf _ _ _ hP (lv_sub hl [1, 2, 3, 4, 5, 6, 7, 0] rfl)
def fX6_comers_94  (K72 : mM → Int32 → Int32 → Int32 → Int32 → Int32 → Int32 → Int32 → Option (Int32 × mM)) (S : mM) (x1 : Int32) (x2 : Int32) (x3 : Int32) (x4 : Int32) (x6 : Int32) (x7 : Int32) (x8 : Int32) (y1 : Int32) : Option (Int32 × mM) :=
  bd (fX6_goBy S y1) fun v12 S12 => ( gi (((nI 100) * x1) + x8) 800 (bd (fX6_chosen S12 x3 ((S12.2.1 26 (((nI 100) * x1) + x8).toNatClampNeg).toInt32) x8) fun v15 S15 => ( if v15 < 0 then fX6_comers_153  K72  S15 x1 x2 x3 x4 x6 x7 x8 else bd (fX6_timeIn S15 v15 ((S12.2.1 26 (((nI 100) * x1) + x8).toNatClampNeg).toInt32)) fun v17 S17 => ( bv (fX6_comeIn S17 v15 ((S12.2.1 26 (((nI 100) * x1) + x8).toNatClampNeg).toInt32)) fun S18 => ( fX6_comers_153  K72  S18 x1 x2 x3 x4 (x6 + (nI 1)) (x7 + v17) x8)))))
set_option maxHeartbeats 4000000 in
set_option maxRecDepth 100000 in
theorem wX6_comers_94 {p : Program} {l : Launch} {e : Env} {s : State} {m : MethodId} {args : Array Value} {below : List Frame} {meth : Method} {c : Code} {Γ : gG} {rz : Int32} {Sz : mM} (C : Cx Γ 28 p s m args meth c RX6 cX6_comers 11 (some .int))  {K72 : mM → Int32 → Int32 → Int32 → Int32 → Int32 → Int32 → Int32 → Option (Int32 × mM)} (hK72 : ∀ (S : mM) (x1 : Int32) (x2 : Int32) (x3 : Int32) (x4 : Int32) (x6 : Int32) (x7 : Int32) (x8 : Int32) , K72 S x1 x2 x3 x4 x6 x7 x8 = some (rz, Sz) → ∀ (H : Heap) (locs : List Loc) (ls : Array Slot), St Γ 28 (mE Γ S) s.heap H locs → lv_has ls 11 [(0, .ref (Γ.2.2 (0))), (1, .int x1), (2, .int x2), (3, .int x3), (4, .int x4), (6, .int x6), (7, .int x7), (8, .int x8)] → W p l e { frames := 7, cells := 0, slots := 0, locals := 156 } s m args below meth c H locs 0 0 (MQ below (gQi Γ 28 rz (mE Γ Sz)) args s 0 0 (wA Γ 28)) (F0 m 72 ls [])) : ∀ (S : mM) (x1 : Int32) (x2 : Int32) (x3 : Int32) (x4 : Int32) (x6 : Int32) (x7 : Int32) (x8 : Int32) (y1 : Int32) , fX6_comers_94  K72 S x1 x2 x3 x4 x6 x7 x8 y1 = some (rz, Sz) → ∀ (H : Heap) (locs : List Loc) (ls : Array Slot), St Γ 28 (mE Γ S) s.heap H locs → lv_has ls 11 [(0, .ref (Γ.2.2 (0))), (1, .int x1), (2, .int x2), (3, .int x3), (4, .int x4), (6, .int x6), (7, .int x7), (8, .int x8)] → W p l e { frames := 7, cells := 0, slots := 0, locals := 156 } s m args below meth c H locs 0 0 (MQ below (gQi Γ 28 rz (mE Γ Sz)) args s 0 0 (wA Γ 28)) (F0 m 94 ls [.int y1, .ref (Γ.2.2 (0))]) := by
  obtain ⟨hx, hb, -, -, hown, hts, -, hwx, -⟩ := id C
  intro S x1 x2 x3 x4 x6 x7 x8 y1 hf H locs ls hP hl
  unfold fX6_comers_94 at hf
  refine bd_i hf (fun v12 S12 hq12 hf => ?_)
  refine goI (runV (rest := []) (b := 0) (mX6_goBy l Γ  hq12) C hP hl.1 (by decide) mE0 rfl k5_18 qX6_goBy.1 qX6_goBy.2.1 qX6_goBy.2.2.1 qX6_goBy.2.2.2.1 rfl qX6_goBy.2.2.2.2 ⟨Nat.le_of_ble_eq_true rfl, Nat.le_of_ble_eq_true rfl⟩ ⟨Nat.le_refl 0, Nat.le_refl 0⟩ (Nat.le_of_ble_eq_true rfl) dX6_comers_94) hP (fun H locs hP => ?_)
  refine lv_pop hx hb dX6_comers_97 rfl ?_
  refine lv_aload_n hx hb dX6_comers_98 rfl (lv_at hl 0 rfl) ?_
  refine m_get C hP 40 (by decide) k4_93 rfl (v := .ref (Γ.2.2 (26))) rfl dX6_comers_99 ?_
  refine lv_bipush (v := nI 100) hx hb dX6_comers_102 rfl ?_
  refine lv_iload_n hx hb dX6_comers_104 rfl (lv_at hl 1 rfl) ?_
  refine lv_imul hx hb dX6_comers_105 ?_
  refine lv_iload hx hb dX6_comers_106 (lv_at hl 7 rfl) ?_
  refine lv_iadd hx hb dX6_comers_108 ?_
  refine gi_i hf (fun hi13 hj14 hf => ?_)
  refine m_lld C hP mB_26 hi13 dX6_comers_109 ?_
  refine lv_l2i (v := (S12.2.1 26 (((nI 100) * x1) + x8).toNatClampNeg).toInt32) hx hb dX6_comers_110 rfl ?_
  refine lv_istore (lv' := [(9, .int ((S12.2.1 26 (((nI 100) * x1) + x8).toNatClampNeg).toInt32)), (0, .ref (Γ.2.2 (0))), (1, .int x1), (2, .int x2), (3, .int x3), (4, .int x4), (6, .int x6), (7, .int x7), (8, .int x8)]) hx hb dX6_comers_111 hl (by decide) rfl (fun ls hl => ?_)
  refine lv_aload_n hx hb dX6_comers_113 rfl (lv_at hl 1 rfl) ?_
  refine lv_iload_n hx hb dX6_comers_114 rfl (lv_at hl 4 rfl) ?_
  refine lv_iload hx hb dX6_comers_115 (lv_at hl 0 rfl) ?_
  refine lv_iload hx hb dX6_comers_117 (lv_at hl 8 rfl) ?_
  refine bd_i hf (fun v15 S15 hq15 hf => ?_)
  refine goI (runV (rest := []) (b := 0) (mX6_chosen l Γ  hq15) C hP hl.1 (by decide) mE0 rfl k5_209 qX6_chosen.1 qX6_chosen.2.1 qX6_chosen.2.2.1 qX6_chosen.2.2.2.1 rfl qX6_chosen.2.2.2.2 ⟨Nat.le_of_ble_eq_true rfl, Nat.le_of_ble_eq_true rfl⟩ ⟨Nat.le_refl 0, Nat.le_refl 0⟩ (Nat.le_of_ble_eq_true rfl) dX6_comers_119) hP (fun H locs hP => ?_)
  refine lv_istore (lv' := [(10, .int v15), (9, .int ((S12.2.1 26 (((nI 100) * x1) + x8).toNatClampNeg).toInt32)), (0, .ref (Γ.2.2 (0))), (1, .int x1), (2, .int x2), (3, .int x3), (4, .int x4), (6, .int x6), (7, .int x7), (8, .int x8)]) hx hb dX6_comers_122 hl (by decide) rfl (fun ls hl => ?_)
  refine lv_iload hx hb dX6_comers_124 (lv_at hl 0 rfl) ?_
  refine lv_if_lt (tgt := 153) hx hb dX6_comers_126 (by decide) (fun hc16 => ?_) (fun hc16 => ?_)
  · have hf := if_t hc16 hf
    exact wX6_comers_153 C  hK72  S15 x1 x2 x3 x4 x6 x7 x8  hf _ _ _ hP (lv_sub hl [2, 3, 4, 5, 6, 7, 8, 9] rfl)
  · have hf := if_f hc16 hf
    refine lv_iload hx hb dX6_comers_129 (lv_at hl 8 rfl) ?_
    refine lv_aload_n hx hb dX6_comers_131 rfl (lv_at hl 2 rfl) ?_
    refine lv_iload hx hb dX6_comers_132 (lv_at hl 0 rfl) ?_
    refine lv_iload hx hb dX6_comers_134 (lv_at hl 1 rfl) ?_
    refine bd_i hf (fun v17 S17 hq17 hf => ?_)
    refine goI (runV (rest := [.int x7]) (b := 0) (mX6_timeIn l Γ  hq17) C hP hl.1 (by decide) mE0 rfl k5_79 qX6_timeIn.1 qX6_timeIn.2.1 qX6_timeIn.2.2.1 qX6_timeIn.2.2.2.1 rfl qX6_timeIn.2.2.2.2 ⟨Nat.le_of_ble_eq_true rfl, Nat.le_of_ble_eq_true rfl⟩ ⟨Nat.le_refl 0, Nat.le_refl 0⟩ (Nat.le_of_ble_eq_true rfl) dX6_comers_136) hP (fun H locs hP => ?_)
    refine lv_iadd hx hb dX6_comers_139 ?_
    refine lv_istore (lv' := [(7, .int (x7 + v17)), (10, .int v15), (9, .int ((S12.2.1 26 (((nI 100) * x1) + x8).toNatClampNeg).toInt32)), (0, .ref (Γ.2.2 (0))), (1, .int x1), (2, .int x2), (3, .int x3), (4, .int x4), (6, .int x6), (8, .int x8)]) hx hb dX6_comers_140 hl (by decide) rfl (fun ls hl => ?_)
    refine lv_aload_n hx hb dX6_comers_142 rfl (lv_at hl 3 rfl) ?_
    refine lv_iload hx hb dX6_comers_143 (lv_at hl 1 rfl) ?_
    refine lv_iload hx hb dX6_comers_145 (lv_at hl 2 rfl) ?_
    refine bv_i hf (fun S18 hq18 hf => ?_)
    refine goV (runV (rest := []) (b := 0) (mX6_comeIn l Γ  hq18) C hP hl.1 (by decide) mE0 rfl k5_4 qX6_comeIn.1 qX6_comeIn.2.1 qX6_comeIn.2.2.1 qX6_comeIn.2.2.2.1 rfl qX6_comeIn.2.2.2.2 ⟨Nat.le_of_ble_eq_true rfl, Nat.le_of_ble_eq_true rfl⟩ ⟨Nat.le_refl 0, Nat.le_refl 0⟩ (Nat.le_of_ble_eq_true rfl) dX6_comers_147) hP (fun H locs hP => ?_)
    refine lv_iinc (v := x6 + (nI 1)) (lv' := [(6, .int (x6 + (nI 1))), (7, .int (x7 + v17)), (10, .int v15), (9, .int ((S12.2.1 26 (((nI 100) * x1) + x8).toNatClampNeg).toInt32)), (0, .ref (Γ.2.2 (0))), (1, .int x1), (2, .int x2), (3, .int x3), (4, .int x4), (8, .int x8)]) hx hb dX6_comers_150 hl (k := 8) rfl rfl (by decide) rfl (fun ls hl => ?_)
    exact wX6_comers_153 C  hK72  S18 x1 x2 x3 x4 (x6 + (nI 1)) (x7 + v17) x8  hf _ _ _ hP (lv_sub hl [4, 5, 6, 7, 8, 0, 1, 9] rfl)
def fX6_comers_72   : Nat → mM → Int32 → Int32 → Int32 → Int32 → Int32 → Int32 → Int32 → Option (Int32 × mM)
  | 0, _, _, _, _, _, _, _, _ => none
  | n + 1, S, x1, x2, x3, x4, x6, x7, x8 =>
    gi x1 8 (if (S.1 25 (x1).toNatClampNeg) ≤ x8 then bv (fX6_close S) fun S9 => ( if x4 = 0 then some (x6, S9) else some (x7, S9)) else if x8 ≤ 0 then fX6_comers_94  (fX6_comers_72   n)  S x1 x2 x3 x4 x6 x7 x8 (nI 0) else fX6_comers_94  (fX6_comers_72   n)  S x1 x2 x3 x4 x6 x7 x8 x2)
set_option maxHeartbeats 4000000 in
set_option maxRecDepth 100000 in
theorem wX6_comers_72 {p : Program} {l : Launch} {e : Env} {s : State} {m : MethodId} {args : Array Value} {below : List Frame} {meth : Method} {c : Code} {Γ : gG} {rz : Int32} {Sz : mM} (C : Cx Γ 28 p s m args meth c RX6 cX6_comers 11 (some .int))   : ∀ n : Nat, ∀ (S : mM) (x1 : Int32) (x2 : Int32) (x3 : Int32) (x4 : Int32) (x6 : Int32) (x7 : Int32) (x8 : Int32) , fX6_comers_72   n S x1 x2 x3 x4 x6 x7 x8 = some (rz, Sz) → ∀ (H : Heap) (locs : List Loc) (ls : Array Slot), St Γ 28 (mE Γ S) s.heap H locs → lv_has ls 11 [(0, .ref (Γ.2.2 (0))), (1, .int x1), (2, .int x2), (3, .int x3), (4, .int x4), (6, .int x6), (7, .int x7), (8, .int x8)] → W p l e { frames := 7, cells := 0, slots := 0, locals := 156 } s m args below meth c H locs 0 0 (MQ below (gQi Γ 28 rz (mE Γ Sz)) args s 0 0 (wA Γ 28)) (F0 m 72 ls []) := by
  obtain ⟨hx, hb, -, -, hown, hts, -, hwx, -⟩ := id C
  intro n
  induction n with
  | zero =>
    intro S x1 x2 x3 x4 x6 x7 x8 hf
    unfold fX6_comers_72 at hf
    cases hf
  | succ n ih =>
    intro S x1 x2 x3 x4 x6 x7 x8 hf H locs ls hP hl
    unfold fX6_comers_72 at hf
    refine lv_iload hx hb dX6_comers_72 (lv_at hl 7 rfl) ?_
    refine lv_aload_n hx hb dX6_comers_74 rfl (lv_at hl 0 rfl) ?_
    refine m_get C hP 39 (by decide) k4_92 rfl (v := .ref (Γ.2.2 (25))) rfl dX6_comers_75 ?_
    refine lv_iload_n hx hb dX6_comers_78 rfl (lv_at hl 1 rfl) ?_
    refine gi_i hf (fun hi6 hj7 hf => ?_)
    refine m_ild C hP mA_25 hi6 dX6_comers_79 ?_
    refine lv_icmp_ge (tgt := 159) hx hb dX6_comers_80 (by decide) (fun hc8 => ?_) (fun hc8 => ?_)
    · have hf := if_t hc8 hf
      refine lv_aload_n hx hb dX6_comers_159 rfl (lv_at hl 0 rfl) ?_
      refine bv_i hf (fun S9 hq9 hf => ?_)
      refine goV (runV (rest := []) (b := 0) (mX6_close l Γ  hq9) C hP hl.1 (by decide) mE0 rfl k5_34 qX6_close.1 qX6_close.2.1 qX6_close.2.2.1 qX6_close.2.2.2.1 rfl qX6_close.2.2.2.2 ⟨Nat.le_of_ble_eq_true rfl, Nat.le_of_ble_eq_true rfl⟩ ⟨Nat.le_refl 0, Nat.le_refl 0⟩ (Nat.le_of_ble_eq_true rfl) dX6_comers_160) hP (fun H locs hP => ?_)
      refine lv_iload hx hb dX6_comers_163 (lv_at hl 4 rfl) ?_
      refine lv_if_ne (tgt := 173) hx hb dX6_comers_165 (by decide) (fun hc10 => ?_) (fun hc10 => ?_)
      · have hf := if_f hc10 hf
        refine lv_iload hx hb dX6_comers_173 (lv_at hl 6 rfl) ?_
        exact r_iret (X := mE Γ) C hP hf dX6_comers_175
      · have hf := if_t hc10 hf
        refine lv_iload hx hb dX6_comers_168 (lv_at hl 5 rfl) ?_
        refine lv_goto (tgt := 175) hx hb dX6_comers_170 (by decide) ?_
        exact r_iret (X := mE Γ) C hP hf dX6_comers_175
    · have hf := if_f hc8 hf
      refine lv_aload_n hx hb dX6_comers_83 rfl (lv_at hl 0 rfl) ?_
      refine lv_iload hx hb dX6_comers_84 (lv_at hl 7 rfl) ?_
      refine lv_if_le (tgt := 93) hx hb dX6_comers_86 (by decide) (fun hc11 => ?_) (fun hc11 => ?_)
      · have hf := if_t hc11 hf
        refine lv_iconst (v := nI 0) hx hb dX6_comers_93 rfl ?_
        exact wX6_comers_94 C  ih  S x1 x2 x3 x4 x6 x7 x8 (nI 0)  hf _ _ _ hP (lv_sub hl [0, 1, 2, 3, 4, 5, 6, 7] rfl)
      · have hf := if_f hc11 hf
        refine lv_iload_n hx hb dX6_comers_89 rfl (lv_at hl 2 rfl) ?_
        refine lv_goto (tgt := 94) hx hb dX6_comers_90 (by decide) ?_
        exact wX6_comers_94 C  ih  S x1 x2 x3 x4 x6 x7 x8 x2  hf _ _ _ hP (lv_sub hl [0, 1, 2, 3, 4, 5, 6, 7] rfl)
def fX6_comers_49   (S : mM) (x1 : Int32) (x2 : Int32) (x3 : Int32) (x4 : Int32) (y0 : Int32) : Option (Int32 × mM) :=
  if (0 : Int32) ≤ y0 then bv (fX6_open S) fun S5 => ( fX6_comers_72   lF S5 x1 x2 x3 x4 (nI 0) (nI 0) (nI 0)) else some (y0, S)
set_option maxHeartbeats 4000000 in
set_option maxRecDepth 100000 in
theorem wX6_comers_49 {p : Program} {l : Launch} {e : Env} {s : State} {m : MethodId} {args : Array Value} {below : List Frame} {meth : Method} {c : Code} {Γ : gG} {rz : Int32} {Sz : mM} (C : Cx Γ 28 p s m args meth c RX6 cX6_comers 11 (some .int))   : ∀ (S : mM) (x1 : Int32) (x2 : Int32) (x3 : Int32) (x4 : Int32) (y0 : Int32) , fX6_comers_49   S x1 x2 x3 x4 y0 = some (rz, Sz) → ∀ (H : Heap) (locs : List Loc) (ls : Array Slot), St Γ 28 (mE Γ S) s.heap H locs → lv_has ls 11 [(0, .ref (Γ.2.2 (0))), (1, .int x1), (2, .int x2), (3, .int x3), (4, .int x4)] → W p l e { frames := 7, cells := 0, slots := 0, locals := 156 } s m args below meth c H locs 0 0 (MQ below (gQi Γ 28 rz (mE Γ Sz)) args s 0 0 (wA Γ 28)) (F0 m 49 ls [.int y0]) := by
  obtain ⟨hx, hb, -, -, hown, hts, -, hwx, -⟩ := id C
  intro S x1 x2 x3 x4 y0 hf H locs ls hP hl
  unfold fX6_comers_49 at hf
  refine lv_istore (lv' := [(5, .int y0), (0, .ref (Γ.2.2 (0))), (1, .int x1), (2, .int x2), (3, .int x3), (4, .int x4)]) hx hb dX6_comers_49 hl (by decide) rfl (fun ls hl => ?_)
  refine lv_iload hx hb dX6_comers_51 (lv_at hl 0 rfl) ?_
  refine lv_if_ge (tgt := 59) hx hb dX6_comers_53 (by decide) (fun hc4 => ?_) (fun hc4 => ?_)
  · have hf := if_t hc4 hf
    refine lv_aload_n hx hb dX6_comers_59 rfl (lv_at hl 1 rfl) ?_
    refine bv_i hf (fun S5 hq5 hf => ?_)
    refine goV (runV (rest := []) (b := 0) (mX6_open l Γ  hq5) C hP hl.1 (by decide) mE0 rfl k4_232 qX6_open.1 qX6_open.2.1 qX6_open.2.2.1 qX6_open.2.2.2.1 rfl qX6_open.2.2.2.2 ⟨Nat.le_of_ble_eq_true rfl, Nat.le_of_ble_eq_true rfl⟩ ⟨Nat.le_refl 0, Nat.le_refl 0⟩ (Nat.le_of_ble_eq_true rfl) dX6_comers_60) hP (fun H locs hP => ?_)
    refine lv_iconst (v := nI 0) hx hb dX6_comers_63 rfl ?_
    refine lv_istore (lv' := [(6, .int (nI 0)), (5, .int y0), (0, .ref (Γ.2.2 (0))), (1, .int x1), (2, .int x2), (3, .int x3), (4, .int x4)]) hx hb dX6_comers_64 hl (by decide) rfl (fun ls hl => ?_)
    refine lv_iconst (v := nI 0) hx hb dX6_comers_66 rfl ?_
    refine lv_istore (lv' := [(7, .int (nI 0)), (6, .int (nI 0)), (5, .int y0), (0, .ref (Γ.2.2 (0))), (1, .int x1), (2, .int x2), (3, .int x3), (4, .int x4)]) hx hb dX6_comers_67 hl (by decide) rfl (fun ls hl => ?_)
    refine lv_iconst (v := nI 0) hx hb dX6_comers_69 rfl ?_
    refine lv_istore (lv' := [(8, .int (nI 0)), (7, .int (nI 0)), (6, .int (nI 0)), (5, .int y0), (0, .ref (Γ.2.2 (0))), (1, .int x1), (2, .int x2), (3, .int x3), (4, .int x4)]) hx hb dX6_comers_70 hl (by decide) rfl (fun ls hl => ?_)
    exact wX6_comers_72 C   lF S5 x1 x2 x3 x4 (nI 0) (nI 0) (nI 0)  hf _ _ _ hP (lv_sub hl [4, 5, 6, 7, 8, 2, 1, 0] rfl)
  · have hf := if_f hc4 hf
    refine lv_iload hx hb dX6_comers_56 (lv_at hl 0 rfl) ?_
    exact r_iret (X := mE Γ) C hP hf dX6_comers_58
def fX6_comers_40   (S : mM) (x1 : Int32) (x2 : Int32) (x3 : Int32) (x4 : Int32) : Option (Int32 × mM) :=
  fX6_comers_49    S x1 x2 x3 x4 (-1)
set_option maxHeartbeats 4000000 in
set_option maxRecDepth 100000 in
theorem wX6_comers_40 {p : Program} {l : Launch} {e : Env} {s : State} {m : MethodId} {args : Array Value} {below : List Frame} {meth : Method} {c : Code} {Γ : gG} {rz : Int32} {Sz : mM} (C : Cx Γ 28 p s m args meth c RX6 cX6_comers 11 (some .int))   : ∀ (S : mM) (x1 : Int32) (x2 : Int32) (x3 : Int32) (x4 : Int32) , fX6_comers_40   S x1 x2 x3 x4 = some (rz, Sz) → ∀ (H : Heap) (locs : List Loc) (ls : Array Slot), St Γ 28 (mE Γ S) s.heap H locs → lv_has ls 11 [(0, .ref (Γ.2.2 (0))), (1, .int x1), (2, .int x2), (3, .int x3), (4, .int x4)] → W p l e { frames := 7, cells := 0, slots := 0, locals := 156 } s m args below meth c H locs 0 0 (MQ below (gQi Γ 28 rz (mE Γ Sz)) args s 0 0 (wA Γ 28)) (F0 m 40 ls []) := by
  obtain ⟨hx, hb, -, -, hown, hts, -, hwx, -⟩ := id C
  intro S x1 x2 x3 x4 hf H locs ls hP hl
  unfold fX6_comers_40 at hf
  refine lv_iconst (v := (-1)) hx hb dX6_comers_40 rfl ?_
  refine lv_goto (tgt := 49) hx hb dX6_comers_41 (by decide) ?_
  exact wX6_comers_49 C    S x1 x2 x3 x4 (-1)  hf _ _ _ hP (lv_sub hl [0, 1, 2, 3, 4] rfl)
def fX6_comers  (S : mM) (x1 : Int32) (x2 : Int32) (x3 : Int32) (x4 : Int32) : Option (Int32 × mM) :=
  sv (mS S 0 9 (nI 0)) fun S1 => ( bd (fX6_in S1 x2.toInt64 0 9) fun v2 S2 => ( if v2 = 0 then fX6_comers_40    S2 x1 x2 x3 x4 else bd (fX6_in S2 x3.toInt64 0 2) fun v19 S19 => ( if v19 = 0 then fX6_comers_40    S19 x1 x2 x3 x4 else bd (fX6_in S19 x4.toInt64 0 1) fun v21 S21 => ( if v21 = 0 then fX6_comers_40    S21 x1 x2 x3 x4 else bd (fX6_wrongSorts S21 x1) fun v23 S23 => ( fX6_comers_49    S23 x1 x2 x3 x4 v23)))))
set_option maxHeartbeats 4000000 in
set_option maxRecDepth 100000 in
theorem mX6_comers (l : Launch) (Γ : gG)   {S : mM} {x1 : Int32} {x2 : Int32} {x3 : Int32} {x4 : Int32} {rz : Int32} {Sz : mM} (hf : fX6_comers S x1 x2 x3 x4 = some (rz, Sz)) : CtI l Γ 28 yX6_comers cX6_comers 11 .int 7 156 [.ref (Γ.2.2 (0)), .int x1, .int x2, .int x3, .int x4] (mE Γ S) rz (mE Γ Sz) := by
  refine met_body (Γ := Γ) (lv := [(0, .ref (Γ.2.2 (0))), (1, .int x1), (2, .int x2), (3, .int x3), (4, .int x4)]) RX6 (by decide) rfl rfl rfl ?_
  intro p e s m below meth c H locs ls C hP hl
  obtain ⟨hx, hb, -, -, hown, hts, -, hwx, -⟩ := id C
  unfold fX6_comers at hf
  refine lv_aload_n hx hb dX6_comers_0 rfl (lv_at hl 0 rfl) ?_
  refine lv_iconst (v := nI 0) hx hb dX6_comers_1 rfl ?_
  refine m_put C hP 9 (by decide) k4_62 dX6_comers_2 (fun H locs hP => ?_)
  refine sv_i hf (fun S1 e1 hf => ?_)
  rw [← e1] at hP
  refine lv_iload_n hx hb dX6_comers_5 rfl (lv_at hl 2 rfl) ?_
  refine lv_i2l (v := x2.toInt64) hx hb dX6_comers_6 rfl ?_
  refine lv_lconst (v := 0) hx hb dX6_comers_7 (by decide) ?_
  refine lv_ldc2 (v := 9) hx hb hown (hts _ k5_203) dX6_comers_8 ?_
  refine bd_i hf (fun v2 S2 hq2 hf => ?_)
  refine goI (runS (rest := []) (mX6_in l Γ  hq2) C hP hl.1 k4_215 qX6_in.1 qX6_in.2.1 qX6_in.2.2.1 rfl qX6_in.2.2.2 ⟨Nat.le_of_ble_eq_true rfl, Nat.le_of_ble_eq_true rfl⟩ ⟨Nat.le_refl 0, Nat.le_refl 0⟩ (Nat.le_of_ble_eq_true rfl) dX6_comers_11) hP (fun H locs hP => ?_)
  refine lv_if_eq (tgt := 40) hx hb dX6_comers_14 (by decide) (fun hc3 => ?_) (fun hc3 => ?_)
  · have hf := if_t hc3 hf
    exact wX6_comers_40 C    S2 x1 x2 x3 x4  hf _ _ _ hP (lv_sub hl [0, 1, 2, 3, 4] rfl)
  · have hf := if_f hc3 hf
    refine lv_iload_n hx hb dX6_comers_17 rfl (lv_at hl 3 rfl) ?_
    refine lv_i2l (v := x3.toInt64) hx hb dX6_comers_18 rfl ?_
    refine lv_lconst (v := 0) hx hb dX6_comers_19 (by decide) ?_
    refine lv_ldc2 (v := 2) hx hb hown (hts _ k5_204) dX6_comers_20 ?_
    refine bd_i hf (fun v19 S19 hq19 hf => ?_)
    refine goI (runS (rest := []) (mX6_in l Γ  hq19) C hP hl.1 k4_215 qX6_in.1 qX6_in.2.1 qX6_in.2.2.1 rfl qX6_in.2.2.2 ⟨Nat.le_of_ble_eq_true rfl, Nat.le_of_ble_eq_true rfl⟩ ⟨Nat.le_refl 0, Nat.le_refl 0⟩ (Nat.le_of_ble_eq_true rfl) dX6_comers_23) hP (fun H locs hP => ?_)
    refine lv_if_eq (tgt := 40) hx hb dX6_comers_26 (by decide) (fun hc20 => ?_) (fun hc20 => ?_)
    · have hf := if_t hc20 hf
      exact wX6_comers_40 C    S19 x1 x2 x3 x4  hf _ _ _ hP (lv_sub hl [0, 1, 2, 3, 4] rfl)
    · have hf := if_f hc20 hf
      refine lv_iload hx hb dX6_comers_29 (lv_at hl 4 rfl) ?_
      refine lv_i2l (v := x4.toInt64) hx hb dX6_comers_31 rfl ?_
      refine lv_lconst (v := 0) hx hb dX6_comers_32 (by decide) ?_
      refine lv_lconst (v := 1) hx hb dX6_comers_33 (by decide) ?_
      refine bd_i hf (fun v21 S21 hq21 hf => ?_)
      refine goI (runS (rest := []) (mX6_in l Γ  hq21) C hP hl.1 k4_215 qX6_in.1 qX6_in.2.1 qX6_in.2.2.1 rfl qX6_in.2.2.2 ⟨Nat.le_of_ble_eq_true rfl, Nat.le_of_ble_eq_true rfl⟩ ⟨Nat.le_refl 0, Nat.le_refl 0⟩ (Nat.le_of_ble_eq_true rfl) dX6_comers_34) hP (fun H locs hP => ?_)
      refine lv_if_ne (tgt := 44) hx hb dX6_comers_37 (by decide) (fun hc22 => ?_) (fun hc22 => ?_)
      · have hf := if_f hc22 hf
        refine lv_aload_n hx hb dX6_comers_44 rfl (lv_at hl 0 rfl) ?_
        refine lv_iload_n hx hb dX6_comers_45 rfl (lv_at hl 1 rfl) ?_
        refine bd_i hf (fun v23 S23 hq23 hf => ?_)
        refine goI (runV (rest := []) (b := 0) (mX6_wrongSorts l Γ  hq23) C hP hl.1 (by decide) mE0 rfl k5_205 qX6_wrongSorts.1 qX6_wrongSorts.2.1 qX6_wrongSorts.2.2.1 qX6_wrongSorts.2.2.2.1 rfl qX6_wrongSorts.2.2.2.2 ⟨Nat.le_of_ble_eq_true rfl, Nat.le_of_ble_eq_true rfl⟩ ⟨Nat.le_refl 0, Nat.le_refl 0⟩ (Nat.le_of_ble_eq_true rfl) dX6_comers_46) hP (fun H locs hP => ?_)
        exact wX6_comers_49 C    S23 x1 x2 x3 x4 v23  hf _ _ _ hP (lv_sub hl [0, 1, 2, 3, 4] rfl)
      · have hf := if_t hc22 hf
        exact wX6_comers_40 C    S21 x1 x2 x3 x4  hf _ _ _ hP (lv_sub hl [0, 1, 2, 3, 4] rfl)
