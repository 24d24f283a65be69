-- X6_skippedIn
theorem qX6_skippedIn : Cond.instanceMethod yX6_skippedIn ∈ Ub ∧ Cond.selects RX6 yX6_skippedIn yX6_skippedIn ∈ Ub ∧ Cond.initialized RX6 ∈ Ub ∧ Cond.code yX6_skippedIn cX6_skippedIn 2 (some FieldType.long) ∈ Ub ∧ (yX6_skippedIn.cls = RX6 ∧ yX6_skippedIn.cls ≠ "java/lang/invoke/MethodHandle" ∧ yX6_skippedIn.cls ≠ "java/lang/invoke/VarHandle" ∧ (parseMethodDescriptor yX6_skippedIn.desc).map (fun d => d.parameters.length) = some 1) := ⟨k6_34, ks_67, k1_5, k6_35, by decide +kernel⟩
def fX6_skippedIn  (S : mM) (x1 : Int32) : Option (Int64 × mM) :=
  gi x1 8 (if (S.1 24 (x1).toNatClampNeg) = 0 then some ((-128), S) else gi x1 8 (if (S.1 24 (x1).toNatClampNeg) = (nI 1) then some ((-32768), S) else some ((-2147483648), S)))
set_option maxHeartbeats 4000000 in
set_option maxRecDepth 100000 in
theorem mX6_skippedIn (l : Launch) (Γ : gG)   {S : mM} {x1 : Int32} {rz : Int64} {Sz : mM} (hf : fX6_skippedIn S x1 = some (rz, Sz)) : CtL l Γ 28 yX6_skippedIn cX6_skippedIn 2 0 0 [.ref (Γ.2.2 (0)), .int x1] (mE Γ S) rz (mE Γ Sz) := by
  refine met_body (Γ := Γ) (lv := [(0, .ref (Γ.2.2 (0))), (1, .int x1)]) RX6 (by decide) rfl rfl rfl ?_
  intro p e s m below meth c H locs ls C hP hl
  obtain ⟨hx, hb, -, -, hown, hts, -, hwx, -⟩ := id C
  unfold fX6_skippedIn at hf
  refine lv_aload_n hx hb dX6_skippedIn_0 rfl (lv_at hl 0 rfl) ?_
  refine m_get C hP 38 (by decide) k4_91 rfl (v := .ref (Γ.2.2 (24))) rfl dX6_skippedIn_1 ?_
  refine lv_iload_n hx hb dX6_skippedIn_4 rfl (lv_at hl 1 rfl) ?_
  refine gi_i hf (fun hi1 hj2 hf => ?_)
  refine m_ild C hP mA_24 hi1 dX6_skippedIn_5 ?_
  refine lv_if_ne (tgt := 15) hx hb dX6_skippedIn_6 (by decide) (fun hc3 => ?_) (fun hc3 => ?_)
  · have hf := if_f hc3 hf
    refine lv_aload_n hx hb dX6_skippedIn_15 rfl (lv_at hl 0 rfl) ?_
    refine m_get C hP 38 (by decide) k4_91 rfl (v := .ref (Γ.2.2 (24))) rfl dX6_skippedIn_16 ?_
    refine lv_iload_n hx hb dX6_skippedIn_19 rfl (lv_at hl 1 rfl) ?_
    refine gi_i hf (fun hi4 hj5 hf => ?_)
    refine m_ild C hP mA_24 hi4 dX6_skippedIn_20 ?_
    refine lv_iconst (v := nI 1) hx hb dX6_skippedIn_21 rfl ?_
    refine lv_icmp_ne (tgt := 31) hx hb dX6_skippedIn_22 (by decide) (fun hc6 => ?_) (fun hc6 => ?_)
    · have hf := if_f hc6 hf
      refine lv_ldc2 (v := -2147483648) hx hb hown (hts _ k6_38) dX6_skippedIn_31 ?_
      exact r_lret (X := mE Γ) C hP hf dX6_skippedIn_34
    · have hf := if_t hc6 hf
      refine lv_ldc2 (v := -32768) hx hb hown (hts _ k6_37) dX6_skippedIn_25 ?_
      refine lv_goto (tgt := 34) hx hb dX6_skippedIn_28 (by decide) ?_
      exact r_lret (X := mE Γ) C hP hf dX6_skippedIn_34
  · have hf := if_t hc3 hf
    refine lv_ldc2 (v := -128) hx hb hown (hts _ k6_36) dX6_skippedIn_9 ?_
    refine lv_goto (tgt := 34) hx hb dX6_skippedIn_12 (by decide) ?_
    exact r_lret (X := mE Γ) C hP hf dX6_skippedIn_34
-- X6_judge
theorem qX6_judge : Cond.instanceMethod yX6_judge ∈ Ub ∧ Cond.selects RX6 yX6_judge yX6_judge ∈ Ub ∧ Cond.initialized RX6 ∈ Ub ∧ Cond.code yX6_judge cX6_judge 7 (some FieldType.int) ∈ Ub ∧ (yX6_judge.cls = RX6 ∧ yX6_judge.cls ≠ "java/lang/invoke/MethodHandle" ∧ yX6_judge.cls ≠ "java/lang/invoke/VarHandle" ∧ (parseMethodDescriptor yX6_judge.desc).map (fun d => d.parameters.length) = some 2) := ⟨k6_29, k6_30, k1_5, k6_31, by decide +kernel⟩
def fX6_judge_21   (S : mM) (x1 : Int32) (x2 : Int32) : Option (Int32 × mM) :=
  bd (fX6_isLane S x1) fun v4 S4 => ( if v4 = 0 then some ((-1), S4) else bd (fX6_wrongRow S4 x2) fun v6 S6 => ( some (v6, S6)))
set_option maxHeartbeats 4000000 in
set_option maxRecDepth 100000 in
theorem wX6_judge_21 {p : Program} {l : Launch} {e : Env} {s : State} {m : MethodId} {args : Array Value} {below : List Frame} {meth : Method} {c : Code} {Γ : gG} {rz : Int32} {Sz : mM} (C : Cx Γ 28 p s m args meth c RX6 cX6_judge 7 (some .int))   : ∀ (S : mM) (x1 : Int32) (x2 : Int32) , fX6_judge_21   S x1 x2 = some (rz, Sz) → ∀ (H : Heap) (locs : List Loc) (ls : Array Slot), St Γ 28 (mE Γ S) s.heap H locs → lv_has ls 7 [(0, .ref (Γ.2.2 (0))), (1, .int x1), (2, .int x2)] → W p l e { frames := 4, cells := 0, slots := 0, locals := 87 } s m args below meth c H locs 0 0 (MQ below (gQi Γ 28 rz (mE Γ Sz)) args s 0 0 (wA Γ 28)) (F0 m 21 ls []) := by
  obtain ⟨hx, hb, -, -, hown, hts, -, hwx, -⟩ := id C
  intro S x1 x2 hf H locs ls hP hl
  unfold fX6_judge_21 at hf
  refine lv_aload_n hx hb dX6_judge_21 rfl (lv_at hl 0 rfl) ?_
  refine lv_iload_n hx hb dX6_judge_22 rfl (lv_at hl 1 rfl) ?_
  refine bd_i hf (fun v4 S4 hq4 hf => ?_)
  refine goI (runV (rest := []) (b := 0) (mX6_isLane l Γ  hq4) C hP hl.1 (by decide) mE0 rfl k5_30 qX6_isLane.1 qX6_isLane.2.1 qX6_isLane.2.2.1 qX6_isLane.2.2.2.1 rfl qX6_isLane.2.2.2.2 ⟨Nat.le_of_ble_eq_true rfl, Nat.le_of_ble_eq_true rfl⟩ ⟨Nat.le_refl 0, Nat.le_refl 0⟩ (Nat.le_of_ble_eq_true rfl) dX6_judge_23) hP (fun H locs hP => ?_)
  refine lv_if_ne (tgt := 33) hx hb dX6_judge_26 (by decide) (fun hc5 => ?_) (fun hc5 => ?_)
  · have hf := if_f hc5 hf
    refine lv_aload_n hx hb dX6_judge_33 rfl (lv_at hl 0 rfl) ?_
    refine lv_iload_n hx hb dX6_judge_34 rfl (lv_at hl 2 rfl) ?_
    refine bd_i hf (fun v6 S6 hq6 hf => ?_)
    refine goI (runV (rest := []) (b := 0) (mX6_wrongRow l Γ  hq6) C hP hl.1 (by decide) mE0 rfl k4_210 qX6_wrongRow.1 qX6_wrongRow.2.1 qX6_wrongRow.2.2.1 qX6_wrongRow.2.2.2.1 rfl qX6_wrongRow.2.2.2.2 ⟨Nat.le_of_ble_eq_true rfl, Nat.le_of_ble_eq_true rfl⟩ ⟨Nat.le_refl 0, Nat.le_refl 0⟩ (Nat.le_of_ble_eq_true rfl) dX6_judge_35) hP (fun H locs hP => ?_)
    exact r_iret (X := mE Γ) C hP hf dX6_judge_38
  · have hf := if_t hc5 hf
    refine lv_iconst (v := (-1)) hx hb dX6_judge_29 rfl ?_
    refine lv_goto (tgt := 38) hx hb dX6_judge_30 (by decide) ?_
    exact r_iret (X := mE Γ) C hP hf dX6_judge_38
def fX6_judge_121   (S : mM) (x3 : Int32) : Option (Int32 × mM) :=
  bv (fX6_close S) fun S13 => ( some (x3, S13))
set_option maxHeartbeats 4000000 in
set_option maxRecDepth 100000 in
theorem wX6_judge_121 {p : Program} {l : Launch} {e : Env} {s : State} {m : MethodId} {args : Array Value} {below : List Frame} {meth : Method} {c : Code} {Γ : gG} {rz : Int32} {Sz : mM} (C : Cx Γ 28 p s m args meth c RX6 cX6_judge 7 (some .int))   : ∀ (S : mM) (x3 : Int32) , fX6_judge_121   S x3 = some (rz, Sz) → ∀ (H : Heap) (locs : List Loc) (ls : Array Slot), St Γ 28 (mE Γ S) s.heap H locs → lv_has ls 7 [(0, .ref (Γ.2.2 (0))), (3, .int x3)] → W p l e { frames := 4, cells := 0, slots := 0, locals := 87 } s m args below meth c H locs 0 0 (MQ below (gQi Γ 28 rz (mE Γ Sz)) args s 0 0 (wA Γ 28)) (F0 m 121 ls []) := by
  obtain ⟨hx, hb, -, -, hown, hts, -, hwx, -⟩ := id C
  intro S x3 hf H locs ls hP hl
  unfold fX6_judge_121 at hf
  refine lv_aload_n hx hb dX6_judge_121 rfl (lv_at hl 0 rfl) ?_
  refine bv_i hf (fun S13 hq13 hf => ?_)
  refine goV (runV (rest := []) (b := 0) (mX6_close l Γ  hq13) C hP hl.1 (by decide) mE0 rfl k5_34 qX6_close.1 qX6_close.2.1 qX6_close.2.2.1 qX6_close.2.2.2.1 rfl qX6_close.2.2.2.2 ⟨Nat.le_of_ble_eq_true rfl, Nat.le_of_ble_eq_true rfl⟩ ⟨Nat.le_refl 0, Nat.le_refl 0⟩ (Nat.le_of_ble_eq_true rfl) dX6_judge_122) hP (fun H locs hP => ?_)
  refine lv_iload_n hx hb dX6_judge_125 rfl (lv_at hl 1 rfl) ?_
  exact r_iret (X := mE Γ) C hP hf dX6_judge_126
def fX6_judge_114  (K49 : mM → Int32 → Int32 → Int32 → Int32 → Option (Int32 × mM)) (S : mM) (x1 : Int32) (x2 : Int32) (x4 : Int32) (y0 : Int32) : Option (Int32 × mM) :=
  K49 S x1 x2 y0 (x4 + (nI 1))
set_option maxHeartbeats 4000000 in
set_option maxRecDepth 100000 in
theorem wX6_judge_114 {p : Program} {l : Launch} {e : Env} {s : State} {m : MethodId} {args : Array Value} {below : List Frame} {meth : Method} {c : Code} {Γ : gG} {rz : Int32} {Sz : mM} (C : Cx Γ 28 p s m args meth c RX6 cX6_judge 7 (some .int))  {K49 : mM → Int32 → Int32 → Int32 → Int32 → Option (Int32 × mM)} (hK49 : ∀ (S : mM) (x1 : Int32) (x2 : Int32) (x3 : Int32) (x4 : Int32) , K49 S x1 x2 x3 x4 = some (rz, Sz) → ∀ (H : Heap) (locs : List Loc) (ls : Array Slot), St Γ 28 (mE Γ S) s.heap H locs → lv_has ls 7 [(0, .ref (Γ.2.2 (0))), (1, .int x1), (2, .int x2), (3, .int x3), (4, .int x4)] → W p l e { frames := 4, cells := 0, slots := 0, locals := 87 } s m args below meth c H locs 0 0 (MQ below (gQi Γ 28 rz (mE Γ Sz)) args s 0 0 (wA Γ 28)) (F0 m 49 ls [])) : ∀ (S : mM) (x1 : Int32) (x2 : Int32) (x4 : Int32) (y0 : Int32) , fX6_judge_114  K49 S x1 x2 x4 y0 = some (rz, Sz) → ∀ (H : Heap) (locs : List Loc) (ls : Array Slot), St Γ 28 (mE Γ S) s.heap H locs → lv_has ls 7 [(0, .ref (Γ.2.2 (0))), (1, .int x1), (2, .int x2), (4, .int x4)] → W p l e { frames := 4, cells := 0, slots := 0, locals := 87 } s m args below meth c H locs 0 0 (MQ below (gQi Γ 28 rz (mE Γ Sz)) args s 0 0 (wA Γ 28)) (F0 m 114 ls [.int y0]) := by
  obtain ⟨hx, hb, -, -, hown, hts, -, hwx, -⟩ := id C
  intro S x1 x2 x4 y0 hf H locs ls hP hl
  unfold fX6_judge_114 at hf
  refine lv_istore_n (lv' := [(3, .int y0), (0, .ref (Γ.2.2 (0))), (1, .int x1), (2, .int x2), (4, .int x4)]) hx hb dX6_judge_114 rfl hl (by decide) rfl (fun ls hl => ?_)
  refine lv_iinc (v := x4 + (nI 1)) (lv' := [(4, .int (x4 + (nI 1))), (3, .int y0), (0, .ref (Γ.2.2 (0))), (1, .int x1), (2, .int x2)]) hx hb dX6_judge_115 hl (k := 4) rfl rfl (by decide) rfl (fun ls hl => ?_)
  refine lv_goto (tgt := 49) hx hb dX6_judge_118 (by decide) ?_
  exact hK49 S x1 x2 y0 (x4 + (nI 1))  hf _ _ _ hP (lv_sub hl [2, 3, 4, 1, 0] rfl)
def fX6_judge_107  (K49 : mM → Int32 → Int32 → Int32 → Int32 → Option (Int32 × mM)) (S : mM) (x1 : Int32) (x2 : Int32) (x4 : Int32) : Option (Int32 × mM) :=
  fX6_judge_114  K49  S x1 x2 x4 (-4)
set_option maxHeartbeats 4000000 in
set_option maxRecDepth 100000 in
theorem wX6_judge_107 {p : Program} {l : Launch} {e : Env} {s : State} {m : MethodId} {args : Array Value} {below : List Frame} {meth : Method} {c : Code} {Γ : gG} {rz : Int32} {Sz : mM} (C : Cx Γ 28 p s m args meth c RX6 cX6_judge 7 (some .int))  {K49 : mM → Int32 → Int32 → Int32 → Int32 → Option (Int32 × mM)} (hK49 : ∀ (S : mM) (x1 : Int32) (x2 : Int32) (x3 : Int32) (x4 : Int32) , K49 S x1 x2 x3 x4 = some (rz, Sz) → ∀ (H : Heap) (locs : List Loc) (ls : Array Slot), St Γ 28 (mE Γ S) s.heap H locs → lv_has ls 7 [(0, .ref (Γ.2.2 (0))), (1, .int x1), (2, .int x2), (3, .int x3), (4, .int x4)] → W p l e { frames := 4, cells := 0, slots := 0, locals := 87 } s m args below meth c H locs 0 0 (MQ below (gQi Γ 28 rz (mE Γ Sz)) args s 0 0 (wA Γ 28)) (F0 m 49 ls [])) : ∀ (S : mM) (x1 : Int32) (x2 : Int32) (x4 : Int32) , fX6_judge_107  K49 S x1 x2 x4 = some (rz, Sz) → ∀ (H : Heap) (locs : List Loc) (ls : Array Slot), St Γ 28 (mE Γ S) s.heap H locs → lv_has ls 7 [(0, .ref (Γ.2.2 (0))), (1, .int x1), (2, .int x2), (4, .int x4)] → W p l e { frames := 4, cells := 0, slots := 0, locals := 87 } s m args below meth c H locs 0 0 (MQ below (gQi Γ 28 rz (mE Γ Sz)) args s 0 0 (wA Γ 28)) (F0 m 107 ls []) := by
  obtain ⟨hx, hb, -, -, hown, hts, -, hwx, -⟩ := id C
  intro S x1 x2 x4 hf H locs ls hP hl
  unfold fX6_judge_107 at hf
  refine lv_bipush (v := (-4)) hx hb dX6_judge_107 rfl ?_
  refine lv_goto (tgt := 114) hx hb dX6_judge_109 (by decide) ?_
  exact wX6_judge_114 C  hK49  S x1 x2 x4 (-4)  hf _ _ _ hP (lv_sub hl [0, 1, 2, 3] rfl)
def fX6_judge_49   : Nat → mM → Int32 → Int32 → Int32 → Int32 → Option (Int32 × mM)
  | 0, _, _, _, _, _ => none
  | n + 1, S, x1, x2, x3, x4 =>
    gi x2 8 (if (S.1 25 (x2).toNatClampNeg) ≤ x4 then fX6_judge_121    S x3 else if (0 : Int32) ≤ x3 then fX6_judge_121    S x3 else bd (fX6_minuteOn S) fun v15 S15 => ( gi (((nI 100) * x2) + x4) 800 (bd (fX6_skippedIn S15 x2) fun v18 S18 => ( if (lg_cmp (S15.2.1 26 (((nI 100) * x2) + x4).toNatClampNeg) v18) = 0 then fX6_judge_107  (fX6_judge_49   n)  S18 x1 x2 x4 else gi x1 5 (if (lg_cmp (S15.2.1 26 (((nI 100) * x2) + x4).toNatClampNeg) ((S18.1 3 (x1).toNatClampNeg).toInt64)) = 0 then fX6_judge_107  (fX6_judge_49   n)  S18 x1 x2 x4 else fX6_judge_114  (fX6_judge_49   n)  S18 x1 x2 x4 x4)))))
set_option maxHeartbeats 4000000 in
set_option maxRecDepth 100000 in
theorem wX6_judge_49 {p : Program} {l : Launch} {e : Env} {s : State} {m : MethodId} {args : Array Value} {below : List Frame} {meth : Method} {c : Code} {Γ : gG} {rz : Int32} {Sz : mM} (C : Cx Γ 28 p s m args meth c RX6 cX6_judge 7 (some .int))   : ∀ n : Nat, ∀ (S : mM) (x1 : Int32) (x2 : Int32) (x3 : Int32) (x4 : Int32) , fX6_judge_49   n S x1 x2 x3 x4 = some (rz, Sz) → ∀ (H : Heap) (locs : List Loc) (ls : Array Slot), St Γ 28 (mE Γ S) s.heap H locs → lv_has ls 7 [(0, .ref (Γ.2.2 (0))), (1, .int x1), (2, .int x2), (3, .int x3), (4, .int x4)] → W p l e { frames := 4, cells := 0, slots := 0, locals := 87 } s m args below meth c H locs 0 0 (MQ below (gQi Γ 28 rz (mE Γ Sz)) args s 0 0 (wA Γ 28)) (F0 m 49 ls []) := by
  obtain ⟨hx, hb, -, -, hown, hts, -, hwx, -⟩ := id C
  intro n
  induction n with
  | zero =>
    intro S x1 x2 x3 x4 hf
    unfold fX6_judge_49 at hf
    cases hf
  | succ n ih =>
    intro S x1 x2 x3 x4 hf H locs ls hP hl
    unfold fX6_judge_49 at hf
    refine lv_iload hx hb dX6_judge_49 (lv_at hl 4 rfl) ?_
    refine lv_aload_n hx hb dX6_judge_51 rfl (lv_at hl 0 rfl) ?_
    refine m_get C hP 39 (by decide) k4_92 rfl (v := .ref (Γ.2.2 (25))) rfl dX6_judge_52 ?_
    refine lv_iload_n hx hb dX6_judge_55 rfl (lv_at hl 2 rfl) ?_
    refine gi_i hf (fun hi10 hj11 hf => ?_)
    refine m_ild C hP mA_25 hi10 dX6_judge_56 ?_
    refine lv_icmp_ge (tgt := 121) hx hb dX6_judge_57 (by decide) (fun hc12 => ?_) (fun hc12 => ?_)
    · have hf := if_t hc12 hf
      exact wX6_judge_121 C    S x3  hf _ _ _ hP (lv_sub hl [0, 3] rfl)
    · have hf := if_f hc12 hf
      refine lv_iload_n hx hb dX6_judge_60 rfl (lv_at hl 3 rfl) ?_
      refine lv_if_ge (tgt := 121) hx hb dX6_judge_61 (by decide) (fun hc14 => ?_) (fun hc14 => ?_)
      · have hf := if_t hc14 hf
        exact wX6_judge_121 C    S x3  hf _ _ _ hP (lv_sub hl [0, 3] rfl)
      · have hf := if_f hc14 hf
        refine lv_aload_n hx hb dX6_judge_64 rfl (lv_at hl 0 rfl) ?_
        refine bd_i hf (fun v15 S15 hq15 hf => ?_)
        refine goI (runV (rest := []) (b := 0) (mX6_minuteOn l Γ  hq15) C hP hl.1 (by decide) mE0 rfl k5_22 qX6_minuteOn.1 qX6_minuteOn.2.1 qX6_minuteOn.2.2.1 qX6_minuteOn.2.2.2.1 rfl qX6_minuteOn.2.2.2.2 ⟨Nat.le_of_ble_eq_true rfl, Nat.le_of_ble_eq_true rfl⟩ ⟨Nat.le_refl 0, Nat.le_refl 0⟩ (Nat.le_of_ble_eq_true rfl) dX6_judge_65) hP (fun H locs hP => ?_)
        refine lv_pop hx hb dX6_judge_68 rfl ?_
        refine lv_aload_n hx hb dX6_judge_69 rfl (lv_at hl 0 rfl) ?_
        refine m_get C hP 40 (by decide) k4_93 rfl (v := .ref (Γ.2.2 (26))) rfl dX6_judge_70 ?_
        refine lv_bipush (v := nI 100) hx hb dX6_judge_73 rfl ?_
        refine lv_iload_n hx hb dX6_judge_75 rfl (lv_at hl 2 rfl) ?_
        refine lv_imul hx hb dX6_judge_76 ?_
        refine lv_iload hx hb dX6_judge_77 (lv_at hl 4 rfl) ?_
        refine lv_iadd hx hb dX6_judge_79 ?_
        refine gi_i hf (fun hi16 hj17 hf => ?_)
        refine m_lld C hP mB_26 hi16 dX6_judge_80 ?_
        refine lv_lstore (lv' := [(5, .long (S15.2.1 26 (((nI 100) * x2) + x4).toNatClampNeg)), (0, .ref (Γ.2.2 (0))), (1, .int x1), (2, .int x2), (3, .int x3), (4, .int x4)]) hx hb dX6_judge_81 hl (by decide) rfl (fun ls hl => ?_)
        refine lv_lload hx hb dX6_judge_83 (lv_at hl 0 rfl) ?_
        refine lv_aload_n hx hb dX6_judge_85 rfl (lv_at hl 1 rfl) ?_
        refine lv_iload_n hx hb dX6_judge_86 rfl (lv_at hl 3 rfl) ?_
        refine bd_i hf (fun v18 S18 hq18 hf => ?_)
        refine goL (runV (rest := [.long (S15.2.1 26 (((nI 100) * x2) + x4).toNatClampNeg)]) (b := 0) (mX6_skippedIn l Γ  hq18) C hP hl.1 (by decide) mE0 rfl k6_32 qX6_skippedIn.1 qX6_skippedIn.2.1 qX6_skippedIn.2.2.1 qX6_skippedIn.2.2.2.1 rfl qX6_skippedIn.2.2.2.2 ⟨Nat.le_of_ble_eq_true rfl, Nat.le_of_ble_eq_true rfl⟩ ⟨Nat.le_refl 0, Nat.le_refl 0⟩ (Nat.le_of_ble_eq_true rfl) dX6_judge_87) hP (fun H locs hP => ?_)
        refine W.lcmp hx hb dX6_judge_90 ?_
        refine lv_if_eq (tgt := 107) hx hb dX6_judge_91 (by decide) (fun hc19 => ?_) (fun hc19 => ?_)
        · have hf := if_t hc19 hf
          exact wX6_judge_107 C  ih  S18 x1 x2 x4  hf _ _ _ hP (lv_sub hl [1, 2, 3, 5] rfl)
        · have hf := if_f hc19 hf
          refine lv_lload hx hb dX6_judge_94 (lv_at hl 0 rfl) ?_
          refine lv_aload_n hx hb dX6_judge_96 rfl (lv_at hl 1 rfl) ?_
          refine m_get C hP 5 (by decide) k4_58 rfl (v := .ref (Γ.2.2 (3))) rfl dX6_judge_97 ?_
          refine lv_iload_n hx hb dX6_judge_100 rfl (lv_at hl 2 rfl) ?_
          refine gi_i hf (fun hi20 hj21 hf => ?_)
          refine m_ild C hP mA_3 hi20 dX6_judge_101 ?_
          refine lv_i2l (v := (S18.1 3 (x1).toNatClampNeg).toInt64) hx hb dX6_judge_102 rfl ?_
          refine W.lcmp hx hb dX6_judge_103 ?_
          refine lv_if_ne (tgt := 112) hx hb dX6_judge_104 (by decide) (fun hc22 => ?_) (fun hc22 => ?_)
          · have hf := if_f hc22 hf
            refine lv_iload hx hb dX6_judge_112 (lv_at hl 5 rfl) ?_
            exact wX6_judge_114 C  ih  S18 x1 x2 x4 x4  hf _ _ _ hP (lv_sub hl [1, 2, 3, 5] rfl)
          · have hf := if_t hc22 hf
            exact wX6_judge_107 C  ih  S18 x1 x2 x4  hf _ _ _ hP (lv_sub hl [1, 2, 3, 5] rfl)
def fX6_judge  (S : mM) (x1 : Int32) (x2 : Int32) : Option (Int32 × mM) :=
  sv (mS S 0 9 (nI 0)) fun S1 => ( bd (fX6_isLane S1 x1) fun v2 S2 => ( if v2 = 0 then fX6_judge_21    S2 x1 x2 else bd (fX6_wrongRow S2 x2) fun v7 S7 => ( if (0 : Int32) ≤ v7 then bv (fX6_open S7) fun S9 => ( fX6_judge_49   lF S9 x1 x2 (-4) (nI 0)) else fX6_judge_21    S7 x1 x2)))
set_option maxHeartbeats 4000000 in
set_option maxRecDepth 100000 in
theorem mX6_judge (l : Launch) (Γ : gG)   {S : mM} {x1 : Int32} {x2 : Int32} {rz : Int32} {Sz : mM} (hf : fX6_judge S x1 x2 = some (rz, Sz)) : CtI l Γ 28 yX6_judge cX6_judge 7 .int 4 87 [.ref (Γ.2.2 (0)), .int x1, .int x2] (mE Γ S) rz (mE Γ Sz) := by
  refine met_body (Γ := Γ) (lv := [(0, .ref (Γ.2.2 (0))), (1, .int x1), (2, .int x2)]) RX6 (by decide) rfl rfl rfl ?_
  intro p e s m below meth c H locs ls C hP hl
  obtain ⟨hx, hb, -, -, hown, hts, -, hwx, -⟩ := id C
  unfold fX6_judge at hf
  refine lv_aload_n hx hb dX6_judge_0 rfl (lv_at hl 0 rfl) ?_
  refine lv_iconst (v := nI 0) hx hb dX6_judge_1 rfl ?_
  refine m_put C hP 9 (by decide) k4_62 dX6_judge_2 (fun H locs hP => ?_)
  refine sv_i hf (fun S1 e1 hf => ?_)
  rw [← e1] at hP
  refine lv_aload_n hx hb dX6_judge_5 rfl (lv_at hl 0 rfl) ?_
  refine lv_iload_n hx hb dX6_judge_6 rfl (lv_at hl 1 rfl) ?_
  refine bd_i hf (fun v2 S2 hq2 hf => ?_)
  refine goI (runV (rest := []) (b := 0) (mX6_isLane l Γ  hq2) C hP hl.1 (by decide) mE0 rfl k5_30 qX6_isLane.1 qX6_isLane.2.1 qX6_isLane.2.2.1 qX6_isLane.2.2.2.1 rfl qX6_isLane.2.2.2.2 ⟨Nat.le_of_ble_eq_true rfl, Nat.le_of_ble_eq_true rfl⟩ ⟨Nat.le_refl 0, Nat.le_refl 0⟩ (Nat.le_of_ble_eq_true rfl) dX6_judge_7) hP (fun H locs hP => ?_)
  refine lv_if_eq (tgt := 21) hx hb dX6_judge_10 (by decide) (fun hc3 => ?_) (fun hc3 => ?_)
  · have hf := if_t hc3 hf
    exact wX6_judge_21 C    S2 x1 x2  hf _ _ _ hP (lv_sub hl [0, 1, 2] rfl)
  · have hf := if_f hc3 hf
    refine lv_aload_n hx hb dX6_judge_13 rfl (lv_at hl 0 rfl) ?_
    refine lv_iload_n hx hb dX6_judge_14 rfl (lv_at hl 2 rfl) ?_
    refine bd_i hf (fun v7 S7 hq7 hf => ?_)
    refine goI (runV (rest := []) (b := 0) (mX6_wrongRow l Γ  hq7) C hP hl.1 (by decide) mE0 rfl k4_210 qX6_wrongRow.1 qX6_wrongRow.2.1 qX6_wrongRow.2.2.1 qX6_wrongRow.2.2.2.1 rfl qX6_wrongRow.2.2.2.2 ⟨Nat.le_of_ble_eq_true rfl, Nat.le_of_ble_eq_true rfl⟩ ⟨Nat.le_refl 0, Nat.le_refl 0⟩ (Nat.le_of_ble_eq_true rfl) dX6_judge_15) hP (fun H locs hP => ?_)
    refine lv_if_ge (tgt := 39) hx hb dX6_judge_18 (by decide) (fun hc8 => ?_) (fun hc8 => ?_)
    · have hf := if_t hc8 hf
      refine lv_aload_n hx hb dX6_judge_39 rfl (lv_at hl 0 rfl) ?_
      refine bv_i hf (fun S9 hq9 hf => ?_)
      refine goV (runV (rest := []) (b := 0) (mX6_open l Γ  hq9) C hP hl.1 (by decide) mE0 rfl k4_232 qX6_open.1 qX6_open.2.1 qX6_open.2.2.1 qX6_open.2.2.2.1 rfl qX6_open.2.2.2.2 ⟨Nat.le_of_ble_eq_true rfl, Nat.le_of_ble_eq_true rfl⟩ ⟨Nat.le_refl 0, Nat.le_refl 0⟩ (Nat.le_of_ble_eq_true rfl) dX6_judge_40) hP (fun H locs hP => ?_)
      refine lv_bipush (v := (-4)) hx hb dX6_judge_43 rfl ?_
      refine lv_istore_n (lv' := [(3, .int ((-4))), (0, .ref (Γ.2.2 (0))), (1, .int x1), (2, .int x2)]) hx hb dX6_judge_45 rfl hl (by decide) rfl (fun ls hl => ?_)
      refine lv_iconst (v := nI 0) hx hb dX6_judge_46 rfl ?_
      refine lv_istore (lv' := [(4, .int (nI 0)), (3, .int ((-4))), (0, .ref (Γ.2.2 (0))), (1, .int x1), (2, .int x2)]) hx hb dX6_judge_47 hl (by decide) rfl (fun ls hl => ?_)
      exact wX6_judge_49 C   lF S9 x1 x2 (-4) (nI 0)  hf _ _ _ hP (lv_sub hl [2, 3, 4, 1, 0] rfl)
    · have hf := if_f hc8 hf
      exact wX6_judge_21 C    S7 x1 x2  hf _ _ _ hP (lv_sub hl [0, 1, 2] rfl)
-- X6_count
theorem qX6_count : Cond.instanceMethod yX6_count ∈ Ub ∧ Cond.selects RX6 yX6_count yX6_count ∈ Ub ∧ Cond.initialized RX6 ∈ Ub ∧ Cond.code yX6_count cX6_count 5 (some FieldType.int) ∈ Ub ∧ (yX6_count.cls = RX6 ∧ yX6_count.cls ≠ "java/lang/invoke/MethodHandle" ∧ yX6_count.cls ≠ "java/lang/invoke/VarHandle" ∧ (parseMethodDescriptor yX6_count.desc).map (fun d => d.parameters.length) = some 1) := ⟨k6_40, k6_41, k1_5, k6_42, by decide +kernel⟩
def fX6_count_58  (K12 : mM → Int32 → Int32 → Int32 → Int32 → Option (Int32 × mM)) (S : mM) (x1 : Int32) (x2 : Int32) (x4 : Int32) (y0 : Int32) : Option (Int32 × mM) :=
  K12 S x1 x2 y0 (x4 + (nI 1))
set_option maxHeartbeats 4000000 in
set_option maxRecDepth 100000 in
theorem wX6_count_58 {p : Program} {l : Launch} {e : Env} {s : State} {m : MethodId} {args : Array Value} {below : List Frame} {meth : Method} {c : Code} {Γ : gG} {rz : Int32} {Sz : mM} (C : Cx Γ 28 p s m args meth c RX6 cX6_count 5 (some .int))  {K12 : mM → Int32 → Int32 → Int32 → Int32 → Option (Int32 × mM)} (hK12 : ∀ (S : mM) (x1 : Int32) (x2 : Int32) (x3 : Int32) (x4 : Int32) , K12 S x1 x2 x3 x4 = some (rz, Sz) → ∀ (H : Heap) (locs : List Loc) (ls : Array Slot), St Γ 28 (mE Γ S) s.heap H locs → lv_has ls 5 [(0, .ref (Γ.2.2 (0))), (1, .int x1), (2, .int x2), (3, .int x3), (4, .int x4)] → W p l e { frames := 4, cells := 0, slots := 0, locals := 88 } s m args below meth c H locs 0 0 (MQ below (gQi Γ 28 rz (mE Γ Sz)) args s 0 0 (wA Γ 28)) (F0 m 12 ls [])) : ∀ (S : mM) (x1 : Int32) (x2 : Int32) (x4 : Int32) (y0 : Int32) , fX6_count_58  K12 S x1 x2 x4 y0 = some (rz, Sz) → ∀ (H : Heap) (locs : List Loc) (ls : Array Slot), St Γ 28 (mE Γ S) s.heap H locs → lv_has ls 5 [(0, .ref (Γ.2.2 (0))), (1, .int x1), (2, .int x2), (4, .int x4)] → W p l e { frames := 4, cells := 0, slots := 0, locals := 88 } s m args below meth c H locs 0 0 (MQ below (gQi Γ 28 rz (mE Γ Sz)) args s 0 0 (wA Γ 28)) (F0 m 58 ls [.int y0]) := by
  obtain ⟨hx, hb, -, -, hown, hts, -, hwx, -⟩ := id C
  intro S x1 x2 x4 y0 hf H locs ls hP hl
  unfold fX6_count_58 at hf
  refine lv_istore_n (lv' := [(3, .int y0), (0, .ref (Γ.2.2 (0))), (1, .int x1), (2, .int x2), (4, .int x4)]) hx hb dX6_count_58 rfl hl (by decide) rfl (fun ls hl => ?_)
  refine lv_iinc (v := x4 + (nI 1)) (lv' := [(4, .int (x4 + (nI 1))), (3, .int y0), (0, .ref (Γ.2.2 (0))), (1, .int x1), (2, .int x2)]) hx hb dX6_count_59 hl (k := 4) rfl rfl (by decide) rfl (fun ls hl => ?_)
  refine lv_goto (tgt := 12) hx hb dX6_count_62 (by decide) ?_
  exact hK12 S x1 x2 y0 (x4 + (nI 1))  hf _ _ _ hP (lv_sub hl [2, 3, 4, 1, 0] rfl)
def fX6_count_36  (K12 : mM → Int32 → Int32 → Int32 → Int32 → Option (Int32 × mM)) (S : mM) (x1 : Int32) (x3 : Int32) (x4 : Int32) (y0 : Int32) (y1 : Int32) : Option (Int32 × mM) :=
  bd (fX6_waitIn S x4) fun v12 S12 => ( if v12 ≤ x3 then fX6_count_58  K12  S12 x1 (y0 + y1) x4 x3 else bd (fX6_waitIn S12 x4) fun v14 S14 => ( fX6_count_58  K12  S14 x1 (y0 + y1) x4 v14))
set_option maxHeartbeats 4000000 in
set_option maxRecDepth 100000 in
theorem wX6_count_36 {p : Program} {l : Launch} {e : Env} {s : State} {m : MethodId} {args : Array Value} {below : List Frame} {meth : Method} {c : Code} {Γ : gG} {rz : Int32} {Sz : mM} (C : Cx Γ 28 p s m args meth c RX6 cX6_count 5 (some .int))  {K12 : mM → Int32 → Int32 → Int32 → Int32 → Option (Int32 × mM)} (hK12 : ∀ (S : mM) (x1 : Int32) (x2 : Int32) (x3 : Int32) (x4 : Int32) , K12 S x1 x2 x3 x4 = some (rz, Sz) → ∀ (H : Heap) (locs : List Loc) (ls : Array Slot), St Γ 28 (mE Γ S) s.heap H locs → lv_has ls 5 [(0, .ref (Γ.2.2 (0))), (1, .int x1), (2, .int x2), (3, .int x3), (4, .int x4)] → W p l e { frames := 4, cells := 0, slots := 0, locals := 88 } s m args below meth c H locs 0 0 (MQ below (gQi Γ 28 rz (mE Γ Sz)) args s 0 0 (wA Γ 28)) (F0 m 12 ls [])) : ∀ (S : mM) (x1 : Int32) (x3 : Int32) (x4 : Int32) (y0 : Int32) (y1 : Int32) , fX6_count_36  K12 S x1 x3 x4 y0 y1 = some (rz, Sz) → ∀ (H : Heap) (locs : List Loc) (ls : Array Slot), St Γ 28 (mE Γ S) s.heap H locs → lv_has ls 5 [(0, .ref (Γ.2.2 (0))), (1, .int x1), (3, .int x3), (4, .int x4)] → W p l e { frames := 4, cells := 0, slots := 0, locals := 88 } s m args below meth c H locs 0 0 (MQ below (gQi Γ 28 rz (mE Γ Sz)) args s 0 0 (wA Γ 28)) (F0 m 36 ls [.int y1, .int y0]) := by
  obtain ⟨hx, hb, -, -, hown, hts, -, hwx, -⟩ := id C
  intro S x1 x3 x4 y0 y1 hf H locs ls hP hl
  unfold fX6_count_36 at hf
  refine lv_iadd hx hb dX6_count_36 ?_
  refine lv_istore_n (lv' := [(2, .int (y0 + y1)), (0, .ref (Γ.2.2 (0))), (1, .int x1), (3, .int x3), (4, .int x4)]) hx hb dX6_count_37 rfl hl (by decide) rfl (fun ls hl => ?_)
  refine lv_aload_n hx hb dX6_count_38 rfl (lv_at hl 1 rfl) ?_
  refine lv_iload hx hb dX6_count_39 (lv_at hl 4 rfl) ?_
  refine bd_i hf (fun v12 S12 hq12 hf => ?_)
  refine goI (runV (rest := []) (b := 0) (mX6_waitIn l Γ  hq12) C hP hl.1 (by decide) mE0 rfl k5_43 qX6_waitIn.1 qX6_waitIn.2.1 qX6_waitIn.2.2.1 qX6_waitIn.2.2.2.1 rfl qX6_waitIn.2.2.2.2 ⟨Nat.le_of_ble_eq_true rfl, Nat.le_of_ble_eq_true rfl⟩ ⟨Nat.le_refl 0, Nat.le_refl 0⟩ (Nat.le_of_ble_eq_true rfl) dX6_count_41) hP (fun H locs hP => ?_)
  refine lv_iload_n hx hb dX6_count_44 rfl (lv_at hl 3 rfl) ?_
  refine lv_icmp_le (tgt := 57) hx hb dX6_count_45 (by decide) (fun hc13 => ?_) (fun hc13 => ?_)
  · have hf := if_t hc13 hf
    refine lv_iload_n hx hb dX6_count_57 rfl (lv_at hl 3 rfl) ?_
    exact wX6_count_58 C  hK12  S12 x1 (y0 + y1) x4 x3  hf _ _ _ hP (lv_sub hl [1, 2, 0, 4] rfl)
  · have hf := if_f hc13 hf
    refine lv_aload_n hx hb dX6_count_48 rfl (lv_at hl 1 rfl) ?_
    refine lv_iload hx hb dX6_count_49 (lv_at hl 4 rfl) ?_
    refine bd_i hf (fun v14 S14 hq14 hf => ?_)
    refine goI (runV (rest := []) (b := 0) (mX6_waitIn l Γ  hq14) C hP hl.1 (by decide) mE0 rfl k5_43 qX6_waitIn.1 qX6_waitIn.2.1 qX6_waitIn.2.2.1 qX6_waitIn.2.2.2.1 rfl qX6_waitIn.2.2.2.2 ⟨Nat.le_of_ble_eq_true rfl, Nat.le_of_ble_eq_true rfl⟩ ⟨Nat.le_refl 0, Nat.le_refl 0⟩ (Nat.le_of_ble_eq_true rfl) dX6_count_51) hP (fun H locs hP => ?_)
    refine lv_goto (tgt := 58) hx hb dX6_count_54 (by decide) ?_
    exact wX6_count_58 C  hK12  S14 x1 (y0 + y1) x4 v14  hf _ _ _ hP (lv_sub hl [1, 2, 0, 4] rfl)
def fX6_count_12   : Nat → mM → Int32 → Int32 → Int32 → Int32 → Option (Int32 × mM)
  | 0, _, _, _, _, _ => none
  | n + 1, S, x1, x2, x3, x4 =>
    if (S.1 0 0) ≤ x4 then (if x1 = nI 0 then some (S.1 0 0, S) else if x1 = nI 1 then bd (fX6_carsThere S) fun v5 S5 => ( some (v5, S5)) else if x1 = nI 2 then some (S.1 0 1, S) else if x1 = nI 3 then some (S.1 0 2, S) else if x1 = nI 4 then some (x2, S) else if x1 = nI 5 then some (x3, S) else some ((-1), S)) else bd (fX6_mayCome S x4) fun v10 S10 => ( if v10 = 0 then fX6_count_36  (fX6_count_12   n)  S10 x1 x3 x4 x2 (nI 0) else fX6_count_36  (fX6_count_12   n)  S10 x1 x3 x4 x2 (nI 1))
set_option maxHeartbeats 4000000 in
set_option maxRecDepth 100000 in
theorem wX6_count_12 {p : Program} {l : Launch} {e : Env} {s : State} {m : MethodId} {args : Array Value} {below : List Frame} {meth : Method} {c : Code} {Γ : gG} {rz : Int32} {Sz : mM} (C : Cx Γ 28 p s m args meth c RX6 cX6_count 5 (some .int))   : ∀ n : Nat, ∀ (S : mM) (x1 : Int32) (x2 : Int32) (x3 : Int32) (x4 : Int32) , fX6_count_12   n S x1 x2 x3 x4 = some (rz, Sz) → ∀ (H : Heap) (locs : List Loc) (ls : Array Slot), St Γ 28 (mE Γ S) s.heap H locs → lv_has ls 5 [(0, .ref (Γ.2.2 (0))), (1, .int x1), (2, .int x2), (3, .int x3), (4, .int x4)] → W p l e { frames := 4, cells := 0, slots := 0, locals := 88 } s m args below meth c H locs 0 0 (MQ below (gQi Γ 28 rz (mE Γ Sz)) args s 0 0 (wA Γ 28)) (F0 m 12 ls []) := by
  obtain ⟨hx, hb, -, -, hown, hts, -, hwx, -⟩ := id C
  intro n
  induction n with
  | zero =>
    intro S x1 x2 x3 x4 hf
    unfold fX6_count_12 at hf
    cases hf
  | succ n ih =>
    intro S x1 x2 x3 x4 hf H locs ls hP hl
    unfold fX6_count_12 at hf
    refine lv_iload hx hb dX6_count_12 (lv_at hl 4 rfl) ?_
    refine lv_aload_n hx hb dX6_count_14 rfl (lv_at hl 0 rfl) ?_
    refine m_get C hP 0 (by decide) k4_53 rfl (v := .int (S.1 0 0)) rfl dX6_count_15 ?_
    refine lv_icmp_ge (tgt := 65) hx hb dX6_count_18 (by decide) (fun hc2 => ?_) (fun hc2 => ?_)
    · have hf := if_t hc2 hf
      refine lv_iload_n hx hb dX6_count_65 rfl (lv_at hl 1 rfl) ?_
      by_cases hs3 : x1 = nI 0
      · have hf := if_t hs3 hf
        refine lv_tableIn (tgt := 104) hx hb dX6_count_66 (by rw [hs3]; decide) (by rw [hs3]; decide) (by rw [hs3]; rfl) (by decide) ?_
        refine lv_aload_n hx hb dX6_count_104 rfl (lv_at hl 0 rfl) ?_
        refine m_get C hP 0 (by decide) k4_53 rfl (v := .int (S.1 0 0)) rfl dX6_count_105 ?_
        exact r_iret (X := mE Γ) C hP hf dX6_count_108
      · have hf := if_f hs3 hf
        by_cases hs4 : x1 = nI 1
        · have hf := if_t hs4 hf
          refine lv_tableIn (tgt := 109) hx hb dX6_count_66 (by rw [hs4]; decide) (by rw [hs4]; decide) (by rw [hs4]; rfl) (by decide) ?_
          refine lv_aload_n hx hb dX6_count_109 rfl (lv_at hl 0 rfl) ?_
          refine bd_i hf (fun v5 S5 hq5 hf => ?_)
          refine goI (runV (rest := []) (b := 0) (mX6_carsThere l Γ  hq5) C hP hl.1 (by decide) mE0 rfl k6_24 qX6_carsThere.1 qX6_carsThere.2.1 qX6_carsThere.2.2.1 qX6_carsThere.2.2.2.1 rfl qX6_carsThere.2.2.2.2 ⟨Nat.le_of_ble_eq_true rfl, Nat.le_of_ble_eq_true rfl⟩ ⟨Nat.le_refl 0, Nat.le_refl 0⟩ (Nat.le_of_ble_eq_true rfl) dX6_count_110) hP (fun H locs hP => ?_)
          exact r_iret (X := mE Γ) C hP hf dX6_count_113
        · have hf := if_f hs4 hf
          by_cases hs6 : x1 = nI 2
          · have hf := if_t hs6 hf
            refine lv_tableIn (tgt := 114) hx hb dX6_count_66 (by rw [hs6]; decide) (by rw [hs6]; decide) (by rw [hs6]; rfl) (by decide) ?_
            refine lv_aload_n hx hb dX6_count_114 rfl (lv_at hl 0 rfl) ?_
            refine m_get C hP 1 (by decide) k4_54 rfl (v := .int (S.1 0 1)) rfl dX6_count_115 ?_
            exact r_iret (X := mE Γ) C hP hf dX6_count_118
          · have hf := if_f hs6 hf
            by_cases hs7 : x1 = nI 3
            · have hf := if_t hs7 hf
              refine lv_tableIn (tgt := 119) hx hb dX6_count_66 (by rw [hs7]; decide) (by rw [hs7]; decide) (by rw [hs7]; rfl) (by decide) ?_
              refine lv_aload_n hx hb dX6_count_119 rfl (lv_at hl 0 rfl) ?_
              refine m_get C hP 2 (by decide) k4_55 rfl (v := .int (S.1 0 2)) rfl dX6_count_120 ?_
              exact r_iret (X := mE Γ) C hP hf dX6_count_123
            · have hf := if_f hs7 hf
              by_cases hs8 : x1 = nI 4
              · have hf := if_t hs8 hf
                refine lv_tableIn (tgt := 124) hx hb dX6_count_66 (by rw [hs8]; decide) (by rw [hs8]; decide) (by rw [hs8]; rfl) (by decide) ?_
                refine lv_iload_n hx hb dX6_count_124 rfl (lv_at hl 2 rfl) ?_
                exact r_iret (X := mE Γ) C hP hf dX6_count_125
              · have hf := if_f hs8 hf
                by_cases hs9 : x1 = nI 5
                · have hf := if_t hs9 hf
                  refine lv_tableIn (tgt := 126) hx hb dX6_count_66 (by rw [hs9]; decide) (by rw [hs9]; decide) (by rw [hs9]; rfl) (by decide) ?_
                  refine lv_iload_n hx hb dX6_count_126 rfl (lv_at hl 3 rfl) ?_
                  exact r_iret (X := mE Γ) C hP hf dX6_count_127
                · have hf := if_f hs9 hf
                  refine lv_tableOut (tgt := 128) hx hb dX6_count_66 (by have q0 := ne_toInt hs3; have q1 := ne_toInt hs4; have q2 := ne_toInt hs6; have q3 := ne_toInt hs7; have q4 := ne_toInt hs8; have q5 := ne_toInt hs9; rw [show (nI 0).toInt = 0 from by decide] at q0; rw [show (nI 1).toInt = 1 from by decide] at q1; rw [show (nI 2).toInt = 2 from by decide] at q2; rw [show (nI 3).toInt = 3 from by decide] at q3; rw [show (nI 4).toInt = 4 from by decide] at q4; rw [show (nI 5).toInt = 5 from by decide] at q5;  omega) (by decide) ?_
                  refine lv_iconst (v := (-1)) hx hb dX6_count_128 rfl ?_
                  exact r_iret (X := mE Γ) C hP hf dX6_count_129
    · have hf := if_f hc2 hf
      refine lv_iload_n hx hb dX6_count_21 rfl (lv_at hl 2 rfl) ?_
      refine lv_aload_n hx hb dX6_count_22 rfl (lv_at hl 0 rfl) ?_
      refine lv_iload hx hb dX6_count_23 (lv_at hl 4 rfl) ?_
      refine bd_i hf (fun v10 S10 hq10 hf => ?_)
      refine goI (runV (rest := [.int x2]) (b := 0) (mX6_mayCome l Γ  hq10) C hP hl.1 (by decide) mE0 rfl k5_96 qX6_mayCome.1 qX6_mayCome.2.1 qX6_mayCome.2.2.1 qX6_mayCome.2.2.2.1 rfl qX6_mayCome.2.2.2.2 ⟨Nat.le_of_ble_eq_true rfl, Nat.le_of_ble_eq_true rfl⟩ ⟨Nat.le_refl 0, Nat.le_refl 0⟩ (Nat.le_of_ble_eq_true rfl) dX6_count_25) hP (fun H locs hP => ?_)
      refine lv_if_eq (tgt := 35) hx hb dX6_count_28 (by decide) (fun hc11 => ?_) (fun hc11 => ?_)
      · have hf := if_t hc11 hf
        refine lv_iconst (v := nI 0) hx hb dX6_count_35 rfl ?_
        exact wX6_count_36 C  ih  S10 x1 x3 x4 x2 (nI 0)  hf _ _ _ hP (lv_sub hl [0, 1, 3, 4] rfl)
      · have hf := if_f hc11 hf
        refine lv_iconst (v := nI 1) hx hb dX6_count_31 rfl ?_
        refine lv_goto (tgt := 36) hx hb dX6_count_32 (by decide) ?_
        exact wX6_count_36 C  ih  S10 x1 x3 x4 x2 (nI 1)  hf _ _ _ hP (lv_sub hl [0, 1, 3, 4] rfl)
def fX6_count  (S : mM) (x1 : Int32) : Option (Int32 × mM) :=
  sv (mS S 0 9 (nI 0)) fun S1 => ( fX6_count_12   lF S1 x1 (nI 0) (nI 0) (nI 0))
set_option maxHeartbeats 4000000 in
set_option maxRecDepth 100000 in
theorem mX6_count (l : Launch) (Γ : gG)   {S : mM} {x1 : Int32} {rz : Int32} {Sz : mM} (hf : fX6_count S x1 = some (rz, Sz)) : CtI l Γ 28 yX6_count cX6_count 5 .int 4 88 [.ref (Γ.2.2 (0)), .int x1] (mE Γ S) rz (mE Γ Sz) := by
  refine met_body (Γ := Γ) (lv := [(0, .ref (Γ.2.2 (0))), (1, .int x1)]) RX6 (by decide) rfl rfl rfl ?_
  intro p e s m below meth c H locs ls C hP hl
  obtain ⟨hx, hb, -, -, hown, hts, -, hwx, -⟩ := id C
  unfold fX6_count at hf
  refine lv_aload_n hx hb dX6_count_0 rfl (lv_at hl 0 rfl) ?_
  refine lv_iconst (v := nI 0) hx hb dX6_count_1 rfl ?_
  refine m_put C hP 9 (by decide) k4_62 dX6_count_2 (fun H locs hP => ?_)
  refine sv_i hf (fun S1 e1 hf => ?_)
  rw [← e1] at hP
  refine lv_iconst (v := nI 0) hx hb dX6_count_5 rfl ?_
  refine lv_istore_n (lv' := [(2, .int (nI 0)), (0, .ref (Γ.2.2 (0))), (1, .int x1)]) hx hb dX6_count_6 rfl hl (by decide) rfl (fun ls hl => ?_)
  refine lv_iconst (v := nI 0) hx hb dX6_count_7 rfl ?_
  refine lv_istore_n (lv' := [(3, .int (nI 0)), (2, .int (nI 0)), (0, .ref (Γ.2.2 (0))), (1, .int x1)]) hx hb dX6_count_8 rfl hl (by decide) rfl (fun ls hl => ?_)
  refine lv_iconst (v := nI 0) hx hb dX6_count_9 rfl ?_
  refine lv_istore (lv' := [(4, .int (nI 0)), (3, .int (nI 0)), (2, .int (nI 0)), (0, .ref (Γ.2.2 (0))), (1, .int x1)]) hx hb dX6_count_10 hl (by decide) rfl (fun ls hl => ?_)
  exact wX6_count_12 C   lF S1 x1 (nI 0) (nI 0) (nI 0)  hf _ _ _ hP (lv_sub hl [3, 4, 2, 1, 0] rfl)
-- X6_keep
theorem qX6_keep : Cond.instanceMethod yX6_keep ∈ Ub ∧ Cond.selects RX6 yX6_keep yX6_keep ∈ Ub ∧ Cond.initialized RX6 ∈ Ub ∧ Cond.code yX6_keep cX6_keep 4 (some FieldType.int) ∈ Ub ∧ (yX6_keep.cls = RX6 ∧ yX6_keep.cls ≠ "java/lang/invoke/MethodHandle" ∧ yX6_keep.cls ≠ "java/lang/invoke/VarHandle" ∧ (parseMethodDescriptor yX6_keep.desc).map (fun d => d.parameters.length) = some 3) := ⟨k6_44, k6_45, k1_5, k6_46, by decide +kernel⟩
def fX6_keep_42   (S : mM) (x1 : Int32) (x2 : Int32) (x3 : Int32) : Option (Int32 × mM) :=
  gi x1 8 (sv (mS S 20 ((x1).toNatClampNeg) x2) fun S9 => ( if x2 = (nI 1) then gi x1 8 (sv (mS S9 21 ((x1).toNatClampNeg) x3) fun S13 => ( gi x3 5 (gi x1 8 (sv (mS S13 22 ((x1).toNatClampNeg) (S13.1 1 (x3).toNatClampNeg)) fun S18 => ( gi x3 5 (gi x1 8 (sv (mS S18 23 ((x1).toNatClampNeg) (S18.1 2 (x3).toNatClampNeg)) fun S23 => ( some (nI 0, S23))))))))) else some (nI 0, S9)))
set_option maxHeartbeats 4000000 in
set_option maxRecDepth 100000 in
theorem wX6_keep_42 {p : Program} {l : Launch} {e : Env} {s : State} {m : MethodId} {args : Array Value} {below : List Frame} {meth : Method} {c : Code} {Γ : gG} {rz : Int32} {Sz : mM} (C : Cx Γ 28 p s m args meth c RX6 cX6_keep 4 (some .int))   : ∀ (S : mM) (x1 : Int32) (x2 : Int32) (x3 : Int32) , fX6_keep_42   S x1 x2 x3 = some (rz, Sz) → ∀ (H : Heap) (locs : List Loc) (ls : Array Slot), St Γ 28 (mE Γ S) s.heap H locs → lv_has ls 4 [(0, .ref (Γ.2.2 (0))), (1, .int x1), (2, .int x2), (3, .int x3)] → W p l e { frames := 2, cells := 0, slots := 0, locals := 46 } s m args below meth c H locs 0 0 (MQ below (gQi Γ 28 rz (mE Γ Sz)) args s 0 0 (wA Γ 28)) (F0 m 42 ls []) := by
  obtain ⟨hx, hb, -, -, hown, hts, -, hwx, -⟩ := id C
  intro S x1 x2 x3 hf H locs ls hP hl
  unfold fX6_keep_42 at hf
  refine lv_aload_n hx hb dX6_keep_42 rfl (lv_at hl 0 rfl) ?_
  refine m_get C hP 34 (by decide) k4_87 rfl (v := .ref (Γ.2.2 (20))) rfl dX6_keep_43 ?_
  refine lv_iload_n hx hb dX6_keep_46 rfl (lv_at hl 1 rfl) ?_
  refine lv_iload_n hx hb dX6_keep_47 rfl (lv_at hl 2 rfl) ?_
  refine gi_i hf (fun hi7 hj8 hf => ?_)
  refine m_ist C hP mA_20 hi7 dX6_keep_48 (fun H locs hP => ?_)
  refine sv_i hf (fun S9 e9 hf => ?_)
  rw [← e9] at hP
  refine lv_iload_n hx hb dX6_keep_49 rfl (lv_at hl 2 rfl) ?_
  refine lv_iconst (v := nI 1) hx hb dX6_keep_50 rfl ?_
  refine lv_icmp_ne (tgt := 85) hx hb dX6_keep_51 (by decide) (fun hc10 => ?_) (fun hc10 => ?_)
  · have hf := if_f hc10 hf
    refine lv_iconst (v := nI 0) hx hb dX6_keep_85 rfl ?_
    exact r_iret (X := mE Γ) C hP hf dX6_keep_86
  · have hf := if_t hc10 hf
    refine lv_aload_n hx hb dX6_keep_54 rfl (lv_at hl 0 rfl) ?_
    refine m_get C hP 35 (by decide) k4_88 rfl (v := .ref (Γ.2.2 (21))) rfl dX6_keep_55 ?_
    refine lv_iload_n hx hb dX6_keep_58 rfl (lv_at hl 1 rfl) ?_
    refine lv_iload_n hx hb dX6_keep_59 rfl (lv_at hl 3 rfl) ?_
    refine gi_i hf (fun hi11 hj12 hf => ?_)
    refine m_ist C hP mA_21 hi11 dX6_keep_60 (fun H locs hP => ?_)
    refine sv_i hf (fun S13 e13 hf => ?_)
    rw [← e13] at hP
    refine lv_aload_n hx hb dX6_keep_61 rfl (lv_at hl 0 rfl) ?_
    refine m_get C hP 36 (by decide) k4_89 rfl (v := .ref (Γ.2.2 (22))) rfl dX6_keep_62 ?_
    refine lv_iload_n hx hb dX6_keep_65 rfl (lv_at hl 1 rfl) ?_
    refine lv_aload_n hx hb dX6_keep_66 rfl (lv_at hl 0 rfl) ?_
    refine m_get C hP 3 (by decide) k4_56 rfl (v := .ref (Γ.2.2 (1))) rfl dX6_keep_67 ?_
    refine lv_iload_n hx hb dX6_keep_70 rfl (lv_at hl 3 rfl) ?_
    refine gi_i hf (fun hi14 hj15 hf => ?_)
    refine m_ild C hP mA_1 hi14 dX6_keep_71 ?_
    refine gi_i hf (fun hi16 hj17 hf => ?_)
    refine m_ist C hP mA_22 hi16 dX6_keep_72 (fun H locs hP => ?_)
    refine sv_i hf (fun S18 e18 hf => ?_)
    rw [← e18] at hP
    refine lv_aload_n hx hb dX6_keep_73 rfl (lv_at hl 0 rfl) ?_
    refine m_get C hP 37 (by decide) k4_90 rfl (v := .ref (Γ.2.2 (23))) rfl dX6_keep_74 ?_
    refine lv_iload_n hx hb dX6_keep_77 rfl (lv_at hl 1 rfl) ?_
    refine lv_aload_n hx hb dX6_keep_78 rfl (lv_at hl 0 rfl) ?_
    refine m_get C hP 4 (by decide) k4_57 rfl (v := .ref (Γ.2.2 (2))) rfl dX6_keep_79 ?_
    refine lv_iload_n hx hb dX6_keep_82 rfl (lv_at hl 3 rfl) ?_
    refine gi_i hf (fun hi19 hj20 hf => ?_)
    refine m_ild C hP mA_2 hi19 dX6_keep_83 ?_
    refine gi_i hf (fun hi21 hj22 hf => ?_)
    refine m_ist C hP mA_23 hi21 dX6_keep_84 (fun H locs hP => ?_)
    refine sv_i hf (fun S23 e23 hf => ?_)
    rw [← e23] at hP
    refine lv_iconst (v := nI 0) hx hb dX6_keep_85 rfl ?_
    exact r_iret (X := mE Γ) C hP hf dX6_keep_86
def fX6_keep  (S : mM) (x1 : Int32) (x2 : Int32) (x3 : Int32) : Option (Int32 × mM) :=
  sv (mS S 0 9 (nI 0)) fun S1 => ( bd (fX6_in S1 x1.toInt64 0 7) fun v2 S2 => ( if v2 = 0 then some ((-1), S2) else bd (fX6_in S2 x2.toInt64 0 1) fun v4 S4 => ( if v4 = 0 then some ((-1), S4) else if x2 = (nI 1) then bd (fX6_isLane S4 x3) fun v24 S24 => ( if v24 = 0 then some ((-1), S24) else fX6_keep_42    S24 x1 x2 x3) else fX6_keep_42    S4 x1 x2 x3)))
set_option maxHeartbeats 4000000 in
set_option maxRecDepth 100000 in
theorem mX6_keep (l : Launch) (Γ : gG)   {S : mM} {x1 : Int32} {x2 : Int32} {x3 : Int32} {rz : Int32} {Sz : mM} (hf : fX6_keep S x1 x2 x3 = some (rz, Sz)) : CtI l Γ 28 yX6_keep cX6_keep 4 .int 2 46 [.ref (Γ.2.2 (0)), .int x1, .int x2, .int x3] (mE Γ S) rz (mE Γ Sz) := by
  refine met_body (Γ := Γ) (lv := [(0, .ref (Γ.2.2 (0))), (1, .int x1), (2, .int x2), (3, .int x3)]) RX6 (by decide) rfl rfl rfl ?_
  intro p e s m below meth c H locs ls C hP hl
  obtain ⟨hx, hb, -, -, hown, hts, -, hwx, -⟩ := id C
  unfold fX6_keep at hf
  refine lv_aload_n hx hb dX6_keep_0 rfl (lv_at hl 0 rfl) ?_
  refine lv_iconst (v := nI 0) hx hb dX6_keep_1 rfl ?_
  refine m_put C hP 9 (by decide) k4_62 dX6_keep_2 (fun H locs hP => ?_)
  refine sv_i hf (fun S1 e1 hf => ?_)
  rw [← e1] at hP
  refine lv_iload_n hx hb dX6_keep_5 rfl (lv_at hl 1 rfl) ?_
  refine lv_i2l (v := x1.toInt64) hx hb dX6_keep_6 rfl ?_
  refine lv_lconst (v := 0) hx hb dX6_keep_7 (by decide) ?_
  refine lv_ldc2 (v := 7) hx hb hown (hts _ k4_214) dX6_keep_8 ?_
  refine bd_i hf (fun v2 S2 hq2 hf => ?_)
  refine goI (runS (rest := []) (mX6_in l Γ  hq2) C hP hl.1 k4_215 qX6_in.1 qX6_in.2.1 qX6_in.2.2.1 rfl qX6_in.2.2.2 ⟨Nat.le_of_ble_eq_true rfl, Nat.le_of_ble_eq_true rfl⟩ ⟨Nat.le_refl 0, Nat.le_refl 0⟩ (Nat.le_of_ble_eq_true rfl) dX6_keep_11) hP (fun H locs hP => ?_)
  refine lv_if_eq (tgt := 40) hx hb dX6_keep_14 (by decide) (fun hc3 => ?_) (fun hc3 => ?_)
  · have hf := if_t hc3 hf
    refine lv_iconst (v := (-1)) hx hb dX6_keep_40 rfl ?_
    exact r_iret (X := mE Γ) C hP hf dX6_keep_41
  · have hf := if_f hc3 hf
    refine lv_iload_n hx hb dX6_keep_17 rfl (lv_at hl 2 rfl) ?_
    refine lv_i2l (v := x2.toInt64) hx hb dX6_keep_18 rfl ?_
    refine lv_lconst (v := 0) hx hb dX6_keep_19 (by decide) ?_
    refine lv_lconst (v := 1) hx hb dX6_keep_20 (by decide) ?_
    refine bd_i hf (fun v4 S4 hq4 hf => ?_)
    refine goI (runS (rest := []) (mX6_in l Γ  hq4) C hP hl.1 k4_215 qX6_in.1 qX6_in.2.1 qX6_in.2.2.1 rfl qX6_in.2.2.2 ⟨Nat.le_of_ble_eq_true rfl, Nat.le_of_ble_eq_true rfl⟩ ⟨Nat.le_refl 0, Nat.le_refl 0⟩ (Nat.le_of_ble_eq_true rfl) dX6_keep_21) hP (fun H locs hP => ?_)
    refine lv_if_eq (tgt := 40) hx hb dX6_keep_24 (by decide) (fun hc5 => ?_) (fun hc5 => ?_)
    · have hf := if_t hc5 hf
      refine lv_iconst (v := (-1)) hx hb dX6_keep_40 rfl ?_
      exact r_iret (X := mE Γ) C hP hf dX6_keep_41
    · have hf := if_f hc5 hf
      refine lv_iload_n hx hb dX6_keep_27 rfl (lv_at hl 2 rfl) ?_
      refine lv_iconst (v := nI 1) hx hb dX6_keep_28 rfl ?_
      refine lv_icmp_ne (tgt := 42) hx hb dX6_keep_29 (by decide) (fun hc6 => ?_) (fun hc6 => ?_)
      · have hf := if_f hc6 hf
        exact wX6_keep_42 C    S4 x1 x2 x3  hf _ _ _ hP (lv_sub hl [0, 1, 2, 3] rfl)
      · have hf := if_t hc6 hf
        refine lv_aload_n hx hb dX6_keep_32 rfl (lv_at hl 0 rfl) ?_
        refine lv_iload_n hx hb dX6_keep_33 rfl (lv_at hl 3 rfl) ?_
        refine bd_i hf (fun v24 S24 hq24 hf => ?_)
        refine goI (runV (rest := []) (b := 0) (mX6_isLane l Γ  hq24) C hP hl.1 (by decide) mE0 rfl k5_30 qX6_isLane.1 qX6_isLane.2.1 qX6_isLane.2.2.1 qX6_isLane.2.2.2.1 rfl qX6_isLane.2.2.2.2 ⟨Nat.le_of_ble_eq_true rfl, Nat.le_of_ble_eq_true rfl⟩ ⟨Nat.le_refl 0, Nat.le_refl 0⟩ (Nat.le_of_ble_eq_true rfl) dX6_keep_34) hP (fun H locs hP => ?_)
        refine lv_if_ne (tgt := 42) hx hb dX6_keep_37 (by decide) (fun hc25 => ?_) (fun hc25 => ?_)
        · have hf := if_f hc25 hf
          exact wX6_keep_42 C    S24 x1 x2 x3  hf _ _ _ hP (lv_sub hl [0, 1, 2, 3] rfl)
        · have hf := if_t hc25 hf
          refine lv_iconst (v := (-1)) hx hb dX6_keep_40 rfl ?_
          exact r_iret (X := mE Γ) C hP hf dX6_keep_41
-- X6_narrowed
theorem qX6_narrowed : Cond.static yX6_narrowed ∈ Ub ∧ Cond.initialized RX6 ∈ Ub ∧ Cond.code yX6_narrowed cX6_narrowed 2 (some FieldType.long) ∈ Ub ∧ (yX6_narrowed.cls = RX6 ∧ yX6_narrowed.cls ≠ "java/lang/invoke/MethodHandle" ∧ yX6_narrowed.cls ≠ "java/lang/invoke/VarHandle" ∧ (parseMethodDescriptor yX6_narrowed.desc).map (fun d => d.parameters.length) = some 2) := ⟨k6_56, k1_5, k6_57, by decide +kernel⟩
def fX6_narrowed  (S : mM) (x0 : Int32) (x1 : Int32) : Option (Int64 × mM) :=
  if x1 = 0 then some (x0.toInt8.toInt32.toInt64, S) else if x1 = (nI 1) then some (x0.toInt16.toInt32.toInt64, S) else some (x0.toInt64, S)
set_option maxHeartbeats 4000000 in
set_option maxRecDepth 100000 in
theorem mX6_narrowed (l : Launch) (Γ : gG)   {S : mM} {x0 : Int32} {x1 : Int32} {rz : Int64} {Sz : mM} (hf : fX6_narrowed S x0 x1 = some (rz, Sz)) : CtL l Γ 28 yX6_narrowed cX6_narrowed 2 0 0 [.int x0, .int x1] (mE Γ S) rz (mE Γ Sz) := by
  refine met_body (Γ := Γ) (lv := [(0, .int x0), (1, .int x1)]) RX6 (by decide) rfl rfl rfl ?_
  intro p e s m below meth c H locs ls C hP hl
  obtain ⟨hx, hb, -, -, hown, hts, -, hwx, -⟩ := id C
  unfold fX6_narrowed at hf
  refine lv_iload_n hx hb dX6_narrowed_0 rfl (lv_at hl 1 rfl) ?_
  refine lv_if_ne (tgt := 10) hx hb dX6_narrowed_1 (by decide) (fun hc1 => ?_) (fun hc1 => ?_)
  · have hf := if_f hc1 hf
    refine lv_iload_n hx hb dX6_narrowed_10 rfl (lv_at hl 1 rfl) ?_
    refine lv_iconst (v := nI 1) hx hb dX6_narrowed_11 rfl ?_
    refine lv_icmp_ne (tgt := 21) hx hb dX6_narrowed_12 (by decide) (fun hc2 => ?_) (fun hc2 => ?_)
    · have hf := if_f hc2 hf
      refine lv_iload_n hx hb dX6_narrowed_21 rfl (lv_at hl 0 rfl) ?_
      refine lv_i2l (v := x0.toInt64) hx hb dX6_narrowed_22 rfl ?_
      exact r_lret (X := mE Γ) C hP hf dX6_narrowed_23
    · have hf := if_t hc2 hf
      refine lv_iload_n hx hb dX6_narrowed_15 rfl (lv_at hl 0 rfl) ?_
      refine lv_i2s (v := x0.toInt16.toInt32) hx hb dX6_narrowed_16 rfl ?_
      refine lv_i2l (v := x0.toInt16.toInt32.toInt64) hx hb dX6_narrowed_17 rfl ?_
      refine lv_goto (tgt := 23) hx hb dX6_narrowed_18 (by decide) ?_
      exact r_lret (X := mE Γ) C hP hf dX6_narrowed_23
  · have hf := if_t hc1 hf
    refine lv_iload_n hx hb dX6_narrowed_4 rfl (lv_at hl 0 rfl) ?_
    refine lv_i2b (v := x0.toInt8.toInt32) hx hb dX6_narrowed_5 rfl ?_
    refine lv_i2l (v := x0.toInt8.toInt32.toInt64) hx hb dX6_narrowed_6 rfl ?_
    refine lv_goto (tgt := 23) hx hb dX6_narrowed_7 (by decide) ?_
    exact r_lret (X := mE Γ) C hP hf dX6_narrowed_23
-- X6_row
theorem qX6_row : Cond.instanceMethod yX6_row ∈ Ub ∧ Cond.selects RX6 yX6_row yX6_row ∈ Ub ∧ Cond.initialized RX6 ∈ Ub ∧ Cond.code yX6_row cX6_row 5 (some FieldType.int) ∈ Ub ∧ (yX6_row.cls = RX6 ∧ yX6_row.cls ≠ "java/lang/invoke/MethodHandle" ∧ yX6_row.cls ≠ "java/lang/invoke/VarHandle" ∧ (parseMethodDescriptor yX6_row.desc).map (fun d => d.parameters.length) = some 3) := ⟨k6_48, k6_49, k1_5, k6_50, by decide +kernel⟩
def fX6_row_68   : Nat → mM → Int32 → Int32 → Option (Int32 × mM)
  | 0, _, _, _ => none
  | n + 1, S, x1, x4 =>
    if (nI 100) ≤ x4 then some (nI 0, S) else gi (((nI 100) * x1) + x4) 800 (sv (mL S 26 ((((nI 100) * x1) + x4).toNatClampNeg) 0) fun S20 => ( (fX6_row_68   n) S20 x1 (x4 + (nI 1))))
set_option maxHeartbeats 4000000 in
set_option maxRecDepth 100000 in
theorem wX6_row_68 {p : Program} {l : Launch} {e : Env} {s : State} {m : MethodId} {args : Array Value} {below : List Frame} {meth : Method} {c : Code} {Γ : gG} {rz : Int32} {Sz : mM} (C : Cx Γ 28 p s m args meth c RX6 cX6_row 5 (some .int))   : ∀ n : Nat, ∀ (S : mM) (x1 : Int32) (x4 : Int32) , fX6_row_68   n S x1 x4 = some (rz, Sz) → ∀ (H : Heap) (locs : List Loc) (ls : Array Slot), St Γ 28 (mE Γ S) s.heap H locs → lv_has ls 5 [(0, .ref (Γ.2.2 (0))), (1, .int x1), (4, .int x4)] → W p l e { frames := 1, cells := 0, slots := 0, locals := 25 } s m args below meth c H locs 0 0 (MQ below (gQi Γ 28 rz (mE Γ Sz)) args s 0 0 (wA Γ 28)) (F0 m 68 ls []) := by
  obtain ⟨hx, hb, -, -, hown, hts, -, hwx, -⟩ := id C
  intro n
  induction n with
  | zero =>
    intro S x1 x4 hf
    unfold fX6_row_68 at hf
    cases hf
  | succ n ih =>
    intro S x1 x4 hf H locs ls hP hl
    unfold fX6_row_68 at hf
    refine lv_iload hx hb dX6_row_68 (lv_at hl 2 rfl) ?_
    refine lv_bipush (v := nI 100) hx hb dX6_row_70 rfl ?_
    refine lv_icmp_ge (tgt := 94) hx hb dX6_row_72 (by decide) (fun hc17 => ?_) (fun hc17 => ?_)
    · have hf := if_t hc17 hf
      refine lv_iconst (v := nI 0) hx hb dX6_row_94 rfl ?_
      exact r_iret (X := mE Γ) C hP hf dX6_row_95
    · have hf := if_f hc17 hf
      refine lv_aload_n hx hb dX6_row_75 rfl (lv_at hl 0 rfl) ?_
      refine m_get C hP 40 (by decide) k4_93 rfl (v := .ref (Γ.2.2 (26))) rfl dX6_row_76 ?_
      refine lv_bipush (v := nI 100) hx hb dX6_row_79 rfl ?_
      refine lv_iload_n hx hb dX6_row_81 rfl (lv_at hl 1 rfl) ?_
      refine lv_imul hx hb dX6_row_82 ?_
      refine lv_iload hx hb dX6_row_83 (lv_at hl 2 rfl) ?_
      refine lv_iadd hx hb dX6_row_85 ?_
      refine lv_lconst (v := 0) hx hb dX6_row_86 (by decide) ?_
      refine gi_i hf (fun hi18 hj19 hf => ?_)
      refine m_lst C hP mB_26 hi18 dX6_row_87 (fun H locs hP => ?_)
      refine sv_i hf (fun S20 e20 hf => ?_)
      rw [← e20] at hP
      refine lv_iinc (v := x4 + (nI 1)) (lv' := [(4, .int (x4 + (nI 1))), (0, .ref (Γ.2.2 (0))), (1, .int x1)]) hx hb dX6_row_88 hl (k := 2) rfl rfl (by decide) rfl (fun ls hl => ?_)
      refine lv_goto (tgt := 68) hx hb dX6_row_91 (by decide) ?_
      exact ih S20 x1 (x4 + (nI 1))  hf _ _ _ hP (lv_sub hl [1, 2, 0] rfl)
def fX6_row  (S : mM) (x1 : Int32) (x2 : Int32) (x3 : Int32) : Option (Int32 × mM) :=
  sv (mS S 0 9 (nI 0)) fun S1 => ( bd (fX6_in S1 x1.toInt64 0 7) fun v2 S2 => ( if v2 = 0 then some ((-1), S2) else bd (fX6_in S2 x2.toInt64 0 2) fun v4 S4 => ( if v4 = 0 then some ((-1), S4) else if x3 ≤ (nI 100) then if (0 : Int32) ≤ x3 then gi x1 8 (sv (mS S4 20 ((x1).toNatClampNeg) (nI 2)) fun S10 => ( gi x1 8 (sv (mS S10 24 ((x1).toNatClampNeg) x2) fun S13 => ( gi x1 8 (sv (mS S13 25 ((x1).toNatClampNeg) x3) fun S16 => ( fX6_row_68   lF S16 x1 (nI 0))))))) else some ((-14), S4) else some ((-1), S4))))
set_option maxHeartbeats 4000000 in
set_option maxRecDepth 100000 in
theorem mX6_row (l : Launch) (Γ : gG)   {S : mM} {x1 : Int32} {x2 : Int32} {x3 : Int32} {rz : Int32} {Sz : mM} (hf : fX6_row S x1 x2 x3 = some (rz, Sz)) : CtI l Γ 28 yX6_row cX6_row 5 .int 1 25 [.ref (Γ.2.2 (0)), .int x1, .int x2, .int x3] (mE Γ S) rz (mE Γ Sz) := by
  refine met_body (Γ := Γ) (lv := [(0, .ref (Γ.2.2 (0))), (1, .int x1), (2, .int x2), (3, .int x3)]) RX6 (by decide) rfl rfl rfl ?_
  intro p e s m below meth c H locs ls C hP hl
  obtain ⟨hx, hb, -, -, hown, hts, -, hwx, -⟩ := id C
  unfold fX6_row at hf
  refine lv_aload_n hx hb dX6_row_0 rfl (lv_at hl 0 rfl) ?_
  refine lv_iconst (v := nI 0) hx hb dX6_row_1 rfl ?_
  refine m_put C hP 9 (by decide) k4_62 dX6_row_2 (fun H locs hP => ?_)
  refine sv_i hf (fun S1 e1 hf => ?_)
  rw [← e1] at hP
  refine lv_iload_n hx hb dX6_row_5 rfl (lv_at hl 1 rfl) ?_
  refine lv_i2l (v := x1.toInt64) hx hb dX6_row_6 rfl ?_
  refine lv_lconst (v := 0) hx hb dX6_row_7 (by decide) ?_
  refine lv_ldc2 (v := 7) hx hb hown (hts _ k4_214) dX6_row_8 ?_
  refine bd_i hf (fun v2 S2 hq2 hf => ?_)
  refine goI (runS (rest := []) (mX6_in l Γ  hq2) C hP hl.1 k4_215 qX6_in.1 qX6_in.2.1 qX6_in.2.2.1 rfl qX6_in.2.2.2 ⟨Nat.le_of_ble_eq_true rfl, Nat.le_of_ble_eq_true rfl⟩ ⟨Nat.le_refl 0, Nat.le_refl 0⟩ (Nat.le_of_ble_eq_true rfl) dX6_row_11) hP (fun H locs hP => ?_)
  refine lv_if_eq (tgt := 35) hx hb dX6_row_14 (by decide) (fun hc3 => ?_) (fun hc3 => ?_)
  · have hf := if_t hc3 hf
    refine lv_iconst (v := (-1)) hx hb dX6_row_35 rfl ?_
    exact r_iret (X := mE Γ) C hP hf dX6_row_36
  · have hf := if_f hc3 hf
    refine lv_iload_n hx hb dX6_row_17 rfl (lv_at hl 2 rfl) ?_
    refine lv_i2l (v := x2.toInt64) hx hb dX6_row_18 rfl ?_
    refine lv_lconst (v := 0) hx hb dX6_row_19 (by decide) ?_
    refine lv_ldc2 (v := 2) hx hb hown (hts _ k5_204) dX6_row_20 ?_
    refine bd_i hf (fun v4 S4 hq4 hf => ?_)
    refine goI (runS (rest := []) (mX6_in l Γ  hq4) C hP hl.1 k4_215 qX6_in.1 qX6_in.2.1 qX6_in.2.2.1 rfl qX6_in.2.2.2 ⟨Nat.le_of_ble_eq_true rfl, Nat.le_of_ble_eq_true rfl⟩ ⟨Nat.le_refl 0, Nat.le_refl 0⟩ (Nat.le_of_ble_eq_true rfl) dX6_row_23) hP (fun H locs hP => ?_)
    refine lv_if_eq (tgt := 35) hx hb dX6_row_26 (by decide) (fun hc5 => ?_) (fun hc5 => ?_)
    · have hf := if_t hc5 hf
      refine lv_iconst (v := (-1)) hx hb dX6_row_35 rfl ?_
      exact r_iret (X := mE Γ) C hP hf dX6_row_36
    · have hf := if_f hc5 hf
      refine lv_iload_n hx hb dX6_row_29 rfl (lv_at hl 3 rfl) ?_
      refine lv_bipush (v := nI 100) hx hb dX6_row_30 rfl ?_
      refine lv_icmp_le (tgt := 37) hx hb dX6_row_32 (by decide) (fun hc6 => ?_) (fun hc6 => ?_)
      · have hf := if_t hc6 hf
        refine lv_iload_n hx hb dX6_row_37 rfl (lv_at hl 3 rfl) ?_
        refine lv_if_ge (tgt := 44) hx hb dX6_row_38 (by decide) (fun hc7 => ?_) (fun hc7 => ?_)
        · have hf := if_t hc7 hf
          refine lv_aload_n hx hb dX6_row_44 rfl (lv_at hl 0 rfl) ?_
          refine m_get C hP 34 (by decide) k4_87 rfl (v := .ref (Γ.2.2 (20))) rfl dX6_row_45 ?_
          refine lv_iload_n hx hb dX6_row_48 rfl (lv_at hl 1 rfl) ?_
          refine lv_iconst (v := nI 2) hx hb dX6_row_49 rfl ?_
          refine gi_i hf (fun hi8 hj9 hf => ?_)
          refine m_ist C hP mA_20 hi8 dX6_row_50 (fun H locs hP => ?_)
          refine sv_i hf (fun S10 e10 hf => ?_)
          rw [← e10] at hP
          refine lv_aload_n hx hb dX6_row_51 rfl (lv_at hl 0 rfl) ?_
          refine m_get C hP 38 (by decide) k4_91 rfl (v := .ref (Γ.2.2 (24))) rfl dX6_row_52 ?_
          refine lv_iload_n hx hb dX6_row_55 rfl (lv_at hl 1 rfl) ?_
          refine lv_iload_n hx hb dX6_row_56 rfl (lv_at hl 2 rfl) ?_
          refine gi_i hf (fun hi11 hj12 hf => ?_)
          refine m_ist C hP mA_24 hi11 dX6_row_57 (fun H locs hP => ?_)
          refine sv_i hf (fun S13 e13 hf => ?_)
          rw [← e13] at hP
          refine lv_aload_n hx hb dX6_row_58 rfl (lv_at hl 0 rfl) ?_
          refine m_get C hP 39 (by decide) k4_92 rfl (v := .ref (Γ.2.2 (25))) rfl dX6_row_59 ?_
          refine lv_iload_n hx hb dX6_row_62 rfl (lv_at hl 1 rfl) ?_
          refine lv_iload_n hx hb dX6_row_63 rfl (lv_at hl 3 rfl) ?_
          refine gi_i hf (fun hi14 hj15 hf => ?_)
          refine m_ist C hP mA_25 hi14 dX6_row_64 (fun H locs hP => ?_)
          refine sv_i hf (fun S16 e16 hf => ?_)
          rw [← e16] at hP
          refine lv_iconst (v := nI 0) hx hb dX6_row_65 rfl ?_
          refine lv_istore (lv' := [(4, .int (nI 0)), (0, .ref (Γ.2.2 (0))), (1, .int x1), (2, .int x2), (3, .int x3)]) hx hb dX6_row_66 hl (by decide) rfl (fun ls hl => ?_)
          exact wX6_row_68 C   lF S16 x1 (nI 0)  hf _ _ _ hP (lv_sub hl [1, 2, 0] rfl)
        · have hf := if_f hc7 hf
          refine lv_bipush (v := (-14)) hx hb dX6_row_41 rfl ?_
          exact r_iret (X := mE Γ) C hP hf dX6_row_43
      · have hf := if_f hc6 hf
        refine lv_iconst (v := (-1)) hx hb dX6_row_35 rfl ?_
        exact r_iret (X := mE Γ) C hP hf dX6_row_36
-- X6_put
theorem qX6_put : Cond.instanceMethod yX6_put ∈ Ub ∧ Cond.selects RX6 yX6_put yX6_put ∈ Ub ∧ Cond.initialized RX6 ∈ Ub ∧ Cond.code yX6_put cX6_put 5 (some FieldType.int) ∈ Ub ∧ (yX6_put.cls = RX6 ∧ yX6_put.cls ≠ "java/lang/invoke/MethodHandle" ∧ yX6_put.cls ≠ "java/lang/invoke/VarHandle" ∧ (parseMethodDescriptor yX6_put.desc).map (fun d => d.parameters.length) = some 3) := ⟨k6_52, k6_53, k1_5, k6_54, by decide +kernel⟩
def fX6_put  (S : mM) (x1 : Int32) (x2 : Int32) (x3 : Int32) : Option (Int32 × mM) :=
  sv (mS S 0 9 (nI 0)) fun S1 => ( bd (fX6_wrongRow S1 x1) fun v2 S2 => ( if (0 : Int32) ≤ v2 then gi x1 8 (bd (fX6_in S2 x2.toInt64 0 (((S2.1 25 (x1).toNatClampNeg) - (nI 1)).toInt64)) fun v6 S6 => ( if v6 = 0 then some ((-13), S6) else gi x1 8 (bd (fX6_narrowed S6 x3 (S6.1 24 (x1).toNatClampNeg)) fun v10 S10 => ( gi (((nI 100) * x1) + x2) 800 (sv (mL S10 26 ((((nI 100) * x1) + x2).toNatClampNeg) v10) fun S13 => ( some (nI 0, S13))))))) else some (v2, S2)))
set_option maxHeartbeats 4000000 in
set_option maxRecDepth 100000 in
theorem mX6_put (l : Launch) (Γ : gG)   {S : mM} {x1 : Int32} {x2 : Int32} {x3 : Int32} {rz : Int32} {Sz : mM} (hf : fX6_put S x1 x2 x3 = some (rz, Sz)) : CtI l Γ 28 yX6_put cX6_put 5 .int 2 46 [.ref (Γ.2.2 (0)), .int x1, .int x2, .int x3] (mE Γ S) rz (mE Γ Sz) := by
  refine met_body (Γ := Γ) (lv := [(0, .ref (Γ.2.2 (0))), (1, .int x1), (2, .int x2), (3, .int x3)]) RX6 (by decide) rfl rfl rfl ?_
  intro p e s m below meth c H locs ls C hP hl
  obtain ⟨hx, hb, -, -, hown, hts, -, hwx, -⟩ := id C
  unfold fX6_put at hf
  refine lv_aload_n hx hb dX6_put_0 rfl (lv_at hl 0 rfl) ?_
  refine lv_iconst (v := nI 0) hx hb dX6_put_1 rfl ?_
  refine m_put C hP 9 (by decide) k4_62 dX6_put_2 (fun H locs hP => ?_)
  refine sv_i hf (fun S1 e1 hf => ?_)
  rw [← e1] at hP
  refine lv_aload_n hx hb dX6_put_5 rfl (lv_at hl 0 rfl) ?_
  refine lv_iload_n hx hb dX6_put_6 rfl (lv_at hl 1 rfl) ?_
  refine bd_i hf (fun v2 S2 hq2 hf => ?_)
  refine goI (runV (rest := []) (b := 0) (mX6_wrongRow l Γ  hq2) C hP hl.1 (by decide) mE0 rfl k4_210 qX6_wrongRow.1 qX6_wrongRow.2.1 qX6_wrongRow.2.2.1 qX6_wrongRow.2.2.2.1 rfl qX6_wrongRow.2.2.2.2 ⟨Nat.le_of_ble_eq_true rfl, Nat.le_of_ble_eq_true rfl⟩ ⟨Nat.le_refl 0, Nat.le_refl 0⟩ (Nat.le_of_ble_eq_true rfl) dX6_put_7) hP (fun H locs hP => ?_)
  refine lv_istore (lv' := [(4, .int v2), (0, .ref (Γ.2.2 (0))), (1, .int x1), (2, .int x2), (3, .int x3)]) hx hb dX6_put_10 hl (by decide) rfl (fun ls hl => ?_)
  refine lv_iload hx hb dX6_put_12 (lv_at hl 0 rfl) ?_
  refine lv_if_ge (tgt := 20) hx hb dX6_put_14 (by decide) (fun hc3 => ?_) (fun hc3 => ?_)
  · have hf := if_t hc3 hf
    refine lv_iload_n hx hb dX6_put_20 rfl (lv_at hl 3 rfl) ?_
    refine lv_i2l (v := x2.toInt64) hx hb dX6_put_21 rfl ?_
    refine lv_lconst (v := 0) hx hb dX6_put_22 (by decide) ?_
    refine lv_aload_n hx hb dX6_put_23 rfl (lv_at hl 1 rfl) ?_
    refine m_get C hP 39 (by decide) k4_92 rfl (v := .ref (Γ.2.2 (25))) rfl dX6_put_24 ?_
    refine lv_iload_n hx hb dX6_put_27 rfl (lv_at hl 2 rfl) ?_
    refine gi_i hf (fun hi4 hj5 hf => ?_)
    refine m_ild C hP mA_25 hi4 dX6_put_28 ?_
    refine lv_iconst (v := nI 1) hx hb dX6_put_29 rfl ?_
    refine lv_isub hx hb dX6_put_30 ?_
    refine lv_i2l (v := ((S2.1 25 (x1).toNatClampNeg) - (nI 1)).toInt64) hx hb dX6_put_31 rfl ?_
    refine bd_i hf (fun v6 S6 hq6 hf => ?_)
    refine goI (runS (rest := []) (mX6_in l Γ  hq6) C hP hl.1 k4_215 qX6_in.1 qX6_in.2.1 qX6_in.2.2.1 rfl qX6_in.2.2.2 ⟨Nat.le_of_ble_eq_true rfl, Nat.le_of_ble_eq_true rfl⟩ ⟨Nat.le_refl 0, Nat.le_refl 0⟩ (Nat.le_of_ble_eq_true rfl) dX6_put_32) hP (fun H locs hP => ?_)
    refine lv_if_ne (tgt := 41) hx hb dX6_put_35 (by decide) (fun hc7 => ?_) (fun hc7 => ?_)
    · have hf := if_f hc7 hf
      refine lv_aload_n hx hb dX6_put_41 rfl (lv_at hl 1 rfl) ?_
      refine m_get C hP 40 (by decide) k4_93 rfl (v := .ref (Γ.2.2 (26))) rfl dX6_put_42 ?_
      refine lv_bipush (v := nI 100) hx hb dX6_put_45 rfl ?_
      refine lv_iload_n hx hb dX6_put_47 rfl (lv_at hl 2 rfl) ?_
      refine lv_imul hx hb dX6_put_48 ?_
      refine lv_iload_n hx hb dX6_put_49 rfl (lv_at hl 3 rfl) ?_
      refine lv_iadd hx hb dX6_put_50 ?_
      refine lv_iload_n hx hb dX6_put_51 rfl (lv_at hl 4 rfl) ?_
      refine lv_aload_n hx hb dX6_put_52 rfl (lv_at hl 1 rfl) ?_
      refine m_get C hP 38 (by decide) k4_91 rfl (v := .ref (Γ.2.2 (24))) rfl dX6_put_53 ?_
      refine lv_iload_n hx hb dX6_put_56 rfl (lv_at hl 2 rfl) ?_
      refine gi_i hf (fun hi8 hj9 hf => ?_)
      refine m_ild C hP mA_24 hi8 dX6_put_57 ?_
      refine bd_i hf (fun v10 S10 hq10 hf => ?_)
      refine goL (runS (rest := [.int (((nI 100) * x1) + x2), .ref (Γ.2.2 (26))]) (mX6_narrowed l Γ  hq10) C hP hl.1 k6_55 qX6_narrowed.1 qX6_narrowed.2.1 qX6_narrowed.2.2.1 rfl qX6_narrowed.2.2.2 ⟨Nat.le_of_ble_eq_true rfl, Nat.le_of_ble_eq_true rfl⟩ ⟨Nat.le_refl 0, Nat.le_refl 0⟩ (Nat.le_of_ble_eq_true rfl) dX6_put_58) hP (fun H locs hP => ?_)
      refine gi_i hf (fun hi11 hj12 hf => ?_)
      refine m_lst C hP mB_26 hi11 dX6_put_61 (fun H locs hP => ?_)
      refine sv_i hf (fun S13 e13 hf => ?_)
      rw [← e13] at hP
      refine lv_iconst (v := nI 0) hx hb dX6_put_62 rfl ?_
      exact r_iret (X := mE Γ) C hP hf dX6_put_63
    · have hf := if_t hc7 hf
      refine lv_bipush (v := (-13)) hx hb dX6_put_38 rfl ?_
      exact r_iret (X := mE Γ) C hP hf dX6_put_40
  · have hf := if_f hc3 hf
    refine lv_iload hx hb dX6_put_17 (lv_at hl 0 rfl) ?_
    exact r_iret (X := mE Γ) C hP hf dX6_put_19
-- X6_element
theorem qX6_element : Cond.instanceMethod yX6_element ∈ Ub ∧ Cond.selects RX6 yX6_element yX6_element ∈ Ub ∧ Cond.initialized RX6 ∈ Ub ∧ Cond.code yX6_element cX6_element 4 (some FieldType.long) ∈ Ub ∧ (yX6_element.cls = RX6 ∧ yX6_element.cls ≠ "java/lang/invoke/MethodHandle" ∧ yX6_element.cls ≠ "java/lang/invoke/VarHandle" ∧ (parseMethodDescriptor yX6_element.desc).map (fun d => d.parameters.length) = some 2) := ⟨k6_59, k6_60, k1_5, k6_61, by decide +kernel⟩
def fX6_element_43   (S : mM) (x1 : Int32) (x2 : Int32) (y1 : Int32) : Option (Int64 × mM) :=
  sv (mS S 0 9 y1) fun S4 => ( if (S4.1 0 9) ≤ 0 then gi (((nI 100) * x1) + x2) 800 (some (S4.2.1 26 (((nI 100) * x1) + x2).toNatClampNeg, S4)) else some (0, S4))
set_option maxHeartbeats 4000000 in
set_option maxRecDepth 100000 in
theorem wX6_element_43 {p : Program} {l : Launch} {e : Env} {s : State} {m : MethodId} {args : Array Value} {below : List Frame} {meth : Method} {c : Code} {Γ : gG} {rz : Int64} {Sz : mM} (C : Cx Γ 28 p s m args meth c RX6 cX6_element 4 (some .long))   : ∀ (S : mM) (x1 : Int32) (x2 : Int32) (y1 : Int32) , fX6_element_43   S x1 x2 y1 = some (rz, Sz) → ∀ (H : Heap) (locs : List Loc) (ls : Array Slot), St Γ 28 (mE Γ S) s.heap H locs → lv_has ls 4 [(0, .ref (Γ.2.2 (0))), (1, .int x1), (2, .int x2)] → W p l e { frames := 2, cells := 0, slots := 0, locals := 46 } s m args below meth c H locs 0 0 (MQ below (gQl Γ 28 rz (mE Γ Sz)) args s 0 0 (wA Γ 28)) (F0 m 43 ls [.int y1, .ref (Γ.2.2 (0))]) := by
  obtain ⟨hx, hb, -, -, hown, hts, -, hwx, -⟩ := id C
  intro S x1 x2 y1 hf H locs ls hP hl
  unfold fX6_element_43 at hf
  refine m_put C hP 9 (by decide) k4_62 dX6_element_43 (fun H locs hP => ?_)
  refine sv_i hf (fun S4 e4 hf => ?_)
  rw [← e4] at hP
  refine lv_aload_n hx hb dX6_element_46 rfl (lv_at hl 0 rfl) ?_
  refine m_get C hP 9 (by decide) k4_62 rfl (v := .int (S4.1 0 9)) rfl dX6_element_47 ?_
  refine lv_if_le (tgt := 57) hx hb dX6_element_50 (by decide) (fun hc5 => ?_) (fun hc5 => ?_)
  · have hf := if_t hc5 hf
    refine lv_aload_n hx hb dX6_element_57 rfl (lv_at hl 0 rfl) ?_
    refine m_get C hP 40 (by decide) k4_93 rfl (v := .ref (Γ.2.2 (26))) rfl dX6_element_58 ?_
    refine lv_bipush (v := nI 100) hx hb dX6_element_61 rfl ?_
    refine lv_iload_n hx hb dX6_element_63 rfl (lv_at hl 1 rfl) ?_
    refine lv_imul hx hb dX6_element_64 ?_
    refine lv_iload_n hx hb dX6_element_65 rfl (lv_at hl 2 rfl) ?_
    refine lv_iadd hx hb dX6_element_66 ?_
    refine gi_i hf (fun hi6 hj7 hf => ?_)
    refine m_lld C hP mB_26 hi6 dX6_element_67 ?_
    exact r_lret (X := mE Γ) C hP hf dX6_element_68
  · have hf := if_f hc5 hf
    refine lv_lconst (v := 0) hx hb dX6_element_53 (by decide) ?_
    refine lv_goto (tgt := 68) hx hb dX6_element_54 (by decide) ?_
    exact r_lret (X := mE Γ) C hP hf dX6_element_68
def fX6_element_38   (S : mM) (x1 : Int32) (x2 : Int32) : Option (Int64 × mM) :=
  fX6_element_43    S x1 x2 (nI 2)
set_option maxHeartbeats 4000000 in
set_option maxRecDepth 100000 in
theorem wX6_element_38 {p : Program} {l : Launch} {e : Env} {s : State} {m : MethodId} {args : Array Value} {below : List Frame} {meth : Method} {c : Code} {Γ : gG} {rz : Int64} {Sz : mM} (C : Cx Γ 28 p s m args meth c RX6 cX6_element 4 (some .long))   : ∀ (S : mM) (x1 : Int32) (x2 : Int32) , fX6_element_38   S x1 x2 = some (rz, Sz) → ∀ (H : Heap) (locs : List Loc) (ls : Array Slot), St Γ 28 (mE Γ S) s.heap H locs → lv_has ls 4 [(0, .ref (Γ.2.2 (0))), (1, .int x1), (2, .int x2)] → W p l e { frames := 2, cells := 0, slots := 0, locals := 46 } s m args below meth c H locs 0 0 (MQ below (gQl Γ 28 rz (mE Γ Sz)) args s 0 0 (wA Γ 28)) (F0 m 38 ls [.ref (Γ.2.2 (0))]) := by
  obtain ⟨hx, hb, -, -, hown, hts, -, hwx, -⟩ := id C
  intro S x1 x2 hf H locs ls hP hl
  unfold fX6_element_38 at hf
  refine lv_iconst (v := nI 2) hx hb dX6_element_38 rfl ?_
  refine lv_goto (tgt := 43) hx hb dX6_element_39 (by decide) ?_
  exact wX6_element_43 C    S x1 x2 (nI 2)  hf _ _ _ hP (lv_sub hl [0, 1, 2] rfl)
def fX6_element  (S : mM) (x1 : Int32) (x2 : Int32) : Option (Int64 × mM) :=
  bd (fX6_wrongRow S x1) fun v1 S1 => ( if v1 = (-1) then fX6_element_43    S1 x1 x2 (nI 1) else if v1 < 0 then fX6_element_38    S1 x1 x2 else gi x1 8 (bd (fX6_in S1 x2.toInt64 0 (((S1.1 25 (x1).toNatClampNeg) - (nI 1)).toInt64)) fun v10 S10 => ( if v10 = 0 then fX6_element_38    S10 x1 x2 else fX6_element_43    S10 x1 x2 (nI 0))))
set_option maxHeartbeats 4000000 in
set_option maxRecDepth 100000 in
theorem mX6_element (l : Launch) (Γ : gG)   {S : mM} {x1 : Int32} {x2 : Int32} {rz : Int64} {Sz : mM} (hf : fX6_element S x1 x2 = some (rz, Sz)) : CtL l Γ 28 yX6_element cX6_element 4 2 46 [.ref (Γ.2.2 (0)), .int x1, .int x2] (mE Γ S) rz (mE Γ Sz) := by
  refine met_body (Γ := Γ) (lv := [(0, .ref (Γ.2.2 (0))), (1, .int x1), (2, .int x2)]) RX6 (by decide) rfl rfl rfl ?_
  intro p e s m below meth c H locs ls C hP hl
  obtain ⟨hx, hb, -, -, hown, hts, -, hwx, -⟩ := id C
  unfold fX6_element at hf
  refine lv_aload_n hx hb dX6_element_0 rfl (lv_at hl 0 rfl) ?_
  refine lv_iload_n hx hb dX6_element_1 rfl (lv_at hl 1 rfl) ?_
  refine bd_i hf (fun v1 S1 hq1 hf => ?_)
  refine goI (runV (rest := []) (b := 0) (mX6_wrongRow l Γ  hq1) C hP hl.1 (by decide) mE0 rfl k4_210 qX6_wrongRow.1 qX6_wrongRow.2.1 qX6_wrongRow.2.2.1 qX6_wrongRow.2.2.2.1 rfl qX6_wrongRow.2.2.2.2 ⟨Nat.le_of_ble_eq_true rfl, Nat.le_of_ble_eq_true rfl⟩ ⟨Nat.le_refl 0, Nat.le_refl 0⟩ (Nat.le_of_ble_eq_true rfl) dX6_element_2) hP (fun H locs hP => ?_)
  refine lv_istore_n (lv' := [(3, .int v1), (0, .ref (Γ.2.2 (0))), (1, .int x1), (2, .int x2)]) hx hb dX6_element_5 rfl hl (by decide) rfl (fun ls hl => ?_)
  refine lv_aload_n hx hb dX6_element_6 rfl (lv_at hl 1 rfl) ?_
  refine lv_iload_n hx hb dX6_element_7 rfl (lv_at hl 0 rfl) ?_
  refine lv_iconst (v := (-1)) hx hb dX6_element_8 rfl ?_
  refine lv_icmp_ne (tgt := 16) hx hb dX6_element_9 (by decide) (fun hc2 => ?_) (fun hc2 => ?_)
  · have hf := if_f hc2 hf
    refine lv_iload_n hx hb dX6_element_16 rfl (lv_at hl 0 rfl) ?_
    refine lv_if_lt (tgt := 38) hx hb dX6_element_17 (by decide) (fun hc3 => ?_) (fun hc3 => ?_)
    · have hf := if_t hc3 hf
      exact wX6_element_38 C    S1 x1 x2  hf _ _ _ hP (lv_sub hl [1, 2, 3] rfl)
    · have hf := if_f hc3 hf
      refine lv_iload_n hx hb dX6_element_20 rfl (lv_at hl 3 rfl) ?_
      refine lv_i2l (v := x2.toInt64) hx hb dX6_element_21 rfl ?_
      refine lv_lconst (v := 0) hx hb dX6_element_22 (by decide) ?_
      refine lv_aload_n hx hb dX6_element_23 rfl (lv_at hl 1 rfl) ?_
      refine m_get C hP 39 (by decide) k4_92 rfl (v := .ref (Γ.2.2 (25))) rfl dX6_element_24 ?_
      refine lv_iload_n hx hb dX6_element_27 rfl (lv_at hl 2 rfl) ?_
      refine gi_i hf (fun hi8 hj9 hf => ?_)
      refine m_ild C hP mA_25 hi8 dX6_element_28 ?_
      refine lv_iconst (v := nI 1) hx hb dX6_element_29 rfl ?_
      refine lv_isub hx hb dX6_element_30 ?_
      refine lv_i2l (v := ((S1.1 25 (x1).toNatClampNeg) - (nI 1)).toInt64) hx hb dX6_element_31 rfl ?_
      refine bd_i hf (fun v10 S10 hq10 hf => ?_)
      refine goI (runS (rest := [.ref (Γ.2.2 (0))]) (mX6_in l Γ  hq10) C hP hl.1 k4_215 qX6_in.1 qX6_in.2.1 qX6_in.2.2.1 rfl qX6_in.2.2.2 ⟨Nat.le_of_ble_eq_true rfl, Nat.le_of_ble_eq_true rfl⟩ ⟨Nat.le_refl 0, Nat.le_refl 0⟩ (Nat.le_of_ble_eq_true rfl) dX6_element_32) hP (fun H locs hP => ?_)
      refine lv_if_ne (tgt := 42) hx hb dX6_element_35 (by decide) (fun hc11 => ?_) (fun hc11 => ?_)
      · have hf := if_f hc11 hf
        refine lv_iconst (v := nI 0) hx hb dX6_element_42 rfl ?_
        exact wX6_element_43 C    S10 x1 x2 (nI 0)  hf _ _ _ hP (lv_sub hl [1, 2, 3] rfl)
      · have hf := if_t hc11 hf
        exact wX6_element_38 C    S10 x1 x2  hf _ _ _ hP (lv_sub hl [1, 2, 3] rfl)
  · have hf := if_t hc2 hf
    refine lv_iconst (v := nI 1) hx hb dX6_element_12 rfl ?_
    refine lv_goto (tgt := 43) hx hb dX6_element_13 (by decide) ?_
    exact wX6_element_43 C    S1 x1 x2 (nI 1)  hf _ _ _ hP (lv_sub hl [1, 2, 3] rfl)
-- X6_copy
theorem qX6_copy : Cond.instanceMethod yX6_copy ∈ Ub ∧ Cond.selects RX6 yX6_copy yX6_copy ∈ Ub ∧ Cond.initialized RX6 ∈ Ub ∧ Cond.code yX6_copy cX6_copy 7 (some FieldType.int) ∈ Ub ∧ (yX6_copy.cls = RX6 ∧ yX6_copy.cls ≠ "java/lang/invoke/MethodHandle" ∧ yX6_copy.cls ≠ "java/lang/invoke/VarHandle" ∧ (parseMethodDescriptor yX6_copy.desc).map (fun d => d.parameters.length) = some 5) := ⟨k6_63, k6_64, k1_5, k6_65, by decide +kernel⟩
def fX6_copy_174   : Nat → mM → Int32 → Int32 → Int32 → Int32 → Option (Int32 × mM)
  | 0, _, _, _, _, _ => none
  | n + 1, S, x3, x4, x5, x6 =>
    if x5 ≤ x6 then some (x5, S) else gi x6 100 (gi ((((nI 100) * x3) + x4) + x6) 800 (sv (mL S 26 (((((nI 100) * x3) + x4) + x6).toNatClampNeg) (S.2.1 27 (x6).toNatClampNeg)) fun S38 => ( (fX6_copy_174   n) S38 x3 x4 x5 (x6 + (nI 1)))))
set_option maxHeartbeats 4000000 in
set_option maxRecDepth 100000 in
theorem wX6_copy_174 {p : Program} {l : Launch} {e : Env} {s : State} {m : MethodId} {args : Array Value} {below : List Frame} {meth : Method} {c : Code} {Γ : gG} {rz : Int32} {Sz : mM} (C : Cx Γ 28 p s m args meth c RX6 cX6_copy 7 (some .int))   : ∀ n : Nat, ∀ (S : mM) (x3 : Int32) (x4 : Int32) (x5 : Int32) (x6 : Int32) , fX6_copy_174   n S x3 x4 x5 x6 = some (rz, Sz) → ∀ (H : Heap) (locs : List Loc) (ls : Array Slot), St Γ 28 (mE Γ S) s.heap H locs → lv_has ls 7 [(0, .ref (Γ.2.2 (0))), (3, .int x3), (4, .int x4), (5, .int x5), (6, .int x6)] → W p l e { frames := 1, cells := 0, slots := 0, locals := 25 } s m args below meth c H locs 0 0 (MQ below (gQi Γ 28 rz (mE Γ Sz)) args s 0 0 (wA Γ 28)) (F0 m 174 ls []) := by
  obtain ⟨hx, hb, -, -, hown, hts, -, hwx, -⟩ := id C
  intro n
  induction n with
  | zero =>
    intro S x3 x4 x5 x6 hf
    unfold fX6_copy_174 at hf
    cases hf
  | succ n ih =>
    intro S x3 x4 x5 x6 hf H locs ls hP hl
    unfold fX6_copy_174 at hf
    refine lv_iload hx hb dX6_copy_174 (lv_at hl 4 rfl) ?_
    refine lv_iload hx hb dX6_copy_176 (lv_at hl 3 rfl) ?_
    refine lv_icmp_ge (tgt := 209) hx hb dX6_copy_178 (by decide) (fun hc33 => ?_) (fun hc33 => ?_)
    · have hf := if_t hc33 hf
      refine lv_iload hx hb dX6_copy_209 (lv_at hl 3 rfl) ?_
      exact r_iret (X := mE Γ) C hP hf dX6_copy_211
    · have hf := if_f hc33 hf
      refine lv_aload_n hx hb dX6_copy_181 rfl (lv_at hl 0 rfl) ?_
      refine m_get C hP 40 (by decide) k4_93 rfl (v := .ref (Γ.2.2 (26))) rfl dX6_copy_182 ?_
      refine lv_bipush (v := nI 100) hx hb dX6_copy_185 rfl ?_
      refine lv_iload_n hx hb dX6_copy_187 rfl (lv_at hl 1 rfl) ?_
      refine lv_imul hx hb dX6_copy_188 ?_
      refine lv_iload hx hb dX6_copy_189 (lv_at hl 2 rfl) ?_
      refine lv_iadd hx hb dX6_copy_191 ?_
      refine lv_iload hx hb dX6_copy_192 (lv_at hl 4 rfl) ?_
      refine lv_iadd hx hb dX6_copy_194 ?_
      refine lv_aload_n hx hb dX6_copy_195 rfl (lv_at hl 0 rfl) ?_
      refine m_get C hP 41 (by decide) k4_94 rfl (v := .ref (Γ.2.2 (27))) rfl dX6_copy_196 ?_
      refine lv_iload hx hb dX6_copy_199 (lv_at hl 4 rfl) ?_
      refine gi_i hf (fun hi34 hj35 hf => ?_)
      refine m_lld C hP mB_27 hi34 dX6_copy_201 ?_
      refine gi_i hf (fun hi36 hj37 hf => ?_)
      refine m_lst C hP mB_26 hi36 dX6_copy_202 (fun H locs hP => ?_)
      refine sv_i hf (fun S38 e38 hf => ?_)
      rw [← e38] at hP
      refine lv_iinc (v := x6 + (nI 1)) (lv' := [(6, .int (x6 + (nI 1))), (0, .ref (Γ.2.2 (0))), (3, .int x3), (4, .int x4), (5, .int x5)]) hx hb dX6_copy_203 hl (k := 4) rfl rfl (by decide) rfl (fun ls hl => ?_)
      refine lv_goto (tgt := 174) hx hb dX6_copy_206 (by decide) ?_
      exact ih S38 x3 x4 x5 (x6 + (nI 1))  hf _ _ _ hP (lv_sub hl [1, 2, 3, 4, 0] rfl)
def fX6_copy_137   : Nat → mM → Int32 → Int32 → Int32 → Int32 → Int32 → Int32 → Option (Int32 × mM)
  | 0, _, _, _, _, _, _, _ => none
  | n + 1, S, x1, x2, x3, x4, x5, x6 =>
    if x5 ≤ x6 then fX6_copy_174   lF S x3 x4 x5 (nI 0) else gi ((((nI 100) * x1) + x2) + x6) 800 (gi x6 100 (sv (mL S 27 ((x6).toNatClampNeg) (S.2.1 26 ((((nI 100) * x1) + x2) + x6).toNatClampNeg)) fun S43 => ( (fX6_copy_137   n) S43 x1 x2 x3 x4 x5 (x6 + (nI 1)))))
set_option maxHeartbeats 4000000 in
set_option maxRecDepth 100000 in
theorem wX6_copy_137 {p : Program} {l : Launch} {e : Env} {s : State} {m : MethodId} {args : Array Value} {below : List Frame} {meth : Method} {c : Code} {Γ : gG} {rz : Int32} {Sz : mM} (C : Cx Γ 28 p s m args meth c RX6 cX6_copy 7 (some .int))   : ∀ n : Nat, ∀ (S : mM) (x1 : Int32) (x2 : Int32) (x3 : Int32) (x4 : Int32) (x5 : Int32) (x6 : Int32) , fX6_copy_137   n S x1 x2 x3 x4 x5 x6 = some (rz, Sz) → ∀ (H : Heap) (locs : List Loc) (ls : Array Slot), St Γ 28 (mE Γ S) s.heap H locs → lv_has ls 7 [(0, .ref (Γ.2.2 (0))), (1, .int x1), (2, .int x2), (3, .int x3), (4, .int x4), (5, .int x5), (6, .int x6)] → W p l e { frames := 1, cells := 0, slots := 0, locals := 25 } s m args below meth c H locs 0 0 (MQ below (gQi Γ 28 rz (mE Γ Sz)) args s 0 0 (wA Γ 28)) (F0 m 137 ls []) := by
  obtain ⟨hx, hb, -, -, hown, hts, -, hwx, -⟩ := id C
  intro n
  induction n with
  | zero =>
    intro S x1 x2 x3 x4 x5 x6 hf
    unfold fX6_copy_137 at hf
    cases hf
  | succ n ih =>
    intro S x1 x2 x3 x4 x5 x6 hf H locs ls hP hl
    unfold fX6_copy_137 at hf
    refine lv_iload hx hb dX6_copy_137 (lv_at hl 6 rfl) ?_
    refine lv_iload hx hb dX6_copy_139 (lv_at hl 5 rfl) ?_
    refine lv_icmp_ge (tgt := 171) hx hb dX6_copy_141 (by decide) (fun hc32 => ?_) (fun hc32 => ?_)
    · have hf := if_t hc32 hf
      refine lv_iconst (v := nI 0) hx hb dX6_copy_171 rfl ?_
      refine lv_istore (lv' := [(6, .int (nI 0)), (0, .ref (Γ.2.2 (0))), (1, .int x1), (2, .int x2), (3, .int x3), (4, .int x4), (5, .int x5)]) hx hb dX6_copy_172 hl (by decide) rfl (fun ls hl => ?_)
      exact wX6_copy_174 C   lF S x3 x4 x5 (nI 0)  hf _ _ _ hP (lv_sub hl [1, 4, 5, 6, 0] rfl)
    · have hf := if_f hc32 hf
      refine lv_aload_n hx hb dX6_copy_144 rfl (lv_at hl 0 rfl) ?_
      refine m_get C hP 41 (by decide) k4_94 rfl (v := .ref (Γ.2.2 (27))) rfl dX6_copy_145 ?_
      refine lv_iload hx hb dX6_copy_148 (lv_at hl 6 rfl) ?_
      refine lv_aload_n hx hb dX6_copy_150 rfl (lv_at hl 0 rfl) ?_
      refine m_get C hP 40 (by decide) k4_93 rfl (v := .ref (Γ.2.2 (26))) rfl dX6_copy_151 ?_
      refine lv_bipush (v := nI 100) hx hb dX6_copy_154 rfl ?_
      refine lv_iload_n hx hb dX6_copy_156 rfl (lv_at hl 1 rfl) ?_
      refine lv_imul hx hb dX6_copy_157 ?_
      refine lv_iload_n hx hb dX6_copy_158 rfl (lv_at hl 2 rfl) ?_
      refine lv_iadd hx hb dX6_copy_159 ?_
      refine lv_iload hx hb dX6_copy_160 (lv_at hl 6 rfl) ?_
      refine lv_iadd hx hb dX6_copy_162 ?_
      refine gi_i hf (fun hi39 hj40 hf => ?_)
      refine m_lld C hP mB_26 hi39 dX6_copy_163 ?_
      refine gi_i hf (fun hi41 hj42 hf => ?_)
      refine m_lst C hP mB_27 hi41 dX6_copy_164 (fun H locs hP => ?_)
      refine sv_i hf (fun S43 e43 hf => ?_)
      rw [← e43] at hP
      refine lv_iinc (v := x6 + (nI 1)) (lv' := [(6, .int (x6 + (nI 1))), (0, .ref (Γ.2.2 (0))), (1, .int x1), (2, .int x2), (3, .int x3), (4, .int x4), (5, .int x5)]) hx hb dX6_copy_165 hl (k := 6) rfl rfl (by decide) rfl (fun ls hl => ?_)
      refine lv_goto (tgt := 137) hx hb dX6_copy_168 (by decide) ?_
      exact ih S43 x1 x2 x3 x4 x5 (x6 + (nI 1))  hf _ _ _ hP (lv_sub hl [1, 2, 3, 4, 5, 6, 0] rfl)
def fX6_copy  (S : mM) (x1 : Int32) (x2 : Int32) (x3 : Int32) (x4 : Int32) (x5 : Int32) : Option (Int32 × mM) :=
  sv (mS S 0 9 (nI 0)) fun S1 => ( bd (fX6_in S1 x1.toInt64 0 7) fun v2 S2 => ( if v2 = 0 then some ((-1), S2) else bd (fX6_in S2 x3.toInt64 0 7) fun v4 S4 => ( if v4 = 0 then some ((-1), S4) else gi x1 8 (if (S4.1 20 (x1).toNatClampNeg) = 0 then some ((-11), S4) else gi x3 8 (if (S4.1 20 (x3).toNatClampNeg) = 0 then some ((-11), S4) else gi x1 8 (if (S4.1 20 (x1).toNatClampNeg) = (nI 2) then gi x3 8 (if (S4.1 20 (x3).toNatClampNeg) = (nI 2) then gi x1 8 (gi x3 8 (if (S4.1 24 (x1).toNatClampNeg) = (S4.1 24 (x3).toNatClampNeg) then if x5 < 0 then some ((-13), S4) else if x2 < 0 then some ((-13), S4) else if x4 < 0 then some ((-13), S4) else gi x1 8 (if ((S4.1 25 (x1).toNatClampNeg) - x5) < x2 then some ((-13), S4) else gi x3 8 (if x4 ≤ ((S4.1 25 (x3).toNatClampNeg) - x5) then fX6_copy_137   lF S4 x1 x2 x3 x4 x5 (nI 0) else some ((-13), S4))) else some ((-12), S4))) else some ((-12), S4)) else some ((-12), S4)))))))
set_option maxHeartbeats 4000000 in
set_option maxRecDepth 100000 in
theorem mX6_copy (l : Launch) (Γ : gG)   {S : mM} {x1 : Int32} {x2 : Int32} {x3 : Int32} {x4 : Int32} {x5 : Int32} {rz : Int32} {Sz : mM} (hf : fX6_copy S x1 x2 x3 x4 x5 = some (rz, Sz)) : CtI l Γ 28 yX6_copy cX6_copy 7 .int 1 25 [.ref (Γ.2.2 (0)), .int x1, .int x2, .int x3, .int x4, .int x5] (mE Γ S) rz (mE Γ Sz) := by
  refine met_body (Γ := Γ) (lv := [(0, .ref (Γ.2.2 (0))), (1, .int x1), (2, .int x2), (3, .int x3), (4, .int x4), (5, .int x5)]) RX6 (by decide) rfl rfl rfl ?_
  intro p e s m below meth c H locs ls C hP hl
  obtain ⟨hx, hb, -, -, hown, hts, -, hwx, -⟩ := id C
  unfold fX6_copy at hf
  refine lv_aload_n hx hb dX6_copy_0 rfl (lv_at hl 0 rfl) ?_
  refine lv_iconst (v := nI 0) hx hb dX6_copy_1 rfl ?_
  refine m_put C hP 9 (by decide) k4_62 dX6_copy_2 (fun H locs hP => ?_)
  refine sv_i hf (fun S1 e1 hf => ?_)
  rw [← e1] at hP
  refine lv_iload_n hx hb dX6_copy_5 rfl (lv_at hl 1 rfl) ?_
  refine lv_i2l (v := x1.toInt64) hx hb dX6_copy_6 rfl ?_
  refine lv_lconst (v := 0) hx hb dX6_copy_7 (by decide) ?_
  refine lv_ldc2 (v := 7) hx hb hown (hts _ k4_214) dX6_copy_8 ?_
  refine bd_i hf (fun v2 S2 hq2 hf => ?_)
  refine goI (runS (rest := []) (mX6_in l Γ  hq2) C hP hl.1 k4_215 qX6_in.1 qX6_in.2.1 qX6_in.2.2.1 rfl qX6_in.2.2.2 ⟨Nat.le_of_ble_eq_true rfl, Nat.le_of_ble_eq_true rfl⟩ ⟨Nat.le_refl 0, Nat.le_refl 0⟩ (Nat.le_of_ble_eq_true rfl) dX6_copy_11) hP (fun H locs hP => ?_)
  refine lv_if_eq (tgt := 29) hx hb dX6_copy_14 (by decide) (fun hc3 => ?_) (fun hc3 => ?_)
  · have hf := if_t hc3 hf
    refine lv_iconst (v := (-1)) hx hb dX6_copy_29 rfl ?_
    exact r_iret (X := mE Γ) C hP hf dX6_copy_30
  · have hf := if_f hc3 hf
    refine lv_iload_n hx hb dX6_copy_17 rfl (lv_at hl 3 rfl) ?_
    refine lv_i2l (v := x3.toInt64) hx hb dX6_copy_18 rfl ?_
    refine lv_lconst (v := 0) hx hb dX6_copy_19 (by decide) ?_
    refine lv_ldc2 (v := 7) hx hb hown (hts _ k4_214) dX6_copy_20 ?_
    refine bd_i hf (fun v4 S4 hq4 hf => ?_)
    refine goI (runS (rest := []) (mX6_in l Γ  hq4) C hP hl.1 k4_215 qX6_in.1 qX6_in.2.1 qX6_in.2.2.1 rfl qX6_in.2.2.2 ⟨Nat.le_of_ble_eq_true rfl, Nat.le_of_ble_eq_true rfl⟩ ⟨Nat.le_refl 0, Nat.le_refl 0⟩ (Nat.le_of_ble_eq_true rfl) dX6_copy_23) hP (fun H locs hP => ?_)
    refine lv_if_ne (tgt := 31) hx hb dX6_copy_26 (by decide) (fun hc5 => ?_) (fun hc5 => ?_)
    · have hf := if_f hc5 hf
      refine lv_aload_n hx hb dX6_copy_31 rfl (lv_at hl 0 rfl) ?_
      refine m_get C hP 34 (by decide) k4_87 rfl (v := .ref (Γ.2.2 (20))) rfl dX6_copy_32 ?_
      refine lv_iload_n hx hb dX6_copy_35 rfl (lv_at hl 1 rfl) ?_
      refine gi_i hf (fun hi6 hj7 hf => ?_)
      refine m_ild C hP mA_20 hi6 dX6_copy_36 ?_
      refine lv_if_eq (tgt := 49) hx hb dX6_copy_37 (by decide) (fun hc8 => ?_) (fun hc8 => ?_)
      · have hf := if_t hc8 hf
        refine lv_bipush (v := (-11)) hx hb dX6_copy_49 rfl ?_
        exact r_iret (X := mE Γ) C hP hf dX6_copy_51
      · have hf := if_f hc8 hf
        refine lv_aload_n hx hb dX6_copy_40 rfl (lv_at hl 0 rfl) ?_
        refine m_get C hP 34 (by decide) k4_87 rfl (v := .ref (Γ.2.2 (20))) rfl dX6_copy_41 ?_
        refine lv_iload_n hx hb dX6_copy_44 rfl (lv_at hl 3 rfl) ?_
        refine gi_i hf (fun hi9 hj10 hf => ?_)
        refine m_ild C hP mA_20 hi9 dX6_copy_45 ?_
        refine lv_if_ne (tgt := 52) hx hb dX6_copy_46 (by decide) (fun hc11 => ?_) (fun hc11 => ?_)
        · have hf := if_f hc11 hf
          refine lv_aload_n hx hb dX6_copy_52 rfl (lv_at hl 0 rfl) ?_
          refine m_get C hP 34 (by decide) k4_87 rfl (v := .ref (Γ.2.2 (20))) rfl dX6_copy_53 ?_
          refine lv_iload_n hx hb dX6_copy_56 rfl (lv_at hl 1 rfl) ?_
          refine gi_i hf (fun hi12 hj13 hf => ?_)
          refine m_ild C hP mA_20 hi12 dX6_copy_57 ?_
          refine lv_iconst (v := nI 2) hx hb dX6_copy_58 rfl ?_
          refine lv_icmp_ne (tgt := 87) hx hb dX6_copy_59 (by decide) (fun hc14 => ?_) (fun hc14 => ?_)
          · have hf := if_f hc14 hf
            refine lv_bipush (v := (-12)) hx hb dX6_copy_87 rfl ?_
            exact r_iret (X := mE Γ) C hP hf dX6_copy_89
          · have hf := if_t hc14 hf
            refine lv_aload_n hx hb dX6_copy_62 rfl (lv_at hl 0 rfl) ?_
            refine m_get C hP 34 (by decide) k4_87 rfl (v := .ref (Γ.2.2 (20))) rfl dX6_copy_63 ?_
            refine lv_iload_n hx hb dX6_copy_66 rfl (lv_at hl 3 rfl) ?_
            refine gi_i hf (fun hi15 hj16 hf => ?_)
            refine m_ild C hP mA_20 hi15 dX6_copy_67 ?_
            refine lv_iconst (v := nI 2) hx hb dX6_copy_68 rfl ?_
            refine lv_icmp_ne (tgt := 87) hx hb dX6_copy_69 (by decide) (fun hc17 => ?_) (fun hc17 => ?_)
            · have hf := if_f hc17 hf
              refine lv_bipush (v := (-12)) hx hb dX6_copy_87 rfl ?_
              exact r_iret (X := mE Γ) C hP hf dX6_copy_89
            · have hf := if_t hc17 hf
              refine lv_aload_n hx hb dX6_copy_72 rfl (lv_at hl 0 rfl) ?_
              refine m_get C hP 38 (by decide) k4_91 rfl (v := .ref (Γ.2.2 (24))) rfl dX6_copy_73 ?_
              refine lv_iload_n hx hb dX6_copy_76 rfl (lv_at hl 1 rfl) ?_
              refine gi_i hf (fun hi18 hj19 hf => ?_)
              refine m_ild C hP mA_24 hi18 dX6_copy_77 ?_
              refine lv_aload_n hx hb dX6_copy_78 rfl (lv_at hl 0 rfl) ?_
              refine m_get C hP 38 (by decide) k4_91 rfl (v := .ref (Γ.2.2 (24))) rfl dX6_copy_79 ?_
              refine lv_iload_n hx hb dX6_copy_82 rfl (lv_at hl 3 rfl) ?_
              refine gi_i hf (fun hi20 hj21 hf => ?_)
              refine m_ild C hP mA_24 hi20 dX6_copy_83 ?_
              refine lv_icmp_eq (tgt := 90) hx hb dX6_copy_84 (by decide) (fun hc22 => ?_) (fun hc22 => ?_)
              · have hf := if_t hc22 hf
                refine lv_iload hx hb dX6_copy_90 (lv_at hl 5 rfl) ?_
                refine lv_if_lt (tgt := 131) hx hb dX6_copy_92 (by decide) (fun hc23 => ?_) (fun hc23 => ?_)
                · have hf := if_t hc23 hf
                  refine lv_bipush (v := (-13)) hx hb dX6_copy_131 rfl ?_
                  exact r_iret (X := mE Γ) C hP hf dX6_copy_133
                · have hf := if_f hc23 hf
                  refine lv_iload_n hx hb dX6_copy_95 rfl (lv_at hl 2 rfl) ?_
                  refine lv_if_lt (tgt := 131) hx hb dX6_copy_96 (by decide) (fun hc24 => ?_) (fun hc24 => ?_)
                  · have hf := if_t hc24 hf
                    refine lv_bipush (v := (-13)) hx hb dX6_copy_131 rfl ?_
                    exact r_iret (X := mE Γ) C hP hf dX6_copy_133
                  · have hf := if_f hc24 hf
                    refine lv_iload hx hb dX6_copy_99 (lv_at hl 4 rfl) ?_
                    refine lv_if_lt (tgt := 131) hx hb dX6_copy_101 (by decide) (fun hc25 => ?_) (fun hc25 => ?_)
                    · have hf := if_t hc25 hf
                      refine lv_bipush (v := (-13)) hx hb dX6_copy_131 rfl ?_
                      exact r_iret (X := mE Γ) C hP hf dX6_copy_133
                    · have hf := if_f hc25 hf
                      refine lv_iload_n hx hb dX6_copy_104 rfl (lv_at hl 2 rfl) ?_
                      refine lv_aload_n hx hb dX6_copy_105 rfl (lv_at hl 0 rfl) ?_
                      refine m_get C hP 39 (by decide) k4_92 rfl (v := .ref (Γ.2.2 (25))) rfl dX6_copy_106 ?_
                      refine lv_iload_n hx hb dX6_copy_109 rfl (lv_at hl 1 rfl) ?_
                      refine gi_i hf (fun hi26 hj27 hf => ?_)
                      refine m_ild C hP mA_25 hi26 dX6_copy_110 ?_
                      refine lv_iload hx hb dX6_copy_111 (lv_at hl 5 rfl) ?_
                      refine lv_isub hx hb dX6_copy_113 ?_
                      refine lv_icmp_gt (tgt := 131) hx hb dX6_copy_114 (by decide) (fun hc28 => ?_) (fun hc28 => ?_)
                      · have hf := if_t hc28 hf
                        refine lv_bipush (v := (-13)) hx hb dX6_copy_131 rfl ?_
                        exact r_iret (X := mE Γ) C hP hf dX6_copy_133
                      · have hf := if_f hc28 hf
                        refine lv_iload hx hb dX6_copy_117 (lv_at hl 4 rfl) ?_
                        refine lv_aload_n hx hb dX6_copy_119 rfl (lv_at hl 0 rfl) ?_
                        refine m_get C hP 39 (by decide) k4_92 rfl (v := .ref (Γ.2.2 (25))) rfl dX6_copy_120 ?_
                        refine lv_iload_n hx hb dX6_copy_123 rfl (lv_at hl 3 rfl) ?_
                        refine gi_i hf (fun hi29 hj30 hf => ?_)
                        refine m_ild C hP mA_25 hi29 dX6_copy_124 ?_
                        refine lv_iload hx hb dX6_copy_125 (lv_at hl 5 rfl) ?_
                        refine lv_isub hx hb dX6_copy_127 ?_
                        refine lv_icmp_le (tgt := 134) hx hb dX6_copy_128 (by decide) (fun hc31 => ?_) (fun hc31 => ?_)
                        · have hf := if_t hc31 hf
                          refine lv_iconst (v := nI 0) hx hb dX6_copy_134 rfl ?_
                          refine lv_istore (lv' := [(6, .int (nI 0)), (0, .ref (Γ.2.2 (0))), (1, .int x1), (2, .int x2), (3, .int x3), (4, .int x4), (5, .int x5)]) hx hb dX6_copy_135 hl (by decide) rfl (fun ls hl => ?_)
                          exact wX6_copy_137 C   lF S4 x1 x2 x3 x4 x5 (nI 0)  hf _ _ _ hP (lv_sub hl [1, 2, 3, 4, 5, 6, 0] rfl)
                        · have hf := if_f hc31 hf
                          refine lv_bipush (v := (-13)) hx hb dX6_copy_131 rfl ?_
                          exact r_iret (X := mE Γ) C hP hf dX6_copy_133
              · have hf := if_f hc22 hf
                refine lv_bipush (v := (-12)) hx hb dX6_copy_87 rfl ?_
                exact r_iret (X := mE Γ) C hP hf dX6_copy_89
        · have hf := if_t hc11 hf
          refine lv_bipush (v := (-11)) hx hb dX6_copy_49 rfl ?_
          exact r_iret (X := mE Γ) C hP hf dX6_copy_51
    · have hf := if_t hc5 hf
      refine lv_iconst (v := (-1)) hx hb dX6_copy_29 rfl ?_
      exact r_iret (X := mE Γ) C hP hf dX6_copy_30
-- X6_wrongLane
theorem qX6_wrongLane : Cond.instanceMethod yX6_wrongLane ∈ Ub ∧ Cond.selects RX6 yX6_wrongLane yX6_wrongLane ∈ Ub ∧ Cond.initialized RX6 ∈ Ub ∧ Cond.code yX6_wrongLane cX6_wrongLane 2 (some FieldType.int) ∈ Ub ∧ (yX6_wrongLane.cls = RX6 ∧ yX6_wrongLane.cls ≠ "java/lang/invoke/MethodHandle" ∧ yX6_wrongLane.cls ≠ "java/lang/invoke/VarHandle" ∧ (parseMethodDescriptor yX6_wrongLane.desc).map (fun d => d.parameters.length) = some 1) := ⟨k6_72, ks_68, k1_5, k6_73, by decide +kernel⟩
def fX6_wrongLane  (S : mM) (x1 : Int32) : Option (Int32 × mM) :=
  bd (fX6_in S x1.toInt64 0 7) fun v1 S1 => ( if v1 = 0 then some ((-1), S1) else gi x1 8 (if (S1.1 20 (x1).toNatClampNeg) = 0 then some ((-11), S1) else gi x1 8 (if (S1.1 20 (x1).toNatClampNeg) = (nI 1) then some (nI 0, S1) else some ((-12), S1))))
set_option maxHeartbeats 4000000 in
set_option maxRecDepth 100000 in
theorem mX6_wrongLane (l : Launch) (Γ : gG)   {S : mM} {x1 : Int32} {rz : Int32} {Sz : mM} (hf : fX6_wrongLane S x1 = some (rz, Sz)) : CtI l Γ 28 yX6_wrongLane cX6_wrongLane 2 .int 1 25 [.ref (Γ.2.2 (0)), .int x1] (mE Γ S) rz (mE Γ Sz) := by
  refine met_body (Γ := Γ) (lv := [(0, .ref (Γ.2.2 (0))), (1, .int x1)]) RX6 (by decide) rfl rfl rfl ?_
  intro p e s m below meth c H locs ls C hP hl
  obtain ⟨hx, hb, -, -, hown, hts, -, hwx, -⟩ := id C
  unfold fX6_wrongLane at hf
  refine lv_iload_n hx hb dX6_wrongLane_0 rfl (lv_at hl 1 rfl) ?_
  refine lv_i2l (v := x1.toInt64) hx hb dX6_wrongLane_1 rfl ?_
  refine lv_lconst (v := 0) hx hb dX6_wrongLane_2 (by decide) ?_
  refine lv_ldc2 (v := 7) hx hb hown (hts _ k4_214) dX6_wrongLane_3 ?_
  refine bd_i hf (fun v1 S1 hq1 hf => ?_)
  refine goI (runS (rest := []) (mX6_in l Γ  hq1) C hP hl.1 k4_215 qX6_in.1 qX6_in.2.1 qX6_in.2.2.1 rfl qX6_in.2.2.2 ⟨Nat.le_of_ble_eq_true rfl, Nat.le_of_ble_eq_true rfl⟩ ⟨Nat.le_refl 0, Nat.le_refl 0⟩ (Nat.le_of_ble_eq_true rfl) dX6_wrongLane_6) hP (fun H locs hP => ?_)
  refine lv_if_ne (tgt := 16) hx hb dX6_wrongLane_9 (by decide) (fun hc2 => ?_) (fun hc2 => ?_)
  · have hf := if_f hc2 hf
    refine lv_aload_n hx hb dX6_wrongLane_16 rfl (lv_at hl 0 rfl) ?_
    refine m_get C hP 34 (by decide) k4_87 rfl (v := .ref (Γ.2.2 (20))) rfl dX6_wrongLane_17 ?_
    refine lv_iload_n hx hb dX6_wrongLane_20 rfl (lv_at hl 1 rfl) ?_
    refine gi_i hf (fun hi3 hj4 hf => ?_)
    refine m_ild C hP mA_20 hi3 dX6_wrongLane_21 ?_
    refine lv_if_ne (tgt := 30) hx hb dX6_wrongLane_22 (by decide) (fun hc5 => ?_) (fun hc5 => ?_)
    · have hf := if_f hc5 hf
      refine lv_aload_n hx hb dX6_wrongLane_30 rfl (lv_at hl 0 rfl) ?_
      refine m_get C hP 34 (by decide) k4_87 rfl (v := .ref (Γ.2.2 (20))) rfl dX6_wrongLane_31 ?_
      refine lv_iload_n hx hb dX6_wrongLane_34 rfl (lv_at hl 1 rfl) ?_
      refine gi_i hf (fun hi6 hj7 hf => ?_)
      refine m_ild C hP mA_20 hi6 dX6_wrongLane_35 ?_
      refine lv_iconst (v := nI 1) hx hb dX6_wrongLane_36 rfl ?_
      refine lv_icmp_eq (tgt := 45) hx hb dX6_wrongLane_37 (by decide) (fun hc8 => ?_) (fun hc8 => ?_)
      · have hf := if_t hc8 hf
        refine lv_iconst (v := nI 0) hx hb dX6_wrongLane_45 rfl ?_
        exact r_iret (X := mE Γ) C hP hf dX6_wrongLane_46
      · have hf := if_f hc8 hf
        refine lv_bipush (v := (-12)) hx hb dX6_wrongLane_40 rfl ?_
        refine lv_goto (tgt := 46) hx hb dX6_wrongLane_42 (by decide) ?_
        exact r_iret (X := mE Γ) C hP hf dX6_wrongLane_46
    · have hf := if_t hc5 hf
      refine lv_bipush (v := (-11)) hx hb dX6_wrongLane_25 rfl ?_
      refine lv_goto (tgt := 46) hx hb dX6_wrongLane_27 (by decide) ?_
      exact r_iret (X := mE Γ) C hP hf dX6_wrongLane_46
  · have hf := if_t hc2 hf
    refine lv_iconst (v := (-1)) hx hb dX6_wrongLane_12 rfl ?_
    refine lv_goto (tgt := 46) hx hb dX6_wrongLane_13 (by decide) ?_
    exact r_iret (X := mE Γ) C hP hf dX6_wrongLane_46
-- X6_tollOf
theorem qX6_tollOf : Cond.instanceMethod yX6_tollOf ∈ Ub ∧ Cond.selects RX6 yX6_tollOf yX6_tollOf ∈ Ub ∧ Cond.initialized RX6 ∈ Ub ∧ Cond.code yX6_tollOf cX6_tollOf 3 (some FieldType.int) ∈ Ub ∧ (yX6_tollOf.cls = RX6 ∧ yX6_tollOf.cls ≠ "java/lang/invoke/MethodHandle" ∧ yX6_tollOf.cls ≠ "java/lang/invoke/VarHandle" ∧ (parseMethodDescriptor yX6_tollOf.desc).map (fun d => d.parameters.length) = some 1) := ⟨k6_76, ks_69, k1_5, k6_77, by decide +kernel⟩
def fX6_tollOf  (S : mM) (x1 : Int32) : Option (Int32 × mM) :=
  gi x1 8 (gi x1 8 ((if (S.1 22 (x1).toNatClampNeg) = nI 1 then some ((nI 4) + (S.1 23 (x1).toNatClampNeg), S) else if (S.1 22 (x1).toNatClampNeg) = nI 2 then some (nI 2, S) else if (S.1 22 (x1).toNatClampNeg) = nI 3 then some (nI 6, S) else if (S.1 22 (x1).toNatClampNeg) = nI 4 then some (nI 4, S) else if (S.1 22 (x1).toNatClampNeg) = nI 5 then some (nI 7, S) else if (S.1 22 (x1).toNatClampNeg) = nI 6 then some ((nI 8) + ((nI 2) * (S.1 23 (x1).toNatClampNeg)), S) else if (S.1 22 (x1).toNatClampNeg) = nI 7 then some ((nI 4) - (S.1 23 (x1).toNatClampNeg), S) else some (nI 4, S))))
set_option maxHeartbeats 4000000 in
set_option maxRecDepth 100000 in
theorem mX6_tollOf (l : Launch) (Γ : gG)   {S : mM} {x1 : Int32} {rz : Int32} {Sz : mM} (hf : fX6_tollOf S x1 = some (rz, Sz)) : CtI l Γ 28 yX6_tollOf cX6_tollOf 3 .int 0 0 [.ref (Γ.2.2 (0)), .int x1] (mE Γ S) rz (mE Γ Sz) := by
  refine met_body (Γ := Γ) (lv := [(0, .ref (Γ.2.2 (0))), (1, .int x1)]) RX6 (by decide) rfl rfl rfl ?_
  intro p e s m below meth c H locs ls C hP hl
  obtain ⟨hx, hb, -, -, hown, hts, -, hwx, -⟩ := id C
  unfold fX6_tollOf at hf
  refine lv_aload_n hx hb dX6_tollOf_0 rfl (lv_at hl 0 rfl) ?_
  refine m_get C hP 37 (by decide) k4_90 rfl (v := .ref (Γ.2.2 (23))) rfl dX6_tollOf_1 ?_
  refine lv_iload_n hx hb dX6_tollOf_4 rfl (lv_at hl 1 rfl) ?_
  refine gi_i hf (fun hi1 hj2 hf => ?_)
  refine m_ild C hP mA_23 hi1 dX6_tollOf_5 ?_
  refine lv_istore_n (lv' := [(2, .int (S.1 23 (x1).toNatClampNeg)), (0, .ref (Γ.2.2 (0))), (1, .int x1)]) hx hb dX6_tollOf_6 rfl hl (by decide) rfl (fun ls hl => ?_)
  refine lv_aload_n hx hb dX6_tollOf_7 rfl (lv_at hl 1 rfl) ?_
  refine m_get C hP 36 (by decide) k4_89 rfl (v := .ref (Γ.2.2 (22))) rfl dX6_tollOf_8 ?_
  refine lv_iload_n hx hb dX6_tollOf_11 rfl (lv_at hl 2 rfl) ?_
  refine gi_i hf (fun hi3 hj4 hf => ?_)
  refine m_ild C hP mA_22 hi3 dX6_tollOf_12 ?_
  by_cases hs5 : (S.1 22 (x1).toNatClampNeg) = nI 1
  · have hf := if_t hs5 hf
    refine lv_tableIn (tgt := 56) hx hb dX6_tollOf_13 (by rw [hs5]; decide) (by rw [hs5]; decide) (by rw [hs5]; rfl) (by decide) ?_
    refine lv_iconst (v := nI 4) hx hb dX6_tollOf_56 rfl ?_
    refine lv_iload_n hx hb dX6_tollOf_57 rfl (lv_at hl 0 rfl) ?_
    refine lv_iadd hx hb dX6_tollOf_58 ?_
    exact r_iret (X := mE Γ) C hP hf dX6_tollOf_59
  · have hf := if_f hs5 hf
    by_cases hs6 : (S.1 22 (x1).toNatClampNeg) = nI 2
    · have hf := if_t hs6 hf
      refine lv_tableIn (tgt := 60) hx hb dX6_tollOf_13 (by rw [hs6]; decide) (by rw [hs6]; decide) (by rw [hs6]; rfl) (by decide) ?_
      refine lv_iconst (v := nI 2) hx hb dX6_tollOf_60 rfl ?_
      exact r_iret (X := mE Γ) C hP hf dX6_tollOf_61
    · have hf := if_f hs6 hf
      by_cases hs7 : (S.1 22 (x1).toNatClampNeg) = nI 3
      · have hf := if_t hs7 hf
        refine lv_tableIn (tgt := 62) hx hb dX6_tollOf_13 (by rw [hs7]; decide) (by rw [hs7]; decide) (by rw [hs7]; rfl) (by decide) ?_
        refine lv_bipush (v := nI 6) hx hb dX6_tollOf_62 rfl ?_
        exact r_iret (X := mE Γ) C hP hf dX6_tollOf_64
      · have hf := if_f hs7 hf
        by_cases hs8 : (S.1 22 (x1).toNatClampNeg) = nI 4
        · have hf := if_t hs8 hf
          refine lv_tableIn (tgt := 79) hx hb dX6_tollOf_13 (by rw [hs8]; decide) (by rw [hs8]; decide) (by rw [hs8]; rfl) (by decide) ?_
          refine lv_iconst (v := nI 4) hx hb dX6_tollOf_79 rfl ?_
          exact r_iret (X := mE Γ) C hP hf dX6_tollOf_80
        · have hf := if_f hs8 hf
          by_cases hs9 : (S.1 22 (x1).toNatClampNeg) = nI 5
          · have hf := if_t hs9 hf
            refine lv_tableIn (tgt := 65) hx hb dX6_tollOf_13 (by rw [hs9]; decide) (by rw [hs9]; decide) (by rw [hs9]; rfl) (by decide) ?_
            refine lv_bipush (v := nI 7) hx hb dX6_tollOf_65 rfl ?_
            exact r_iret (X := mE Γ) C hP hf dX6_tollOf_67
          · have hf := if_f hs9 hf
            by_cases hs10 : (S.1 22 (x1).toNatClampNeg) = nI 6
            · have hf := if_t hs10 hf
              refine lv_tableIn (tgt := 68) hx hb dX6_tollOf_13 (by rw [hs10]; decide) (by rw [hs10]; decide) (by rw [hs10]; rfl) (by decide) ?_
              refine lv_bipush (v := nI 8) hx hb dX6_tollOf_68 rfl ?_
              refine lv_iconst (v := nI 2) hx hb dX6_tollOf_70 rfl ?_
              refine lv_iload_n hx hb dX6_tollOf_71 rfl (lv_at hl 0 rfl) ?_
              refine lv_imul hx hb dX6_tollOf_72 ?_
              refine lv_iadd hx hb dX6_tollOf_73 ?_
              exact r_iret (X := mE Γ) C hP hf dX6_tollOf_74
            · have hf := if_f hs10 hf
              by_cases hs11 : (S.1 22 (x1).toNatClampNeg) = nI 7
              · have hf := if_t hs11 hf
                refine lv_tableIn (tgt := 75) hx hb dX6_tollOf_13 (by rw [hs11]; decide) (by rw [hs11]; decide) (by rw [hs11]; rfl) (by decide) ?_
                refine lv_iconst (v := nI 4) hx hb dX6_tollOf_75 rfl ?_
                refine lv_iload_n hx hb dX6_tollOf_76 rfl (lv_at hl 0 rfl) ?_
                refine lv_isub hx hb dX6_tollOf_77 ?_
                exact r_iret (X := mE Γ) C hP hf dX6_tollOf_78
              · have hf := if_f hs11 hf
                refine lv_tableOut (tgt := 79) hx hb dX6_tollOf_13 (by have q0 := ne_toInt hs5; have q1 := ne_toInt hs6; have q2 := ne_toInt hs7; have q3 := ne_toInt hs8; have q4 := ne_toInt hs9; have q5 := ne_toInt hs10; have q6 := ne_toInt hs11; rw [show (nI 1).toInt = 1 from by decide] at q0; rw [show (nI 2).toInt = 2 from by decide] at q1; rw [show (nI 3).toInt = 3 from by decide] at q2; rw [show (nI 4).toInt = 4 from by decide] at q3; rw [show (nI 5).toInt = 5 from by decide] at q4; rw [show (nI 6).toInt = 6 from by decide] at q5; rw [show (nI 7).toInt = 7 from by decide] at q6;  omega) (by decide) ?_
                refine lv_iconst (v := nI 4) hx hb dX6_tollOf_79 rfl ?_
                exact r_iret (X := mE Γ) C hP hf dX6_tollOf_80
-- X6_toll
theorem qX6_toll : Cond.instanceMethod yX6_toll ∈ Ub ∧ Cond.selects RX6 yX6_toll yX6_toll ∈ Ub ∧ Cond.initialized RX6 ∈ Ub ∧ Cond.code yX6_toll cX6_toll 2 (some FieldType.int) ∈ Ub ∧ (yX6_toll.cls = RX6 ∧ yX6_toll.cls ≠ "java/lang/invoke/MethodHandle" ∧ yX6_toll.cls ≠ "java/lang/invoke/VarHandle" ∧ (parseMethodDescriptor yX6_toll.desc).map (fun d => d.parameters.length) = some 1) := ⟨k6_67, k6_68, k1_5, k6_69, by decide +kernel⟩
def fX6_toll  (S : mM) (x1 : Int32) : Option (Int32 × mM) :=
  sv (mS S 0 9 (nI 0)) fun S1 => ( bd (fX6_wrongLane S1 x1) fun v2 S2 => ( if (0 : Int32) ≤ v2 then bd (fX6_tollOf S2 x1) fun v4 S4 => ( some (v4, S4)) else bd (fX6_wrongLane S2 x1) fun v5 S5 => ( some (v5, S5))))
set_option maxHeartbeats 4000000 in
set_option maxRecDepth 100000 in
theorem mX6_toll (l : Launch) (Γ : gG)   {S : mM} {x1 : Int32} {rz : Int32} {Sz : mM} (hf : fX6_toll S x1 = some (rz, Sz)) : CtI l Γ 28 yX6_toll cX6_toll 2 .int 2 46 [.ref (Γ.2.2 (0)), .int x1] (mE Γ S) rz (mE Γ Sz) := by
  refine met_body (Γ := Γ) (lv := [(0, .ref (Γ.2.2 (0))), (1, .int x1)]) RX6 (by decide) rfl rfl rfl ?_
  intro p e s m below meth c H locs ls C hP hl
  obtain ⟨hx, hb, -, -, hown, hts, -, hwx, -⟩ := id C
  unfold fX6_toll at hf
  refine lv_aload_n hx hb dX6_toll_0 rfl (lv_at hl 0 rfl) ?_
  refine lv_iconst (v := nI 0) hx hb dX6_toll_1 rfl ?_
  refine m_put C hP 9 (by decide) k4_62 dX6_toll_2 (fun H locs hP => ?_)
  refine sv_i hf (fun S1 e1 hf => ?_)
  rw [← e1] at hP
  refine lv_aload_n hx hb dX6_toll_5 rfl (lv_at hl 0 rfl) ?_
  refine lv_iload_n hx hb dX6_toll_6 rfl (lv_at hl 1 rfl) ?_
  refine bd_i hf (fun v2 S2 hq2 hf => ?_)
  refine goI (runV (rest := []) (b := 0) (mX6_wrongLane l Γ  hq2) C hP hl.1 (by decide) mE0 rfl k6_70 qX6_wrongLane.1 qX6_wrongLane.2.1 qX6_wrongLane.2.2.1 qX6_wrongLane.2.2.2.1 rfl qX6_wrongLane.2.2.2.2 ⟨Nat.le_of_ble_eq_true rfl, Nat.le_of_ble_eq_true rfl⟩ ⟨Nat.le_refl 0, Nat.le_refl 0⟩ (Nat.le_of_ble_eq_true rfl) dX6_toll_7) hP (fun H locs hP => ?_)
  refine lv_if_ge (tgt := 21) hx hb dX6_toll_10 (by decide) (fun hc3 => ?_) (fun hc3 => ?_)
  · have hf := if_t hc3 hf
    refine lv_aload_n hx hb dX6_toll_21 rfl (lv_at hl 0 rfl) ?_
    refine lv_iload_n hx hb dX6_toll_22 rfl (lv_at hl 1 rfl) ?_
    refine bd_i hf (fun v4 S4 hq4 hf => ?_)
    refine goI (runV (rest := []) (b := 0) (mX6_tollOf l Γ  hq4) C hP hl.1 (by decide) mE0 rfl k6_74 qX6_tollOf.1 qX6_tollOf.2.1 qX6_tollOf.2.2.1 qX6_tollOf.2.2.2.1 rfl qX6_tollOf.2.2.2.2 ⟨Nat.le_of_ble_eq_true rfl, Nat.le_of_ble_eq_true rfl⟩ ⟨Nat.le_refl 0, Nat.le_refl 0⟩ (Nat.le_of_ble_eq_true rfl) dX6_toll_23) hP (fun H locs hP => ?_)
    exact r_iret (X := mE Γ) C hP hf dX6_toll_26
  · have hf := if_f hc3 hf
    refine lv_aload_n hx hb dX6_toll_13 rfl (lv_at hl 0 rfl) ?_
    refine lv_iload_n hx hb dX6_toll_14 rfl (lv_at hl 1 rfl) ?_
    refine bd_i hf (fun v5 S5 hq5 hf => ?_)
    refine goI (runV (rest := []) (b := 0) (mX6_wrongLane l Γ  hq5) C hP hl.1 (by decide) mE0 rfl k6_70 qX6_wrongLane.1 qX6_wrongLane.2.1 qX6_wrongLane.2.2.1 qX6_wrongLane.2.2.2.1 rfl qX6_wrongLane.2.2.2.2 ⟨Nat.le_of_ble_eq_true rfl, Nat.le_of_ble_eq_true rfl⟩ ⟨Nat.le_refl 0, Nat.le_refl 0⟩ (Nat.le_of_ble_eq_true rfl) dX6_toll_15) hP (fun H locs hP => ?_)
    refine lv_goto (tgt := 26) hx hb dX6_toll_18 (by decide) ?_
    exact r_iret (X := mE Γ) C hP hf dX6_toll_26
-- X6_toss
theorem qX6_toss : Cond.instanceMethod yX6_toss ∈ Ub ∧ Cond.selects RX6 yX6_toss yX6_toss ∈ Ub ∧ Cond.initialized RX6 ∈ Ub ∧ Cond.code yX6_toss cX6_toss 3 (some FieldType.int) ∈ Ub ∧ (yX6_toss.cls = RX6 ∧ yX6_toss.cls ≠ "java/lang/invoke/MethodHandle" ∧ yX6_toss.cls ≠ "java/lang/invoke/VarHandle" ∧ (parseMethodDescriptor yX6_toss.desc).map (fun d => d.parameters.length) = some 1) := ⟨k6_79, k6_80, k1_5, k6_81, by decide +kernel⟩
def fX6_toss  (S : mM) (x1 : Int32) : Option (Int32 × mM) :=
  sv (mS S 0 9 (nI 0)) fun S1 => ( bd (fX6_wrongLane S1 x1) fun v2 S2 => ( if (0 : Int32) ≤ v2 then gi x1 8 (if (S2.1 22 (x1).toNatClampNeg) = (nI 7) then some ((-15), S2) else gi x1 8 (if (S2.1 23 (x1).toNatClampNeg) = 0 then some ((-15), S2) else if (S2.1 22 (x1).toNatClampNeg) = (nI 3) then gi x1 8 (some ((nI 100) + (S2.1 21 (x1).toNatClampNeg), S2)) else if (S2.1 22 (x1).toNatClampNeg) = (nI 6) then bd (fX6_tollOf S2 x1) fun v14 S14 => ( some ((nI 200) + v14, S14)) else gi x1 8 (some (S2.1 21 (x1).toNatClampNeg, S2)))) else bd (fX6_wrongLane S2 x1) fun v17 S17 => ( some (v17, S17))))
set_option maxHeartbeats 4000000 in
set_option maxRecDepth 100000 in
theorem mX6_toss (l : Launch) (Γ : gG)   {S : mM} {x1 : Int32} {rz : Int32} {Sz : mM} (hf : fX6_toss S x1 = some (rz, Sz)) : CtI l Γ 28 yX6_toss cX6_toss 3 .int 2 46 [.ref (Γ.2.2 (0)), .int x1] (mE Γ S) rz (mE Γ Sz) := by
  refine met_body (Γ := Γ) (lv := [(0, .ref (Γ.2.2 (0))), (1, .int x1)]) RX6 (by decide) rfl rfl rfl ?_
  intro p e s m below meth c H locs ls C hP hl
  obtain ⟨hx, hb, -, -, hown, hts, -, hwx, -⟩ := id C
  unfold fX6_toss at hf
  refine lv_aload_n hx hb dX6_toss_0 rfl (lv_at hl 0 rfl) ?_
  refine lv_iconst (v := nI 0) hx hb dX6_toss_1 rfl ?_
  refine m_put C hP 9 (by decide) k4_62 dX6_toss_2 (fun H locs hP => ?_)
  refine sv_i hf (fun S1 e1 hf => ?_)
  rw [← e1] at hP
  refine lv_aload_n hx hb dX6_toss_5 rfl (lv_at hl 0 rfl) ?_
  refine lv_iload_n hx hb dX6_toss_6 rfl (lv_at hl 1 rfl) ?_
  refine bd_i hf (fun v2 S2 hq2 hf => ?_)
  refine goI (runV (rest := []) (b := 0) (mX6_wrongLane l Γ  hq2) C hP hl.1 (by decide) mE0 rfl k6_70 qX6_wrongLane.1 qX6_wrongLane.2.1 qX6_wrongLane.2.2.1 qX6_wrongLane.2.2.2.1 rfl qX6_wrongLane.2.2.2.2 ⟨Nat.le_of_ble_eq_true rfl, Nat.le_of_ble_eq_true rfl⟩ ⟨Nat.le_refl 0, Nat.le_refl 0⟩ (Nat.le_of_ble_eq_true rfl) dX6_toss_7) hP (fun H locs hP => ?_)
  refine lv_if_ge (tgt := 19) hx hb dX6_toss_10 (by decide) (fun hc3 => ?_) (fun hc3 => ?_)
  · have hf := if_t hc3 hf
    refine lv_aload_n hx hb dX6_toss_19 rfl (lv_at hl 0 rfl) ?_
    refine m_get C hP 36 (by decide) k4_89 rfl (v := .ref (Γ.2.2 (22))) rfl dX6_toss_20 ?_
    refine lv_iload_n hx hb dX6_toss_23 rfl (lv_at hl 1 rfl) ?_
    refine gi_i hf (fun hi4 hj5 hf => ?_)
    refine m_ild C hP mA_22 hi4 dX6_toss_24 ?_
    refine lv_istore_n (lv' := [(2, .int (S2.1 22 (x1).toNatClampNeg)), (0, .ref (Γ.2.2 (0))), (1, .int x1)]) hx hb dX6_toss_25 rfl hl (by decide) rfl (fun ls hl => ?_)
    refine lv_iload_n hx hb dX6_toss_26 rfl (lv_at hl 0 rfl) ?_
    refine lv_bipush (v := nI 7) hx hb dX6_toss_27 rfl ?_
    refine lv_icmp_eq (tgt := 41) hx hb dX6_toss_29 (by decide) (fun hc6 => ?_) (fun hc6 => ?_)
    · have hf := if_t hc6 hf
      refine lv_bipush (v := (-15)) hx hb dX6_toss_41 rfl ?_
      exact r_iret (X := mE Γ) C hP hf dX6_toss_43
    · have hf := if_f hc6 hf
      refine lv_aload_n hx hb dX6_toss_32 rfl (lv_at hl 1 rfl) ?_
      refine m_get C hP 37 (by decide) k4_90 rfl (v := .ref (Γ.2.2 (23))) rfl dX6_toss_33 ?_
      refine lv_iload_n hx hb dX6_toss_36 rfl (lv_at hl 2 rfl) ?_
      refine gi_i hf (fun hi7 hj8 hf => ?_)
      refine m_ild C hP mA_23 hi7 dX6_toss_37 ?_
      refine lv_if_ne (tgt := 44) hx hb dX6_toss_38 (by decide) (fun hc9 => ?_) (fun hc9 => ?_)
      · have hf := if_f hc9 hf
        refine lv_iload_n hx hb dX6_toss_44 rfl (lv_at hl 0 rfl) ?_
        refine lv_iconst (v := nI 3) hx hb dX6_toss_45 rfl ?_
        refine lv_icmp_ne (tgt := 61) hx hb dX6_toss_46 (by decide) (fun hc10 => ?_) (fun hc10 => ?_)
        · have hf := if_f hc10 hf
          refine lv_iload_n hx hb dX6_toss_61 rfl (lv_at hl 0 rfl) ?_
          refine lv_bipush (v := nI 6) hx hb dX6_toss_62 rfl ?_
          refine lv_icmp_ne (tgt := 79) hx hb dX6_toss_64 (by decide) (fun hc11 => ?_) (fun hc11 => ?_)
          · have hf := if_f hc11 hf
            refine lv_aload_n hx hb dX6_toss_79 rfl (lv_at hl 1 rfl) ?_
            refine m_get C hP 35 (by decide) k4_88 rfl (v := .ref (Γ.2.2 (21))) rfl dX6_toss_80 ?_
            refine lv_iload_n hx hb dX6_toss_83 rfl (lv_at hl 2 rfl) ?_
            refine gi_i hf (fun hi12 hj13 hf => ?_)
            refine m_ild C hP mA_21 hi12 dX6_toss_84 ?_
            exact r_iret (X := mE Γ) C hP hf dX6_toss_85
          · have hf := if_t hc11 hf
            refine lv_sipush (v := nI 200) hx hb dX6_toss_67 rfl ?_
            refine lv_aload_n hx hb dX6_toss_70 rfl (lv_at hl 1 rfl) ?_
            refine lv_iload_n hx hb dX6_toss_71 rfl (lv_at hl 2 rfl) ?_
            refine bd_i hf (fun v14 S14 hq14 hf => ?_)
            refine goI (runV (rest := [.int (nI 200)]) (b := 0) (mX6_tollOf l Γ  hq14) C hP hl.1 (by decide) mE0 rfl k6_74 qX6_tollOf.1 qX6_tollOf.2.1 qX6_tollOf.2.2.1 qX6_tollOf.2.2.2.1 rfl qX6_tollOf.2.2.2.2 ⟨Nat.le_of_ble_eq_true rfl, Nat.le_of_ble_eq_true rfl⟩ ⟨Nat.le_refl 0, Nat.le_refl 0⟩ (Nat.le_of_ble_eq_true rfl) dX6_toss_72) hP (fun H locs hP => ?_)
            refine lv_iadd hx hb dX6_toss_75 ?_
            refine lv_goto (tgt := 85) hx hb dX6_toss_76 (by decide) ?_
            exact r_iret (X := mE Γ) C hP hf dX6_toss_85
        · have hf := if_t hc10 hf
          refine lv_bipush (v := nI 100) hx hb dX6_toss_49 rfl ?_
          refine lv_aload_n hx hb dX6_toss_51 rfl (lv_at hl 1 rfl) ?_
          refine m_get C hP 35 (by decide) k4_88 rfl (v := .ref (Γ.2.2 (21))) rfl dX6_toss_52 ?_
          refine lv_iload_n hx hb dX6_toss_55 rfl (lv_at hl 2 rfl) ?_
          refine gi_i hf (fun hi15 hj16 hf => ?_)
          refine m_ild C hP mA_21 hi15 dX6_toss_56 ?_
          refine lv_iadd hx hb dX6_toss_57 ?_
          refine lv_goto (tgt := 85) hx hb dX6_toss_58 (by decide) ?_
          exact r_iret (X := mE Γ) C hP hf dX6_toss_85
      · have hf := if_t hc9 hf
        refine lv_bipush (v := (-15)) hx hb dX6_toss_41 rfl ?_
        exact r_iret (X := mE Γ) C hP hf dX6_toss_43
  · have hf := if_f hc3 hf
    refine lv_aload_n hx hb dX6_toss_13 rfl (lv_at hl 0 rfl) ?_
    refine lv_iload_n hx hb dX6_toss_14 rfl (lv_at hl 1 rfl) ?_
    refine bd_i hf (fun v17 S17 hq17 hf => ?_)
    refine goI (runV (rest := []) (b := 0) (mX6_wrongLane l Γ  hq17) C hP hl.1 (by decide) mE0 rfl k6_70 qX6_wrongLane.1 qX6_wrongLane.2.1 qX6_wrongLane.2.2.1 qX6_wrongLane.2.2.2.1 rfl qX6_wrongLane.2.2.2.2 ⟨Nat.le_of_ble_eq_true rfl, Nat.le_of_ble_eq_true rfl⟩ ⟨Nat.le_refl 0, Nat.le_refl 0⟩ (Nat.le_of_ble_eq_true rfl) dX6_toss_15) hP (fun H locs hP => ?_)
    exact r_iret (X := mE Γ) C hP hf dX6_toss_18
