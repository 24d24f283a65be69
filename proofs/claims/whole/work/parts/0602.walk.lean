-- X0_firstBadByte
theorem qX0_firstBadByte : Cond.static yX0_firstBadByte ∈ Ub ∧ Cond.initialized RX0 ∈ Ub ∧ Cond.code yX0_firstBadByte cX0_firstBadByte 3 (some FieldType.int) ∈ Ub ∧ (yX0_firstBadByte.cls = RX0 ∧ yX0_firstBadByte.cls ≠ "java/lang/invoke/MethodHandle" ∧ yX0_firstBadByte.cls ≠ "java/lang/invoke/VarHandle" ∧ (parseMethodDescriptor yX0_firstBadByte.desc).map (fun d => d.parameters.length) = some 1) := ⟨k1_178, k1_6, k1_179, by decide +kernel⟩
def fX0_firstBadByte_52 (u0 : Nat)  (S : cM)  : Option (Int32 × cM) :=
  some (S.1 u0 5, S)
set_option maxHeartbeats 4000000 in
set_option maxRecDepth 100000 in
theorem wX0_firstBadByte_52 {p : Program} {l : Launch} {e : Env} {s : State} {m : MethodId} {args : Array Value} {below : List Frame} {meth : Method} {c : Code} {Γ : gG} {rz : Int32} {Sz : cM} (C : Cx Γ 74 p s m args meth c RX0 cX0_firstBadByte 3 (some .int)) {u0 : Nat} (hu0 : 53 ≤ u0 ∧ u0 ≤ 60)  : ∀ (S : cM)  , fX0_firstBadByte_52 u0  S  = some (rz, Sz) → ∀ (H : Heap) (locs : List Loc) (ls : Array Slot), St Γ 74 (cE Γ S) s.heap H locs → lv_has ls 3 [(0, .ref (Γ.2.2 (u0)))] → W p l e { frames := 2, cells := 0, slots := 0, locals := 43 } s m args below meth c H locs 0 0 (MQ below (gQi Γ 74 rz (cE Γ Sz)) args s 0 0 (wA Γ 74)) (F0 m 52 ls []) := by
  obtain ⟨hx, hb, -, -, hown, hts, -, hwx, -⟩ := id C
  intro S  hf H locs ls hP hl
  unfold fX0_firstBadByte_52 at hf
  refine lv_aload_n hx hb dX0_firstBadByte_52 rfl (lv_at hl 0 rfl) ?_
  refine c4_get C hP hu0 5 (by decide) k1_107 rfl (v := .int (S.1 u0 5)) rfl dX0_firstBadByte_53 ?_
  exact r_iret (X := cE Γ) C hP hf dX0_firstBadByte_56
def fX0_firstBadByte_4 (u0 : Nat)  : Nat → cM → Int32 → Int32 → Option (Int32 × cM)
  | 0, _, _, _ => none
  | n + 1, S, x1, x2 =>
    if (S.1 u0 5) ≤ x2 then if x1 = 0 then if (S.1 u0 5) ≤ 0 then fX0_firstBadByte_52 u0   S  else some ((-1), S) else fX0_firstBadByte_52 u0   S  else gi x2 100 (bd (fX0_next S x1 (S.1 (u0 + 8) (x2).toNatClampNeg)) fun v6 S6 => ( if v6 = (nI 9) then some (x2, S6) else (fX0_firstBadByte_4 u0  n) S6 v6 (x2 + (nI 1))))
set_option maxHeartbeats 4000000 in
set_option maxRecDepth 100000 in
theorem wX0_firstBadByte_4 {p : Program} {l : Launch} {e : Env} {s : State} {m : MethodId} {args : Array Value} {below : List Frame} {meth : Method} {c : Code} {Γ : gG} {rz : Int32} {Sz : cM} (C : Cx Γ 74 p s m args meth c RX0 cX0_firstBadByte 3 (some .int)) {u0 : Nat} (hu0 : 53 ≤ u0 ∧ u0 ≤ 60)  : ∀ n : Nat, ∀ (S : cM) (x1 : Int32) (x2 : Int32) , fX0_firstBadByte_4 u0  n S x1 x2 = some (rz, Sz) → ∀ (H : Heap) (locs : List Loc) (ls : Array Slot), St Γ 74 (cE Γ S) s.heap H locs → lv_has ls 3 [(0, .ref (Γ.2.2 (u0))), (1, .int x1), (2, .int x2)] → W p l e { frames := 2, cells := 0, slots := 0, locals := 43 } s m args below meth c H locs 0 0 (MQ below (gQi Γ 74 rz (cE Γ Sz)) args s 0 0 (wA Γ 74)) (F0 m 4 ls []) := by
  obtain ⟨hx, hb, -, -, hown, hts, -, hwx, -⟩ := id C
  intro n
  induction n with
  | zero =>
    intro S x1 x2 hf
    unfold fX0_firstBadByte_4 at hf
    cases hf
  | succ n ih =>
    intro S x1 x2 hf H locs ls hP hl
    unfold fX0_firstBadByte_4 at hf
    refine lv_iload_n hx hb dX0_firstBadByte_4 rfl (lv_at hl 2 rfl) ?_
    refine lv_aload_n hx hb dX0_firstBadByte_5 rfl (lv_at hl 0 rfl) ?_
    refine c4_get C hP hu0 5 (by decide) k1_107 rfl (v := .int (S.1 u0 5)) rfl dX0_firstBadByte_6 ?_
    refine lv_icmp_ge (tgt := 37) hx hb dX0_firstBadByte_9 (by decide) (fun hc1 => ?_) (fun hc1 => ?_)
    · have hf := if_t hc1 hf
      refine lv_iload_n hx hb dX0_firstBadByte_37 rfl (lv_at hl 1 rfl) ?_
      refine lv_if_ne (tgt := 52) hx hb dX0_firstBadByte_38 (by decide) (fun hc2 => ?_) (fun hc2 => ?_)
      · have hf := if_f hc2 hf
        exact wX0_firstBadByte_52 C hu0   S   hf _ _ _ hP (lv_sub hl [0] rfl)
      · have hf := if_t hc2 hf
        refine lv_aload_n hx hb dX0_firstBadByte_41 rfl (lv_at hl 0 rfl) ?_
        refine c4_get C hP hu0 5 (by decide) k1_107 rfl (v := .int (S.1 u0 5)) rfl dX0_firstBadByte_42 ?_
        refine lv_if_le (tgt := 52) hx hb dX0_firstBadByte_45 (by decide) (fun hc3 => ?_) (fun hc3 => ?_)
        · have hf := if_t hc3 hf
          exact wX0_firstBadByte_52 C hu0   S   hf _ _ _ hP (lv_sub hl [0] rfl)
        · have hf := if_f hc3 hf
          refine lv_iconst (v := (-1)) hx hb dX0_firstBadByte_48 rfl ?_
          refine lv_goto (tgt := 56) hx hb dX0_firstBadByte_49 (by decide) ?_
          exact r_iret (X := cE Γ) C hP hf dX0_firstBadByte_56
    · have hf := if_f hc1 hf
      refine lv_iload_n hx hb dX0_firstBadByte_12 rfl (lv_at hl 1 rfl) ?_
      refine lv_aload_n hx hb dX0_firstBadByte_13 rfl (lv_at hl 0 rfl) ?_
      refine c4_get C hP hu0 6 (by decide) k1_110 rfl (v := .ref (Γ.2.2 (u0 + 8))) rfl dX0_firstBadByte_14 ?_
      refine lv_iload_n hx hb dX0_firstBadByte_17 rfl (lv_at hl 2 rfl) ?_
      refine gi_i hf (fun hi4 hj5 hf => ?_)
      refine c_ild C hP (cA_va hu0) hi4 dX0_firstBadByte_18 ?_
      refine bd_i hf (fun v6 S6 hq6 hf => ?_)
      refine goI (runS (rest := []) (mX0_next l Γ  hq6) C hP hl.1 k1_180 qX0_next.1 qX0_next.2.1 qX0_next.2.2.1 rfl qX0_next.2.2.2 ⟨Nat.le_of_ble_eq_true rfl, Nat.le_of_ble_eq_true rfl⟩ ⟨Nat.le_refl 0, Nat.le_refl 0⟩ (Nat.le_of_ble_eq_true rfl) dX0_firstBadByte_19) hP (fun H locs hP => ?_)
      refine lv_istore_n (lv' := [(1, .int v6), (0, .ref (Γ.2.2 (u0))), (2, .int x2)]) hx hb dX0_firstBadByte_22 rfl hl (by decide) rfl (fun ls hl => ?_)
      refine lv_iload_n hx hb dX0_firstBadByte_23 rfl (lv_at hl 0 rfl) ?_
      refine lv_bipush (v := nI 9) hx hb dX0_firstBadByte_24 rfl ?_
      refine lv_icmp_ne (tgt := 31) hx hb dX0_firstBadByte_26 (by decide) (fun hc7 => ?_) (fun hc7 => ?_)
      · have hf := if_f hc7 hf
        refine lv_iinc (v := x2 + (nI 1)) (lv' := [(2, .int (x2 + (nI 1))), (1, .int v6), (0, .ref (Γ.2.2 (u0)))]) hx hb dX0_firstBadByte_31 hl (k := 2) rfl rfl (by decide) rfl (fun ls hl => ?_)
        refine lv_goto (tgt := 4) hx hb dX0_firstBadByte_34 (by decide) ?_
        exact ih S6 v6 (x2 + (nI 1))  hf _ _ _ hP (lv_sub hl [2, 1, 0] rfl)
      · have hf := if_t hc7 hf
        refine lv_iload_n hx hb dX0_firstBadByte_29 rfl (lv_at hl 2 rfl) ?_
        exact r_iret (X := cE Γ) C hP hf dX0_firstBadByte_30
def fX0_firstBadByte (u0 : Nat) (S : cM)  : Option (Int32 × cM) :=
  fX0_firstBadByte_4 u0  lF S (nI 0) (nI 0)
set_option maxHeartbeats 4000000 in
set_option maxRecDepth 100000 in
theorem mX0_firstBadByte (l : Launch) (Γ : gG) {u0 : Nat} (hu0 : 53 ≤ u0 ∧ u0 ≤ 60) {S : cM}  {rz : Int32} {Sz : cM} (hf : fX0_firstBadByte u0 S = some (rz, Sz)) : CtI l Γ 74 yX0_firstBadByte cX0_firstBadByte 3 .int 2 43 [.ref (Γ.2.2 (u0))] (cE Γ S) rz (cE Γ Sz) := by
  refine met_body (Γ := Γ) (lv := [(0, .ref (Γ.2.2 (u0)))]) RX0 (by decide) rfl rfl rfl ?_
  intro p e s m below meth c H locs ls C hP hl
  obtain ⟨hx, hb, -, -, hown, hts, -, hwx, -⟩ := id C
  unfold fX0_firstBadByte at hf
  refine lv_iconst (v := nI 0) hx hb dX0_firstBadByte_0 rfl ?_
  refine lv_istore_n (lv' := [(1, .int (nI 0)), (0, .ref (Γ.2.2 (u0)))]) hx hb dX0_firstBadByte_1 rfl hl (by decide) rfl (fun ls hl => ?_)
  refine lv_iconst (v := nI 0) hx hb dX0_firstBadByte_2 rfl ?_
  refine lv_istore_n (lv' := [(2, .int (nI 0)), (1, .int (nI 0)), (0, .ref (Γ.2.2 (u0)))]) hx hb dX0_firstBadByte_3 rfl hl (by decide) rfl (fun ls hl => ?_)
  exact wX0_firstBadByte_4 C hu0  lF S (nI 0) (nI 0)  hf _ _ _ hP (lv_sub hl [2, 1, 0] rfl)
-- X0_digit
theorem qX0_digit : Cond.static yX0_digit ∈ Ub ∧ Cond.initialized RX0 ∈ Ub ∧ Cond.code yX0_digit cX0_digit 2 (some FieldType.int) ∈ Ub ∧ (yX0_digit.cls = RX0 ∧ yX0_digit.cls ≠ "java/lang/invoke/MethodHandle" ∧ yX0_digit.cls ≠ "java/lang/invoke/VarHandle" ∧ (parseMethodDescriptor yX0_digit.desc).map (fun d => d.parameters.length) = some 2) := ⟨k1_211, k1_6, k1_212, by decide +kernel⟩
def fX0_digit (u0 : Nat) (S : cM) (x1 : Int32) : Option (Int32 × cM) :=
  bd (fX4_hasElement u0 S x1) fun v1 S1 => ( if v1 = 0 then some (nI 0, S1) else gi x1 100 (some ((S1.1 (u0 + 8) (x1).toNatClampNeg) - (nI 48), S1)))
set_option maxHeartbeats 4000000 in
set_option maxRecDepth 100000 in
theorem mX0_digit (l : Launch) (Γ : gG) {u0 : Nat} (hu0 : 53 ≤ u0 ∧ u0 ≤ 60) {S : cM} {x1 : Int32} {rz : Int32} {Sz : cM} (hf : fX0_digit u0 S x1 = some (rz, Sz)) : CtI l Γ 74 yX0_digit cX0_digit 2 .int 1 21 [.ref (Γ.2.2 (u0)), .int x1] (cE Γ S) rz (cE Γ Sz) := by
  refine met_body (Γ := Γ) (lv := [(0, .ref (Γ.2.2 (u0))), (1, .int x1)]) RX0 (by decide) rfl rfl rfl ?_
  intro p e s m below meth c H locs ls C hP hl
  obtain ⟨hx, hb, -, -, hown, hts, -, hwx, -⟩ := id C
  unfold fX0_digit at hf
  refine lv_aload_n hx hb dX0_digit_0 rfl (lv_at hl 0 rfl) ?_
  refine lv_iload_n hx hb dX0_digit_1 rfl (lv_at hl 1 rfl) ?_
  refine bd_i hf (fun v1 S1 hq1 hf => ?_)
  refine goI (runV (rest := []) (mX4_hasElement l Γ hu0 hq1) C hP hl.1 (by have := hu0; omega) (cE4 hu0) rfl k1_203 qX4_hasElement.1 qX4_hasElement.2.1 qX4_hasElement.2.2.1 qX4_hasElement.2.2.2.1 rfl qX4_hasElement.2.2.2.2 ⟨Nat.le_of_ble_eq_true rfl, Nat.le_of_ble_eq_true rfl⟩ ⟨Nat.le_refl 0, Nat.le_refl 0⟩ (Nat.le_of_ble_eq_true rfl) dX0_digit_2) hP (fun H locs hP => ?_)
  refine lv_if_eq (tgt := 20) hx hb dX0_digit_5 (by decide) (fun hc2 => ?_) (fun hc2 => ?_)
  · have hf := if_t hc2 hf
    refine lv_iconst (v := nI 0) hx hb dX0_digit_20 rfl ?_
    exact r_iret (X := cE Γ) C hP hf dX0_digit_21
  · have hf := if_f hc2 hf
    refine lv_aload_n hx hb dX0_digit_8 rfl (lv_at hl 0 rfl) ?_
    refine c4_get C hP hu0 6 (by decide) k1_110 rfl (v := .ref (Γ.2.2 (u0 + 8))) rfl dX0_digit_9 ?_
    refine lv_iload_n hx hb dX0_digit_12 rfl (lv_at hl 1 rfl) ?_
    refine gi_i hf (fun hi3 hj4 hf => ?_)
    refine c_ild C hP (cA_va hu0) hi3 dX0_digit_13 ?_
    refine lv_bipush (v := nI 48) hx hb dX0_digit_14 rfl ?_
    refine lv_isub hx hb dX0_digit_16 ?_
    refine lv_goto (tgt := 21) hx hb dX0_digit_17 (by decide) ?_
    exact r_iret (X := cE Γ) C hP hf dX0_digit_21
-- X5_isSort
theorem qX5_isSort : Cond.static yX5_isSort ∈ Ub ∧ Cond.initialized RX5 ∈ Ub ∧ Cond.code yX5_isSort cX5_isSort 1 (some FieldType.boolean) ∈ Ub ∧ (yX5_isSort.cls = RX5 ∧ yX5_isSort.cls ≠ "java/lang/invoke/MethodHandle" ∧ yX5_isSort.cls ≠ "java/lang/invoke/VarHandle" ∧ (parseMethodDescriptor yX5_isSort.desc).map (fun d => d.parameters.length) = some 1) := ⟨k1_235, k1_1, k1_236, by decide +kernel⟩
def fX5_isSort  (S : cM) (x0 : Int32) : Option (Int32 × cM) :=
  if x0 < 0 then some (nI 0, S) else if (nI 4) ≤ x0 then some (nI 0, S) else some (nI 1, S)
set_option maxHeartbeats 4000000 in
set_option maxRecDepth 100000 in
theorem mX5_isSort (l : Launch) (Γ : gG)   {S : cM} {x0 : Int32} {rz : Int32} {Sz : cM} (hf : fX5_isSort S x0 = some (rz, Sz)) : CtI l Γ 74 yX5_isSort cX5_isSort 1 .boolean 0 0 [.int x0] (cE Γ S) rz (cE Γ Sz) := by
  refine met_body (Γ := Γ) (lv := [(0, .int x0)]) RX5 (by decide) rfl rfl rfl ?_
  intro p e s m below meth c H locs ls C hP hl
  obtain ⟨hx, hb, -, -, hown, hts, -, hwx, -⟩ := id C
  unfold fX5_isSort at hf
  refine lv_iload_n hx hb dX5_isSort_0 rfl (lv_at hl 0 rfl) ?_
  refine lv_if_lt (tgt := 13) hx hb dX5_isSort_1 (by decide) (fun hc1 => ?_) (fun hc1 => ?_)
  · have hf := if_t hc1 hf
    refine lv_iconst (v := nI 0) hx hb dX5_isSort_13 rfl ?_
    exact r_zret (X := cE Γ) C hP (Or.inl rfl) hf dX5_isSort_14
  · have hf := if_f hc1 hf
    refine lv_iload_n hx hb dX5_isSort_4 rfl (lv_at hl 0 rfl) ?_
    refine lv_iconst (v := nI 4) hx hb dX5_isSort_5 rfl ?_
    refine lv_icmp_ge (tgt := 13) hx hb dX5_isSort_6 (by decide) (fun hc2 => ?_) (fun hc2 => ?_)
    · have hf := if_t hc2 hf
      refine lv_iconst (v := nI 0) hx hb dX5_isSort_13 rfl ?_
      exact r_zret (X := cE Γ) C hP (Or.inl rfl) hf dX5_isSort_14
    · have hf := if_f hc2 hf
      refine lv_iconst (v := nI 1) hx hb dX5_isSort_9 rfl ?_
      refine lv_goto (tgt := 14) hx hb dX5_isSort_10 (by decide) ?_
      exact r_zret (X := cE Γ) C hP (Or.inr rfl) hf dX5_isSort_14
-- X0_addCar
theorem qX0_addCar : Cond.static yX0_addCar ∈ Ub ∧ Cond.initialized RX0 ∈ Ub ∧ Cond.code yX0_addCar cX0_addCar 3 (some FieldType.boolean) ∈ Ub ∧ (yX0_addCar.cls = RX0 ∧ yX0_addCar.cls ≠ "java/lang/invoke/MethodHandle" ∧ yX0_addCar.cls ≠ "java/lang/invoke/VarHandle" ∧ (parseMethodDescriptor yX0_addCar.desc).map (fun d => d.parameters.length) = some 3) := ⟨k1_228, k1_6, k1_229, by decide +kernel⟩
def fX0_addCar (u0 : Nat) (S : cM) (x1 : Int32) (x2 : Int32) : Option (Int32 × cM) :=
  bd (fX1_has u0 S x1) fun v1 S1 => ( if v1 = 0 then some (nI 0, S1) else bd (fX5_isSort S1 x2) fun v3 S3 => ( if v3 = 0 then some (nI 0, S3) else gi x1 5 (bd (fX3_hasRoom (5 * u0 + 2 + (x1).toNatClampNeg) S3) fun v7 S7 => ( if v7 = 0 then some (nI 0, S7) else gi x1 5 (bv (fX3_comeIn (5 * u0 + 2 + (x1).toNatClampNeg) S7 x2) fun S11 => ( some (nI 1, S11)))))))
set_option maxHeartbeats 4000000 in
set_option maxRecDepth 100000 in
theorem mX0_addCar (l : Launch) (Γ : gG) {u0 : Nat} (hu0 : 1 ≤ u0 ∧ u0 ≤ 3) {S : cM} {x1 : Int32} {x2 : Int32} {rz : Int32} {Sz : cM} (hf : fX0_addCar u0 S x1 x2 = some (rz, Sz)) : CtI l Γ 74 yX0_addCar cX0_addCar 3 .boolean 2 42 [.ref (Γ.2.2 (u0)), .int x1, .int x2] (cE Γ S) rz (cE Γ Sz) := by
  refine met_body (Γ := Γ) (lv := [(0, .ref (Γ.2.2 (u0))), (1, .int x1), (2, .int x2)]) RX0 (by decide) rfl rfl rfl ?_
  intro p e s m below meth c H locs ls C hP hl
  obtain ⟨hx, hb, -, -, hown, hts, -, hwx, -⟩ := id C
  unfold fX0_addCar at hf
  refine lv_aload_n hx hb dX0_addCar_0 rfl (lv_at hl 0 rfl) ?_
  refine lv_iload_n hx hb dX0_addCar_1 rfl (lv_at hl 1 rfl) ?_
  refine bd_i hf (fun v1 S1 hq1 hf => ?_)
  refine goI (runV (rest := []) (mX1_has l Γ hu0 hq1) C hP hl.1 (by have := hu0; omega) (cE1 hu0) rfl k1_230 qX1_has.1 qX1_has.2.1 qX1_has.2.2.1 qX1_has.2.2.2.1 rfl qX1_has.2.2.2.2 ⟨Nat.le_of_ble_eq_true rfl, Nat.le_of_ble_eq_true rfl⟩ ⟨Nat.le_refl 0, Nat.le_refl 0⟩ (Nat.le_of_ble_eq_true rfl) dX0_addCar_2) hP (fun H locs hP => ?_)
  refine lv_if_eq (tgt := 27) hx hb dX0_addCar_5 (by decide) (fun hc2 => ?_) (fun hc2 => ?_)
  · have hf := if_t hc2 hf
    refine lv_iconst (v := nI 0) hx hb dX0_addCar_27 rfl ?_
    exact r_zret (X := cE Γ) C hP (Or.inl rfl) hf dX0_addCar_28
  · have hf := if_f hc2 hf
    refine lv_iload_n hx hb dX0_addCar_8 rfl (lv_at hl 2 rfl) ?_
    refine bd_i hf (fun v3 S3 hq3 hf => ?_)
    refine goI (runSN (rest := []) (mX5_isSort l Γ  hq3) C hP hl.1 hwx.2 qX5_isSort.1 qX5_isSort.2.1 qX5_isSort.2.2.1 rfl qX5_isSort.2.2.2 ⟨Nat.le_of_ble_eq_true rfl, Nat.le_of_ble_eq_true rfl⟩ ⟨Nat.le_refl 0, Nat.le_refl 0⟩ (Nat.le_of_ble_eq_true rfl) dX0_addCar_9) hP (fun H locs hP => ?_)
    refine lv_if_eq (tgt := 27) hx hb dX0_addCar_12 (by decide) (fun hc4 => ?_) (fun hc4 => ?_)
    · have hf := if_t hc4 hf
      refine lv_iconst (v := nI 0) hx hb dX0_addCar_27 rfl ?_
      exact r_zret (X := cE Γ) C hP (Or.inl rfl) hf dX0_addCar_28
    · have hf := if_f hc4 hf
      refine lv_aload_n hx hb dX0_addCar_15 rfl (lv_at hl 0 rfl) ?_
      refine c1_get C hP hu0 0 (by decide) k1_72 rfl (v := .ref (Γ.2.2 (u0 + 3))) rfl dX0_addCar_16 ?_
      refine lv_iload_n hx hb dX0_addCar_19 rfl (lv_at hl 1 rfl) ?_
      refine gi_i hf (fun hi5 hj6 hf => ?_)
      refine c_aldQ (q := u0) C hP hu0 hi5 dX0_addCar_20 ?_
      refine bd_i hf (fun v7 S7 hq7 hf => ?_)
      refine goI (runV (rest := []) (mX3_hasRoom l Γ (by omega) hq7) C hP hl.1 (by have := (show 7 ≤ 5 * u0 + 2 + (x1).toNatClampNeg ∧ 5 * u0 + 2 + (x1).toNatClampNeg ≤ 21 by omega); omega) (cE3 (by omega)) rfl k1_237 qX3_hasRoom.1 qX3_hasRoom.2.1 qX3_hasRoom.2.2.1 qX3_hasRoom.2.2.2.1 rfl qX3_hasRoom.2.2.2.2 ⟨Nat.le_of_ble_eq_true rfl, Nat.le_of_ble_eq_true rfl⟩ ⟨Nat.le_refl 0, Nat.le_refl 0⟩ (Nat.le_of_ble_eq_true rfl) dX0_addCar_21) hP (fun H locs hP => ?_)
      refine lv_if_ne (tgt := 29) hx hb dX0_addCar_24 (by decide) (fun hc8 => ?_) (fun hc8 => ?_)
      · have hf := if_f hc8 hf
        refine lv_aload_n hx hb dX0_addCar_29 rfl (lv_at hl 0 rfl) ?_
        refine c1_get C hP hu0 0 (by decide) k1_72 rfl (v := .ref (Γ.2.2 (u0 + 3))) rfl dX0_addCar_30 ?_
        refine lv_iload_n hx hb dX0_addCar_33 rfl (lv_at hl 1 rfl) ?_
        refine gi_i hf (fun hi9 hj10 hf => ?_)
        refine c_aldQ (q := u0) C hP hu0 hi9 dX0_addCar_34 ?_
        refine lv_iload_n hx hb dX0_addCar_35 rfl (lv_at hl 2 rfl) ?_
        refine bv_i hf (fun S11 hq11 hf => ?_)
        refine goV (runV (rest := []) (mX3_comeIn l Γ (by omega) hq11) C hP hl.1 (by have := (show 7 ≤ 5 * u0 + 2 + (x1).toNatClampNeg ∧ 5 * u0 + 2 + (x1).toNatClampNeg ≤ 21 by omega); omega) (cE3 (by omega)) rfl k2_1 qX3_comeIn.1 qX3_comeIn.2.1 qX3_comeIn.2.2.1 qX3_comeIn.2.2.2.1 rfl qX3_comeIn.2.2.2.2 ⟨Nat.le_of_ble_eq_true rfl, Nat.le_of_ble_eq_true rfl⟩ ⟨Nat.le_refl 0, Nat.le_refl 0⟩ (Nat.le_of_ble_eq_true rfl) dX0_addCar_36) hP (fun H locs hP => ?_)
        refine lv_iconst (v := nI 1) hx hb dX0_addCar_39 rfl ?_
        exact r_zret (X := cE Γ) C hP (Or.inr rfl) hf dX0_addCar_40
      · have hf := if_t hc8 hf
        refine lv_iconst (v := nI 0) hx hb dX0_addCar_27 rfl ?_
        exact r_zret (X := cE Γ) C hP (Or.inl rfl) hf dX0_addCar_28
-- X0_addLane
theorem qX0_addLane : Cond.static yX0_addLane ∈ Ub ∧ Cond.initialized RX0 ∈ Ub ∧ Cond.code yX0_addLane cX0_addLane 6 (some FieldType.boolean) ∈ Ub ∧ (yX0_addLane.cls = RX0 ∧ yX0_addLane.cls ≠ "java/lang/invoke/MethodHandle" ∧ yX0_addLane.cls ≠ "java/lang/invoke/VarHandle" ∧ (parseMethodDescriptor yX0_addLane.desc).map (fun d => d.parameters.length) = some 4) := ⟨k1_208, k1_6, k1_209, by decide +kernel⟩
def fX0_addLane_39 (u0 : Nat) (u3 : Nat)  : Nat → cM → Int32 → Int32 → Option (Int32 × cM)
  | 0, _, _, _ => none
  | n + 1, S, x2, x5 =>
    if x2 ≤ x5 then some (nI 1, S) else bd (fX0_digit u0 S x5) fun v7 S7 => ( bd (fX0_addCar u3 S7 ((S.1 u3 1) - (nI 1)) v7) fun v8 S8 => ( if v8 = 0 then some (nI 0, S8) else (fX0_addLane_39 u0 u3  n) S8 x2 (x5 + (nI 1))))
set_option maxHeartbeats 4000000 in
set_option maxRecDepth 100000 in
theorem wX0_addLane_39 {p : Program} {l : Launch} {e : Env} {s : State} {m : MethodId} {args : Array Value} {below : List Frame} {meth : Method} {c : Code} {Γ : gG} {rz : Int32} {Sz : cM} (C : Cx Γ 74 p s m args meth c RX0 cX0_addLane 6 (some .boolean)) {u0 : Nat} (hu0 : 53 ≤ u0 ∧ u0 ≤ 60) {u3 : Nat} (hu3 : 1 ≤ u3 ∧ u3 ≤ 3)  : ∀ n : Nat, ∀ (S : cM) (x2 : Int32) (x5 : Int32) , fX0_addLane_39 u0 u3  n S x2 x5 = some (rz, Sz) → ∀ (H : Heap) (locs : List Loc) (ls : Array Slot), St Γ 74 (cE Γ S) s.heap H locs → lv_has ls 6 [(0, .ref (Γ.2.2 (u0))), (2, .int x2), (3, .ref (Γ.2.2 (u3))), (5, .int x5)] → W p l e { frames := 4, cells := 0, slots := 0, locals := 90 } s m args below meth c H locs 0 0 (MQ below (gQi Γ 74 rz (cE Γ Sz)) args s 0 0 (wA Γ 74)) (F0 m 39 ls []) := by
  obtain ⟨hx, hb, -, -, hown, hts, -, hwx, -⟩ := id C
  intro n
  induction n with
  | zero =>
    intro S x2 x5 hf
    unfold fX0_addLane_39 at hf
    cases hf
  | succ n ih =>
    intro S x2 x5 hf H locs ls hP hl
    unfold fX0_addLane_39 at hf
    refine lv_iload hx hb dX0_addLane_39 (lv_at hl 3 rfl) ?_
    refine lv_iload_n hx hb dX0_addLane_41 rfl (lv_at hl 1 rfl) ?_
    refine lv_icmp_ge (tgt := 72) hx hb dX0_addLane_42 (by decide) (fun hc6 => ?_) (fun hc6 => ?_)
    · have hf := if_t hc6 hf
      refine lv_iconst (v := nI 1) hx hb dX0_addLane_72 rfl ?_
      exact r_zret (X := cE Γ) C hP (Or.inr rfl) hf dX0_addLane_73
    · have hf := if_f hc6 hf
      refine lv_aload_n hx hb dX0_addLane_45 rfl (lv_at hl 2 rfl) ?_
      refine lv_aload_n hx hb dX0_addLane_46 rfl (lv_at hl 2 rfl) ?_
      refine c1_get C hP hu3 1 (by decide) k1_74 rfl (v := .int (S.1 u3 1)) rfl dX0_addLane_47 ?_
      refine lv_iconst (v := nI 1) hx hb dX0_addLane_50 rfl ?_
      refine lv_isub hx hb dX0_addLane_51 ?_
      refine lv_aload_n hx hb dX0_addLane_52 rfl (lv_at hl 0 rfl) ?_
      refine lv_iload hx hb dX0_addLane_53 (lv_at hl 3 rfl) ?_
      refine bd_i hf (fun v7 S7 hq7 hf => ?_)
      refine goI (runS (rest := [.int ((S.1 u3 1) - (nI 1)), .ref (Γ.2.2 (u3))]) (mX0_digit l Γ hu0 hq7) C hP hl.1 k1_210 qX0_digit.1 qX0_digit.2.1 qX0_digit.2.2.1 rfl qX0_digit.2.2.2 ⟨Nat.le_of_ble_eq_true rfl, Nat.le_of_ble_eq_true rfl⟩ ⟨Nat.le_refl 0, Nat.le_refl 0⟩ (Nat.le_of_ble_eq_true rfl) dX0_addLane_55) hP (fun H locs hP => ?_)
      refine bd_i hf (fun v8 S8 hq8 hf => ?_)
      refine goI (runS (rest := []) (mX0_addCar l Γ hu3 hq8) C hP hl.1 k1_227 qX0_addCar.1 qX0_addCar.2.1 qX0_addCar.2.2.1 rfl qX0_addCar.2.2.2 ⟨Nat.le_of_ble_eq_true rfl, Nat.le_of_ble_eq_true rfl⟩ ⟨Nat.le_refl 0, Nat.le_refl 0⟩ (Nat.le_of_ble_eq_true rfl) dX0_addLane_58) hP (fun H locs hP => ?_)
      refine lv_if_ne (tgt := 66) hx hb dX0_addLane_61 (by decide) (fun hc9 => ?_) (fun hc9 => ?_)
      · have hf := if_f hc9 hf
        refine lv_iinc (v := x5 + (nI 1)) (lv' := [(5, .int (x5 + (nI 1))), (0, .ref (Γ.2.2 (u0))), (2, .int x2), (3, .ref (Γ.2.2 (u3)))]) hx hb dX0_addLane_66 hl (k := 3) rfl rfl (by decide) rfl (fun ls hl => ?_)
        refine lv_goto (tgt := 39) hx hb dX0_addLane_69 (by decide) ?_
        exact ih S8 x2 (x5 + (nI 1))  hf _ _ _ hP (lv_sub hl [1, 2, 3, 0] rfl)
      · have hf := if_t hc9 hf
        refine lv_iconst (v := nI 0) hx hb dX0_addLane_64 rfl ?_
        exact r_zret (X := cE Γ) C hP (Or.inl rfl) hf dX0_addLane_65
def fX0_addLane (u0 : Nat) (u3 : Nat) (S : cM) (x1 : Int32) (x2 : Int32) : Option (Int32 × cM) :=
  bd (fX0_digit u0 S (x1 + (nI 1))) fun v1 S1 => ( if (nI 7) < v1 then some (nI 0, S1) else bd (fX0_digit u0 S1 (x1 + (nI 2))) fun v3 S3 => ( bd (fX1_addLane u3 S3 v1 v3) fun v4 S4 => ( if v4 = 0 then some (nI 0, S4) else fX0_addLane_39 u0 u3  lF S4 x2 (x1 + (nI 3)))))
set_option maxHeartbeats 4000000 in
set_option maxRecDepth 100000 in
theorem mX0_addLane (l : Launch) (Γ : gG) {u0 : Nat} {u3 : Nat} (hu0 : 53 ≤ u0 ∧ u0 ≤ 60) (hu3 : 1 ≤ u3 ∧ u3 ≤ 3) {S : cM} {x1 : Int32} {x2 : Int32} {rz : Int32} {Sz : cM} (hf : fX0_addLane u0 u3 S x1 x2 = some (rz, Sz)) : CtI l Γ 74 yX0_addLane cX0_addLane 6 .boolean 4 90 [.ref (Γ.2.2 (u0)), .int x1, .int x2, .ref (Γ.2.2 (u3))] (cE Γ S) rz (cE Γ Sz) := by
  refine met_body (Γ := Γ) (lv := [(0, .ref (Γ.2.2 (u0))), (1, .int x1), (2, .int x2), (3, .ref (Γ.2.2 (u3)))]) RX0 (by decide) rfl rfl rfl ?_
  intro p e s m below meth c H locs ls C hP hl
  obtain ⟨hx, hb, -, -, hown, hts, -, hwx, -⟩ := id C
  unfold fX0_addLane at hf
  refine lv_aload_n hx hb dX0_addLane_0 rfl (lv_at hl 0 rfl) ?_
  refine lv_iload_n hx hb dX0_addLane_1 rfl (lv_at hl 1 rfl) ?_
  refine lv_iconst (v := nI 1) hx hb dX0_addLane_2 rfl ?_
  refine lv_iadd hx hb dX0_addLane_3 ?_
  refine bd_i hf (fun v1 S1 hq1 hf => ?_)
  refine goI (runS (rest := []) (mX0_digit l Γ hu0 hq1) C hP hl.1 k1_210 qX0_digit.1 qX0_digit.2.1 qX0_digit.2.2.1 rfl qX0_digit.2.2.2 ⟨Nat.le_of_ble_eq_true rfl, Nat.le_of_ble_eq_true rfl⟩ ⟨Nat.le_refl 0, Nat.le_refl 0⟩ (Nat.le_of_ble_eq_true rfl) dX0_addLane_4) hP (fun H locs hP => ?_)
  refine lv_istore (lv' := [(4, .int v1), (0, .ref (Γ.2.2 (u0))), (1, .int x1), (2, .int x2), (3, .ref (Γ.2.2 (u3)))]) hx hb dX0_addLane_7 hl (by decide) rfl (fun ls hl => ?_)
  refine lv_iload hx hb dX0_addLane_9 (lv_at hl 0 rfl) ?_
  refine lv_bipush (v := nI 7) hx hb dX0_addLane_11 rfl ?_
  refine lv_icmp_gt (tgt := 32) hx hb dX0_addLane_13 (by decide) (fun hc2 => ?_) (fun hc2 => ?_)
  · have hf := if_t hc2 hf
    refine lv_iconst (v := nI 0) hx hb dX0_addLane_32 rfl ?_
    exact r_zret (X := cE Γ) C hP (Or.inl rfl) hf dX0_addLane_33
  · have hf := if_f hc2 hf
    refine lv_aload_n hx hb dX0_addLane_16 rfl (lv_at hl 4 rfl) ?_
    refine lv_iload hx hb dX0_addLane_17 (lv_at hl 0 rfl) ?_
    refine lv_aload_n hx hb dX0_addLane_19 rfl (lv_at hl 1 rfl) ?_
    refine lv_iload_n hx hb dX0_addLane_20 rfl (lv_at hl 2 rfl) ?_
    refine lv_iconst (v := nI 2) hx hb dX0_addLane_21 rfl ?_
    refine lv_iadd hx hb dX0_addLane_22 ?_
    refine bd_i hf (fun v3 S3 hq3 hf => ?_)
    refine goI (runS (rest := [.int v1, .ref (Γ.2.2 (u3))]) (mX0_digit l Γ hu0 hq3) C hP hl.1 k1_210 qX0_digit.1 qX0_digit.2.1 qX0_digit.2.2.1 rfl qX0_digit.2.2.2 ⟨Nat.le_of_ble_eq_true rfl, Nat.le_of_ble_eq_true rfl⟩ ⟨Nat.le_refl 0, Nat.le_refl 0⟩ (Nat.le_of_ble_eq_true rfl) dX0_addLane_23) hP (fun H locs hP => ?_)
    refine bd_i hf (fun v4 S4 hq4 hf => ?_)
    refine goI (runV (rest := []) (mX1_addLane l Γ hu3 hq4) C hP hl.1 (by have := hu3; omega) (cE1 hu3) rfl k1_213 qX1_addLane.1 qX1_addLane.2.1 qX1_addLane.2.2.1 qX1_addLane.2.2.2.1 rfl qX1_addLane.2.2.2.2 ⟨Nat.le_of_ble_eq_true rfl, Nat.le_of_ble_eq_true rfl⟩ ⟨Nat.le_refl 0, Nat.le_refl 0⟩ (Nat.le_of_ble_eq_true rfl) dX0_addLane_26) hP (fun H locs hP => ?_)
    refine lv_if_ne (tgt := 34) hx hb dX0_addLane_29 (by decide) (fun hc5 => ?_) (fun hc5 => ?_)
    · have hf := if_f hc5 hf
      refine lv_iload_n hx hb dX0_addLane_34 rfl (lv_at hl 2 rfl) ?_
      refine lv_iconst (v := nI 3) hx hb dX0_addLane_35 rfl ?_
      refine lv_iadd hx hb dX0_addLane_36 ?_
      refine lv_istore (lv' := [(5, .int (x1 + (nI 3))), (4, .int v1), (0, .ref (Γ.2.2 (u0))), (1, .int x1), (2, .int x2), (3, .ref (Γ.2.2 (u3)))]) hx hb dX0_addLane_37 hl (by decide) rfl (fun ls hl => ?_)
      exact wX0_addLane_39 C hu0 hu3  lF S4 x2 (x1 + (nI 3))  hf _ _ _ hP (lv_sub hl [2, 4, 5, 0] rfl)
    · have hf := if_t hc5 hf
      refine lv_iconst (v := nI 0) hx hb dX0_addLane_32 rfl ?_
      exact r_zret (X := cE Γ) C hP (Or.inl rfl) hf dX0_addLane_33
-- X0_number
theorem qX0_number : Cond.static yX0_number ∈ Ub ∧ Cond.initialized RX0 ∈ Ub ∧ Cond.code yX0_number cX0_number 5 (some FieldType.int) ∈ Ub ∧ (yX0_number.cls = RX0 ∧ yX0_number.cls ≠ "java/lang/invoke/MethodHandle" ∧ yX0_number.cls ≠ "java/lang/invoke/VarHandle" ∧ (parseMethodDescriptor yX0_number.desc).map (fun d => d.parameters.length) = some 3) := ⟨k2_11, k1_6, k2_12, by decide +kernel⟩
def fX0_number_5 (u0 : Nat)  : Nat → cM → Int32 → Int32 → Int32 → Option (Int32 × cM)
  | 0, _, _, _, _ => none
  | n + 1, S, x2, x3, x4 =>
    if x2 ≤ x4 then some (x3, S) else bd (fX0_digit u0 S x4) fun v2 S2 => ( (fX0_number_5 u0  n) S2 x2 (((nI 10) * x3) + v2) (x4 + (nI 1)))
set_option maxHeartbeats 4000000 in
set_option maxRecDepth 100000 in
theorem wX0_number_5 {p : Program} {l : Launch} {e : Env} {s : State} {m : MethodId} {args : Array Value} {below : List Frame} {meth : Method} {c : Code} {Γ : gG} {rz : Int32} {Sz : cM} (C : Cx Γ 74 p s m args meth c RX0 cX0_number 5 (some .int)) {u0 : Nat} (hu0 : 53 ≤ u0 ∧ u0 ≤ 60)  : ∀ n : Nat, ∀ (S : cM) (x2 : Int32) (x3 : Int32) (x4 : Int32) , fX0_number_5 u0  n S x2 x3 x4 = some (rz, Sz) → ∀ (H : Heap) (locs : List Loc) (ls : Array Slot), St Γ 74 (cE Γ S) s.heap H locs → lv_has ls 5 [(0, .ref (Γ.2.2 (u0))), (2, .int x2), (3, .int x3), (4, .int x4)] → W p l e { frames := 2, cells := 0, slots := 0, locals := 42 } s m args below meth c H locs 0 0 (MQ below (gQi Γ 74 rz (cE Γ Sz)) args s 0 0 (wA Γ 74)) (F0 m 5 ls []) := by
  obtain ⟨hx, hb, -, -, hown, hts, -, hwx, -⟩ := id C
  intro n
  induction n with
  | zero =>
    intro S x2 x3 x4 hf
    unfold fX0_number_5 at hf
    cases hf
  | succ n ih =>
    intro S x2 x3 x4 hf H locs ls hP hl
    unfold fX0_number_5 at hf
    refine lv_iload hx hb dX0_number_5 (lv_at hl 3 rfl) ?_
    refine lv_iload_n hx hb dX0_number_7 rfl (lv_at hl 1 rfl) ?_
    refine lv_icmp_ge (tgt := 29) hx hb dX0_number_8 (by decide) (fun hc1 => ?_) (fun hc1 => ?_)
    · have hf := if_t hc1 hf
      refine lv_iload_n hx hb dX0_number_29 rfl (lv_at hl 2 rfl) ?_
      exact r_iret (X := cE Γ) C hP hf dX0_number_30
    · have hf := if_f hc1 hf
      refine lv_bipush (v := nI 10) hx hb dX0_number_11 rfl ?_
      refine lv_iload_n hx hb dX0_number_13 rfl (lv_at hl 2 rfl) ?_
      refine lv_imul hx hb dX0_number_14 ?_
      refine lv_aload_n hx hb dX0_number_15 rfl (lv_at hl 0 rfl) ?_
      refine lv_iload hx hb dX0_number_16 (lv_at hl 3 rfl) ?_
      refine bd_i hf (fun v2 S2 hq2 hf => ?_)
      refine goI (runS (rest := [.int ((nI 10) * x3)]) (mX0_digit l Γ hu0 hq2) C hP hl.1 k1_210 qX0_digit.1 qX0_digit.2.1 qX0_digit.2.2.1 rfl qX0_digit.2.2.2 ⟨Nat.le_of_ble_eq_true rfl, Nat.le_of_ble_eq_true rfl⟩ ⟨Nat.le_refl 0, Nat.le_refl 0⟩ (Nat.le_of_ble_eq_true rfl) dX0_number_18) hP (fun H locs hP => ?_)
      refine lv_iadd hx hb dX0_number_21 ?_
      refine lv_istore_n (lv' := [(3, .int (((nI 10) * x3) + v2)), (0, .ref (Γ.2.2 (u0))), (2, .int x2), (4, .int x4)]) hx hb dX0_number_22 rfl hl (by decide) rfl (fun ls hl => ?_)
      refine lv_iinc (v := x4 + (nI 1)) (lv' := [(4, .int (x4 + (nI 1))), (3, .int (((nI 10) * x3) + v2)), (0, .ref (Γ.2.2 (u0))), (2, .int x2)]) hx hb dX0_number_23 hl (k := 3) rfl rfl (by decide) rfl (fun ls hl => ?_)
      refine lv_goto (tgt := 5) hx hb dX0_number_26 (by decide) ?_
      exact ih S2 x2 (((nI 10) * x3) + v2) (x4 + (nI 1))  hf _ _ _ hP (lv_sub hl [2, 3, 1, 0] rfl)
def fX0_number (u0 : Nat) (S : cM) (x1 : Int32) (x2 : Int32) : Option (Int32 × cM) :=
  fX0_number_5 u0  lF S x2 (nI 0) x1
set_option maxHeartbeats 4000000 in
set_option maxRecDepth 100000 in
theorem mX0_number (l : Launch) (Γ : gG) {u0 : Nat} (hu0 : 53 ≤ u0 ∧ u0 ≤ 60) {S : cM} {x1 : Int32} {x2 : Int32} {rz : Int32} {Sz : cM} (hf : fX0_number u0 S x1 x2 = some (rz, Sz)) : CtI l Γ 74 yX0_number cX0_number 5 .int 2 42 [.ref (Γ.2.2 (u0)), .int x1, .int x2] (cE Γ S) rz (cE Γ Sz) := by
  refine met_body (Γ := Γ) (lv := [(0, .ref (Γ.2.2 (u0))), (1, .int x1), (2, .int x2)]) RX0 (by decide) rfl rfl rfl ?_
  intro p e s m below meth c H locs ls C hP hl
  obtain ⟨hx, hb, -, -, hown, hts, -, hwx, -⟩ := id C
  unfold fX0_number at hf
  refine lv_iconst (v := nI 0) hx hb dX0_number_0 rfl ?_
  refine lv_istore_n (lv' := [(3, .int (nI 0)), (0, .ref (Γ.2.2 (u0))), (1, .int x1), (2, .int x2)]) hx hb dX0_number_1 rfl hl (by decide) rfl (fun ls hl => ?_)
  refine lv_iload_n hx hb dX0_number_2 rfl (lv_at hl 2 rfl) ?_
  refine lv_istore (lv' := [(4, .int x1), (3, .int (nI 0)), (0, .ref (Γ.2.2 (u0))), (1, .int x1), (2, .int x2)]) hx hb dX0_number_3 hl (by decide) rfl (fun ls hl => ?_)
  exact wX0_number_5 C hu0  lF S x2 (nI 0) x1  hf _ _ _ hP (lv_sub hl [2, 4, 1, 0] rfl)
-- X0_carryOut
theorem qX0_carryOut : Cond.static yX0_carryOut ∈ Ub ∧ Cond.initialized RX0 ∈ Ub ∧ Cond.code yX0_carryOut cX0_carryOut 4 (some FieldType.boolean) ∈ Ub ∧ (yX0_carryOut.cls = RX0 ∧ yX0_carryOut.cls ≠ "java/lang/invoke/MethodHandle" ∧ yX0_carryOut.cls ≠ "java/lang/invoke/VarHandle" ∧ (parseMethodDescriptor yX0_carryOut.desc).map (fun d => d.parameters.length) = some 4) := ⟨k1_201, k1_6, k1_202, by decide +kernel⟩
def fX0_carryOut (u0 : Nat) (u3 : Nat) (S : cM) (x1 : Int32) (x2 : Int32) : Option (Int32 × cM) :=
  bd (fX4_hasElement u0 S x1) fun v1 S1 => ( if v1 = 0 then some (nI 0, S1) else gi x1 100 ((if (S1.1 (u0 + 8) (x1).toNatClampNeg) = nI 99 then bd (fX0_digit u0 S1 (x1 + (nI 1))) fun v6 S6 => ( bd (fX0_digit u0 S6 (x1 + (nI 2))) fun v7 S7 => ( bd (fX0_addCar u3 S7 v6 v7) fun v8 S8 => ( gb v8 (some (v8, S8))))) else if (S1.1 (u0 + 8) (x1).toNatClampNeg) = nI 108 then bd (fX0_addLane u0 u3 S1 x1 x2) fun v11 S11 => ( gb v11 (some (v11, S11))) else bd (fX0_number u0 S1 (x1 + (nI 1)) x2) fun v13 S13 => ( bd (fX1_goBy u3 S13 v13) fun v14 S14 => ( some (nI 1, S14))))))
set_option maxHeartbeats 4000000 in
set_option maxRecDepth 100000 in
theorem mX0_carryOut (l : Launch) (Γ : gG) {u0 : Nat} {u3 : Nat} (hu0 : 53 ≤ u0 ∧ u0 ≤ 60) (hu3 : 1 ≤ u3 ∧ u3 ≤ 3) {S : cM} {x1 : Int32} {x2 : Int32} {rz : Int32} {Sz : cM} (hf : fX0_carryOut u0 u3 S x1 x2 = some (rz, Sz)) : CtI l Γ 74 yX0_carryOut cX0_carryOut 4 .boolean 5 115 [.ref (Γ.2.2 (u0)), .int x1, .int x2, .ref (Γ.2.2 (u3))] (cE Γ S) rz (cE Γ Sz) := by
  refine met_body (Γ := Γ) (lv := [(0, .ref (Γ.2.2 (u0))), (1, .int x1), (2, .int x2), (3, .ref (Γ.2.2 (u3)))]) RX0 (by decide) rfl rfl rfl ?_
  intro p e s m below meth c H locs ls C hP hl
  obtain ⟨hx, hb, -, -, hown, hts, -, hwx, -⟩ := id C
  unfold fX0_carryOut at hf
  refine lv_aload_n hx hb dX0_carryOut_0 rfl (lv_at hl 0 rfl) ?_
  refine lv_iload_n hx hb dX0_carryOut_1 rfl (lv_at hl 1 rfl) ?_
  refine bd_i hf (fun v1 S1 hq1 hf => ?_)
  refine goI (runV (rest := []) (mX4_hasElement l Γ hu0 hq1) C hP hl.1 (by have := hu0; omega) (cE4 hu0) rfl k1_203 qX4_hasElement.1 qX4_hasElement.2.1 qX4_hasElement.2.2.1 qX4_hasElement.2.2.2.1 rfl qX4_hasElement.2.2.2.2 ⟨Nat.le_of_ble_eq_true rfl, Nat.le_of_ble_eq_true rfl⟩ ⟨Nat.le_refl 0, Nat.le_refl 0⟩ (Nat.le_of_ble_eq_true rfl) dX0_carryOut_2) hP (fun H locs hP => ?_)
  refine lv_if_ne (tgt := 10) hx hb dX0_carryOut_5 (by decide) (fun hc2 => ?_) (fun hc2 => ?_)
  · have hf := if_f hc2 hf
    refine lv_aload_n hx hb dX0_carryOut_10 rfl (lv_at hl 0 rfl) ?_
    refine c4_get C hP hu0 6 (by decide) k1_110 rfl (v := .ref (Γ.2.2 (u0 + 8))) rfl dX0_carryOut_11 ?_
    refine lv_iload_n hx hb dX0_carryOut_14 rfl (lv_at hl 1 rfl) ?_
    refine gi_i hf (fun hi3 hj4 hf => ?_)
    refine c_ild C hP (cA_va hu0) hi3 dX0_carryOut_15 ?_
    by_cases hs5 : (S1.1 (u0 + 8) (x1).toNatClampNeg) = nI 99
    · have hf := if_t hs5 hf
      refine lv_lookup (tgt := 52) (off := 36) hx hb dX0_carryOut_16 (by decide) (by rw [hs5]; decide) (by decide) ?_
      refine lv_aload_n hx hb dX0_carryOut_52 rfl (lv_at hl 3 rfl) ?_
      refine lv_aload_n hx hb dX0_carryOut_53 rfl (lv_at hl 0 rfl) ?_
      refine lv_iload_n hx hb dX0_carryOut_54 rfl (lv_at hl 1 rfl) ?_
      refine lv_iconst (v := nI 1) hx hb dX0_carryOut_55 rfl ?_
      refine lv_iadd hx hb dX0_carryOut_56 ?_
      refine bd_i hf (fun v6 S6 hq6 hf => ?_)
      refine goI (runS (rest := [.ref (Γ.2.2 (u3))]) (mX0_digit l Γ hu0 hq6) C hP hl.1 k1_210 qX0_digit.1 qX0_digit.2.1 qX0_digit.2.2.1 rfl qX0_digit.2.2.2 ⟨Nat.le_of_ble_eq_true rfl, Nat.le_of_ble_eq_true rfl⟩ ⟨Nat.le_refl 0, Nat.le_refl 0⟩ (Nat.le_of_ble_eq_true rfl) dX0_carryOut_57) hP (fun H locs hP => ?_)
      refine lv_aload_n hx hb dX0_carryOut_60 rfl (lv_at hl 0 rfl) ?_
      refine lv_iload_n hx hb dX0_carryOut_61 rfl (lv_at hl 1 rfl) ?_
      refine lv_iconst (v := nI 2) hx hb dX0_carryOut_62 rfl ?_
      refine lv_iadd hx hb dX0_carryOut_63 ?_
      refine bd_i hf (fun v7 S7 hq7 hf => ?_)
      refine goI (runS (rest := [.int v6, .ref (Γ.2.2 (u3))]) (mX0_digit l Γ hu0 hq7) C hP hl.1 k1_210 qX0_digit.1 qX0_digit.2.1 qX0_digit.2.2.1 rfl qX0_digit.2.2.2 ⟨Nat.le_of_ble_eq_true rfl, Nat.le_of_ble_eq_true rfl⟩ ⟨Nat.le_refl 0, Nat.le_refl 0⟩ (Nat.le_of_ble_eq_true rfl) dX0_carryOut_64) hP (fun H locs hP => ?_)
      refine bd_i hf (fun v8 S8 hq8 hf => ?_)
      refine goI (runS (rest := []) (mX0_addCar l Γ hu3 hq8) C hP hl.1 k1_227 qX0_addCar.1 qX0_addCar.2.1 qX0_addCar.2.2.1 rfl qX0_addCar.2.2.2 ⟨Nat.le_of_ble_eq_true rfl, Nat.le_of_ble_eq_true rfl⟩ ⟨Nat.le_refl 0, Nat.le_refl 0⟩ (Nat.le_of_ble_eq_true rfl) dX0_carryOut_67) hP (fun H locs hP => ?_)
      refine gb_i hf (fun hz9 hf => ?_)
      exact r_zret (X := cE Γ) C hP hz9 hf dX0_carryOut_70
    · have hf := if_f hs5 hf
      by_cases hs10 : (S1.1 (u0 + 8) (x1).toNatClampNeg) = nI 108
      · have hf := if_t hs10 hf
        refine lv_lookup (tgt := 44) (off := 28) hx hb dX0_carryOut_16 (by decide) (by rw [hs10]; decide) (by decide) ?_
        refine lv_aload_n hx hb dX0_carryOut_44 rfl (lv_at hl 0 rfl) ?_
        refine lv_iload_n hx hb dX0_carryOut_45 rfl (lv_at hl 1 rfl) ?_
        refine lv_iload_n hx hb dX0_carryOut_46 rfl (lv_at hl 2 rfl) ?_
        refine lv_aload_n hx hb dX0_carryOut_47 rfl (lv_at hl 3 rfl) ?_
        refine bd_i hf (fun v11 S11 hq11 hf => ?_)
        refine goI (runS (rest := []) (mX0_addLane l Γ hu0 hu3 hq11) C hP hl.1 k1_207 qX0_addLane.1 qX0_addLane.2.1 qX0_addLane.2.2.1 rfl qX0_addLane.2.2.2 ⟨Nat.le_of_ble_eq_true rfl, Nat.le_of_ble_eq_true rfl⟩ ⟨Nat.le_refl 0, Nat.le_refl 0⟩ (Nat.le_of_ble_eq_true rfl) dX0_carryOut_48) hP (fun H locs hP => ?_)
        refine gb_i hf (fun hz12 hf => ?_)
        exact r_zret (X := cE Γ) C hP hz12 hf dX0_carryOut_51
      · have hf := if_f hs10 hf
        refine lv_lookup (tgt := 71) (off := 55) hx hb dX0_carryOut_16 (by decide) ((lv_osw hs5 (by decide)).trans ((lv_osw hs10 (by decide)).trans (rfl))) (by decide) ?_
        refine lv_aload_n hx hb dX0_carryOut_71 rfl (lv_at hl 3 rfl) ?_
        refine lv_aload_n hx hb dX0_carryOut_72 rfl (lv_at hl 0 rfl) ?_
        refine lv_iload_n hx hb dX0_carryOut_73 rfl (lv_at hl 1 rfl) ?_
        refine lv_iconst (v := nI 1) hx hb dX0_carryOut_74 rfl ?_
        refine lv_iadd hx hb dX0_carryOut_75 ?_
        refine lv_iload_n hx hb dX0_carryOut_76 rfl (lv_at hl 2 rfl) ?_
        refine bd_i hf (fun v13 S13 hq13 hf => ?_)
        refine goI (runS (rest := [.ref (Γ.2.2 (u3))]) (mX0_number l Γ hu0 hq13) C hP hl.1 k2_10 qX0_number.1 qX0_number.2.1 qX0_number.2.2.1 rfl qX0_number.2.2.2 ⟨Nat.le_of_ble_eq_true rfl, Nat.le_of_ble_eq_true rfl⟩ ⟨Nat.le_refl 0, Nat.le_refl 0⟩ (Nat.le_of_ble_eq_true rfl) dX0_carryOut_77) hP (fun H locs hP => ?_)
        refine bd_i hf (fun v14 S14 hq14 hf => ?_)
        refine goI (runV (rest := []) (mX1_goBy l Γ hu3 hq14) C hP hl.1 (by have := hu3; omega) (cE1 hu3) rfl k2_13 qX1_goBy.1 qX1_goBy.2.1 qX1_goBy.2.2.1 qX1_goBy.2.2.2.1 rfl qX1_goBy.2.2.2.2 ⟨Nat.le_of_ble_eq_true rfl, Nat.le_of_ble_eq_true rfl⟩ ⟨Nat.le_refl 0, Nat.le_refl 0⟩ (Nat.le_of_ble_eq_true rfl) dX0_carryOut_80) hP (fun H locs hP => ?_)
        refine lv_pop hx hb dX0_carryOut_83 rfl ?_
        refine lv_iconst (v := nI 1) hx hb dX0_carryOut_84 rfl ?_
        exact r_zret (X := cE Γ) C hP (Or.inr rfl) hf dX0_carryOut_85
  · have hf := if_t hc2 hf
    refine lv_iconst (v := nI 0) hx hb dX0_carryOut_8 rfl ?_
    exact r_zret (X := cE Γ) C hP (Or.inl rfl) hf dX0_carryOut_9
-- X5_isShelf
theorem qX5_isShelf : Cond.static yX5_isShelf ∈ Ub ∧ Cond.initialized RX5 ∈ Ub ∧ Cond.code yX5_isShelf cX5_isShelf 1 (some FieldType.boolean) ∈ Ub ∧ (yX5_isShelf.cls = RX5 ∧ yX5_isShelf.cls ≠ "java/lang/invoke/MethodHandle" ∧ yX5_isShelf.cls ≠ "java/lang/invoke/VarHandle" ∧ (parseMethodDescriptor yX5_isShelf.desc).map (fun d => d.parameters.length) = some 1) := ⟨k1_175, k1_1, k1_176, by decide +kernel⟩
def fX5_isShelf  (S : cM) (x0 : Int32) : Option (Int32 × cM) :=
  if x0 < 0 then some (nI 0, S) else if (nI 8) ≤ x0 then some (nI 0, S) else some (nI 1, S)
set_option maxHeartbeats 4000000 in
set_option maxRecDepth 100000 in
theorem mX5_isShelf (l : Launch) (Γ : gG)   {S : cM} {x0 : Int32} {rz : Int32} {Sz : cM} (hf : fX5_isShelf S x0 = some (rz, Sz)) : CtI l Γ 74 yX5_isShelf cX5_isShelf 1 .boolean 0 0 [.int x0] (cE Γ S) rz (cE Γ Sz) := by
  refine met_body (Γ := Γ) (lv := [(0, .int x0)]) RX5 (by decide) rfl rfl rfl ?_
  intro p e s m below meth c H locs ls C hP hl
  obtain ⟨hx, hb, -, -, hown, hts, -, hwx, -⟩ := id C
  unfold fX5_isShelf at hf
  refine lv_iload_n hx hb dX5_isShelf_0 rfl (lv_at hl 0 rfl) ?_
  refine lv_if_lt (tgt := 14) hx hb dX5_isShelf_1 (by decide) (fun hc1 => ?_) (fun hc1 => ?_)
  · have hf := if_t hc1 hf
    refine lv_iconst (v := nI 0) hx hb dX5_isShelf_14 rfl ?_
    exact r_zret (X := cE Γ) C hP (Or.inl rfl) hf dX5_isShelf_15
  · have hf := if_f hc1 hf
    refine lv_iload_n hx hb dX5_isShelf_4 rfl (lv_at hl 0 rfl) ?_
    refine lv_bipush (v := nI 8) hx hb dX5_isShelf_5 rfl ?_
    refine lv_icmp_ge (tgt := 14) hx hb dX5_isShelf_7 (by decide) (fun hc2 => ?_) (fun hc2 => ?_)
    · have hf := if_t hc2 hf
      refine lv_iconst (v := nI 0) hx hb dX5_isShelf_14 rfl ?_
      exact r_zret (X := cE Γ) C hP (Or.inl rfl) hf dX5_isShelf_15
    · have hf := if_f hc2 hf
      refine lv_iconst (v := nI 1) hx hb dX5_isShelf_10 rfl ?_
      refine lv_goto (tgt := 15) hx hb dX5_isShelf_11 (by decide) ?_
      exact r_zret (X := cE Γ) C hP (Or.inr rfl) hf dX5_isShelf_15
-- X5_shelfRefusal
theorem qX5_shelfRefusal : Cond.instanceMethod yX5_shelfRefusal ∈ Ub ∧ Cond.selects RX5 yX5_shelfRefusal yX5_shelfRefusal ∈ Ub ∧ Cond.initialized RX5 ∈ Ub ∧ Cond.code yX5_shelfRefusal cX5_shelfRefusal 3 (some FieldType.int) ∈ Ub ∧ (yX5_shelfRefusal.cls = RX5 ∧ yX5_shelfRefusal.cls ≠ "java/lang/invoke/MethodHandle" ∧ yX5_shelfRefusal.cls ≠ "java/lang/invoke/VarHandle" ∧ (parseMethodDescriptor yX5_shelfRefusal.desc).map (fun d => d.parameters.length) = some 2) := ⟨k1_172, ks_2, k1_1, k1_173, by decide +kernel⟩
def fX5_shelfRefusal  (S : cM) (x1 : Int32) (x2 : Int32) : Option (Int32 × cM) :=
  bd (fX5_isShelf S x1) fun v1 S1 => ( if v1 = 0 then some ((-1), S1) else gi x1 8 (if (S1.1 (53 + (x1).toNatClampNeg) 0) = 0 then some ((-11), S1) else gi x1 8 (if (S1.1 (53 + (x1).toNatClampNeg) 0) = x2 then some (nI 0, S1) else some ((-12), S1))))
set_option maxHeartbeats 4000000 in
set_option maxRecDepth 100000 in
theorem mX5_shelfRefusal (l : Launch) (Γ : gG)   {S : cM} {x1 : Int32} {x2 : Int32} {rz : Int32} {Sz : cM} (hf : fX5_shelfRefusal S x1 x2 = some (rz, Sz)) : CtI l Γ 74 yX5_shelfRefusal cX5_shelfRefusal 3 .int 1 20 [.ref (Γ.2.2 (0)), .int x1, .int x2] (cE Γ S) rz (cE Γ Sz) := by
  refine met_body (Γ := Γ) (lv := [(0, .ref (Γ.2.2 (0))), (1, .int x1), (2, .int x2)]) RX5 (by decide) rfl rfl rfl ?_
  intro p e s m below meth c H locs ls C hP hl
  obtain ⟨hx, hb, -, -, hown, hts, -, hwx, -⟩ := id C
  unfold fX5_shelfRefusal at hf
  refine lv_iload_n hx hb dX5_shelfRefusal_0 rfl (lv_at hl 1 rfl) ?_
  refine bd_i hf (fun v1 S1 hq1 hf => ?_)
  refine goI (runS (rest := []) (mX5_isShelf l Γ  hq1) C hP hl.1 k1_174 qX5_isShelf.1 qX5_isShelf.2.1 qX5_isShelf.2.2.1 rfl qX5_isShelf.2.2.2 ⟨Nat.le_of_ble_eq_true rfl, Nat.le_of_ble_eq_true rfl⟩ ⟨Nat.le_refl 0, Nat.le_refl 0⟩ (Nat.le_of_ble_eq_true rfl) dX5_shelfRefusal_1) hP (fun H locs hP => ?_)
  refine lv_if_ne (tgt := 9) hx hb dX5_shelfRefusal_4 (by decide) (fun hc2 => ?_) (fun hc2 => ?_)
  · have hf := if_f hc2 hf
    refine lv_aload_n hx hb dX5_shelfRefusal_9 rfl (lv_at hl 0 rfl) ?_
    refine c0_get C hP 4 (by decide) k1_131 rfl (v := .ref (Γ.2.2 (52))) rfl dX5_shelfRefusal_10 ?_
    refine lv_iload_n hx hb dX5_shelfRefusal_13 rfl (lv_at hl 1 rfl) ?_
    refine gi_i hf (fun hi3 hj4 hf => ?_)
    refine c_aldS C hP hi3 dX5_shelfRefusal_14 ?_
    refine c4_get C hP (by omega) 0 (by decide) k1_97 rfl (v := .int (S1.1 (53 + (x1).toNatClampNeg) 0)) rfl dX5_shelfRefusal_15 ?_
    refine lv_if_ne (tgt := 24) hx hb dX5_shelfRefusal_18 (by decide) (fun hc5 => ?_) (fun hc5 => ?_)
    · have hf := if_f hc5 hf
      refine lv_aload_n hx hb dX5_shelfRefusal_24 rfl (lv_at hl 0 rfl) ?_
      refine c0_get C hP 4 (by decide) k1_131 rfl (v := .ref (Γ.2.2 (52))) rfl dX5_shelfRefusal_25 ?_
      refine lv_iload_n hx hb dX5_shelfRefusal_28 rfl (lv_at hl 1 rfl) ?_
      refine gi_i hf (fun hi6 hj7 hf => ?_)
      refine c_aldS C hP hi6 dX5_shelfRefusal_29 ?_
      refine c4_get C hP (by omega) 0 (by decide) k1_97 rfl (v := .int (S1.1 (53 + (x1).toNatClampNeg) 0)) rfl dX5_shelfRefusal_30 ?_
      refine lv_iload_n hx hb dX5_shelfRefusal_33 rfl (lv_at hl 2 rfl) ?_
      refine lv_icmp_ne (tgt := 41) hx hb dX5_shelfRefusal_34 (by decide) (fun hc8 => ?_) (fun hc8 => ?_)
      · have hf := if_f hc8 hf
        refine lv_bipush (v := (-12)) hx hb dX5_shelfRefusal_41 rfl ?_
        exact r_iret (X := cE Γ) C hP hf dX5_shelfRefusal_43
      · have hf := if_t hc8 hf
        refine lv_iconst (v := nI 0) hx hb dX5_shelfRefusal_37 rfl ?_
        refine lv_goto (tgt := 43) hx hb dX5_shelfRefusal_38 (by decide) ?_
        exact r_iret (X := cE Γ) C hP hf dX5_shelfRefusal_43
    · have hf := if_t hc5 hf
      refine lv_bipush (v := (-11)) hx hb dX5_shelfRefusal_21 rfl ?_
      exact r_iret (X := cE Γ) C hP hf dX5_shelfRefusal_23
  · have hf := if_t hc2 hf
    refine lv_iconst (v := (-1)) hx hb dX5_shelfRefusal_7 rfl ?_
    exact r_iret (X := cE Γ) C hP hf dX5_shelfRefusal_8
-- X5_rowRefusal
theorem qX5_rowRefusal : Cond.instanceMethod yX5_rowRefusal ∈ Ub ∧ Cond.selects RX5 yX5_rowRefusal yX5_rowRefusal ∈ Ub ∧ Cond.initialized RX5 ∈ Ub ∧ Cond.code yX5_rowRefusal cX5_rowRefusal 2 (some FieldType.int) ∈ Ub ∧ (yX5_rowRefusal.cls = RX5 ∧ yX5_rowRefusal.cls ≠ "java/lang/invoke/MethodHandle" ∧ yX5_rowRefusal.cls ≠ "java/lang/invoke/VarHandle" ∧ (parseMethodDescriptor yX5_rowRefusal.desc).map (fun d => d.parameters.length) = some 1) := ⟨k1_168, ks_1, k1_1, k1_169, by decide +kernel⟩
def fX5_rowRefusal  (S : cM) (x1 : Int32) : Option (Int32 × cM) :=
  bd (fX5_shelfRefusal S x1 (nI 2)) fun v1 S1 => ( some (v1, S1))
set_option maxHeartbeats 4000000 in
set_option maxRecDepth 100000 in
theorem mX5_rowRefusal (l : Launch) (Γ : gG)   {S : cM} {x1 : Int32} {rz : Int32} {Sz : cM} (hf : fX5_rowRefusal S x1 = some (rz, Sz)) : CtI l Γ 74 yX5_rowRefusal cX5_rowRefusal 2 .int 2 42 [.ref (Γ.2.2 (0)), .int x1] (cE Γ S) rz (cE Γ Sz) := by
  refine met_body (Γ := Γ) (lv := [(0, .ref (Γ.2.2 (0))), (1, .int x1)]) RX5 (by decide) rfl rfl rfl ?_
  intro p e s m below meth c H locs ls C hP hl
  obtain ⟨hx, hb, -, -, hown, hts, -, hwx, -⟩ := id C
  unfold fX5_rowRefusal at hf
  refine lv_aload_n hx hb dX5_rowRefusal_0 rfl (lv_at hl 0 rfl) ?_
  refine lv_iload_n hx hb dX5_rowRefusal_1 rfl (lv_at hl 1 rfl) ?_
  refine lv_iconst (v := nI 2) hx hb dX5_rowRefusal_2 rfl ?_
  refine bd_i hf (fun v1 S1 hq1 hf => ?_)
  refine goI (runV (rest := []) (b := 0) (mX5_shelfRefusal l Γ  hq1) C hP hl.1 (by decide) cE0 rfl k1_170 qX5_shelfRefusal.1 qX5_shelfRefusal.2.1 qX5_shelfRefusal.2.2.1 qX5_shelfRefusal.2.2.2.1 rfl qX5_shelfRefusal.2.2.2.2 ⟨Nat.le_of_ble_eq_true rfl, Nat.le_of_ble_eq_true rfl⟩ ⟨Nat.le_refl 0, Nat.le_refl 0⟩ (Nat.le_of_ble_eq_true rfl) dX5_rowRefusal_3) hP (fun H locs hP => ?_)
  exact r_iret (X := cE Γ) C hP hf dX5_rowRefusal_6
-- X5_bytesRefusal
theorem qX5_bytesRefusal : Cond.instanceMethod yX5_bytesRefusal ∈ Ub ∧ Cond.selects RX5 yX5_bytesRefusal yX5_bytesRefusal ∈ Ub ∧ Cond.initialized RX5 ∈ Ub ∧ Cond.code yX5_bytesRefusal cX5_bytesRefusal 3 (some FieldType.int) ∈ Ub ∧ (yX5_bytesRefusal.cls = RX5 ∧ yX5_bytesRefusal.cls ≠ "java/lang/invoke/MethodHandle" ∧ yX5_bytesRefusal.cls ≠ "java/lang/invoke/VarHandle" ∧ (parseMethodDescriptor yX5_bytesRefusal.desc).map (fun d => d.parameters.length) = some 1) := ⟨k1_164, ks_0, k1_1, k1_165, by decide +kernel⟩
def fX5_bytesRefusal  (S : cM) (x1 : Int32) : Option (Int32 × cM) :=
  bd (fX5_rowRefusal S x1) fun v1 S1 => ( if v1 = 0 then gi x1 8 (if (S1.1 (53 + (x1).toNatClampNeg) 4) = 0 then some (nI 0, S1) else some ((-12), S1)) else some (v1, S1))
set_option maxHeartbeats 4000000 in
set_option maxRecDepth 100000 in
theorem mX5_bytesRefusal (l : Launch) (Γ : gG)   {S : cM} {x1 : Int32} {rz : Int32} {Sz : cM} (hf : fX5_bytesRefusal S x1 = some (rz, Sz)) : CtI l Γ 74 yX5_bytesRefusal cX5_bytesRefusal 3 .int 3 63 [.ref (Γ.2.2 (0)), .int x1] (cE Γ S) rz (cE Γ Sz) := by
  refine met_body (Γ := Γ) (lv := [(0, .ref (Γ.2.2 (0))), (1, .int x1)]) RX5 (by decide) rfl rfl rfl ?_
  intro p e s m below meth c H locs ls C hP hl
  obtain ⟨hx, hb, -, -, hown, hts, -, hwx, -⟩ := id C
  unfold fX5_bytesRefusal at hf
  refine lv_aload_n hx hb dX5_bytesRefusal_0 rfl (lv_at hl 0 rfl) ?_
  refine lv_iload_n hx hb dX5_bytesRefusal_1 rfl (lv_at hl 1 rfl) ?_
  refine bd_i hf (fun v1 S1 hq1 hf => ?_)
  refine goI (runV (rest := []) (b := 0) (mX5_rowRefusal l Γ  hq1) C hP hl.1 (by decide) cE0 rfl k1_166 qX5_rowRefusal.1 qX5_rowRefusal.2.1 qX5_rowRefusal.2.2.1 qX5_rowRefusal.2.2.2.1 rfl qX5_rowRefusal.2.2.2.2 ⟨Nat.le_of_ble_eq_true rfl, Nat.le_of_ble_eq_true rfl⟩ ⟨Nat.le_refl 0, Nat.le_refl 0⟩ (Nat.le_of_ble_eq_true rfl) dX5_bytesRefusal_2) hP (fun H locs hP => ?_)
  refine lv_istore_n (lv' := [(2, .int v1), (0, .ref (Γ.2.2 (0))), (1, .int x1)]) hx hb dX5_bytesRefusal_5 rfl hl (by decide) rfl (fun ls hl => ?_)
  refine lv_iload_n hx hb dX5_bytesRefusal_6 rfl (lv_at hl 0 rfl) ?_
  refine lv_if_eq (tgt := 12) hx hb dX5_bytesRefusal_7 (by decide) (fun hc2 => ?_) (fun hc2 => ?_)
  · have hf := if_t hc2 hf
    refine lv_aload_n hx hb dX5_bytesRefusal_12 rfl (lv_at hl 1 rfl) ?_
    refine c0_get C hP 4 (by decide) k1_131 rfl (v := .ref (Γ.2.2 (52))) rfl dX5_bytesRefusal_13 ?_
    refine lv_iload_n hx hb dX5_bytesRefusal_16 rfl (lv_at hl 2 rfl) ?_
    refine gi_i hf (fun hi3 hj4 hf => ?_)
    refine c_aldS C hP hi3 dX5_bytesRefusal_17 ?_
    refine c4_get C hP (by omega) 4 (by decide) k1_105 rfl (v := .int (S1.1 (53 + (x1).toNatClampNeg) 4)) rfl dX5_bytesRefusal_18 ?_
    refine lv_if_ne (tgt := 28) hx hb dX5_bytesRefusal_21 (by decide) (fun hc5 => ?_) (fun hc5 => ?_)
    · have hf := if_f hc5 hf
      refine lv_bipush (v := (-12)) hx hb dX5_bytesRefusal_28 rfl ?_
      exact r_iret (X := cE Γ) C hP hf dX5_bytesRefusal_30
    · have hf := if_t hc5 hf
      refine lv_iconst (v := nI 0) hx hb dX5_bytesRefusal_24 rfl ?_
      refine lv_goto (tgt := 30) hx hb dX5_bytesRefusal_25 (by decide) ?_
      exact r_iret (X := cE Γ) C hP hf dX5_bytesRefusal_30
  · have hf := if_f hc2 hf
    refine lv_iload_n hx hb dX5_bytesRefusal_10 rfl (lv_at hl 0 rfl) ?_
    exact r_iret (X := cE Γ) C hP hf dX5_bytesRefusal_11
-- X5_border
theorem qX5_border : Cond.instanceMethod yX5_border ∈ Ub ∧ Cond.selects RX5 yX5_border yX5_border ∈ Ub ∧ Cond.initialized RX5 ∈ Ub ∧ Cond.code yX5_border cX5_border 8 (some FieldType.int) ∈ Ub ∧ (yX5_border.cls = RX5 ∧ yX5_border.cls ≠ "java/lang/invoke/MethodHandle" ∧ yX5_border.cls ≠ "java/lang/invoke/VarHandle" ∧ (parseMethodDescriptor yX5_border.desc).map (fun d => d.parameters.length) = some 1) := ⟨k1_159, k1_160, k1_1, k1_161, by decide +kernel⟩
def fX5_border_109  (K57 : cM → Nat → Int32 → Int32 → Int32 → Option (Int32 × cM)) (S : cM) (ux3 : Nat) (x5 : Int32) (x6 : Int32) (x7 : Int32) : Option (Int32 × cM) :=
  K57 S ux3 x5 x6 (x7 + (nI 1))
set_option maxHeartbeats 4000000 in
set_option maxRecDepth 100000 in
theorem wX5_border_109 {p : Program} {l : Launch} {e : Env} {s : State} {m : MethodId} {args : Array Value} {below : List Frame} {meth : Method} {c : Code} {Γ : gG} {rz : Int32} {Sz : cM} (C : Cx Γ 74 p s m args meth c RX5 cX5_border 8 (some .int))  {K57 : cM → Nat → Int32 → Int32 → Int32 → Option (Int32 × cM)} (hK57 : ∀ (S : cM) (ux3 : Nat) (x5 : Int32) (x6 : Int32) (x7 : Int32) (hux3 : 53 ≤ ux3 ∧ ux3 ≤ 60), K57 S ux3 x5 x6 x7 = some (rz, Sz) → ∀ (H : Heap) (locs : List Loc) (ls : Array Slot), St Γ 74 (cE Γ S) s.heap H locs → lv_has ls 8 [(0, .ref (Γ.2.2 (0))), (3, .ref (Γ.2.2 (ux3))), (5, .int x5), (6, .int x6), (7, .int x7)] → W p l e { frames := 6, cells := 0, slots := 0, locals := 138 } s m args below meth c H locs 0 0 (MQ below (gQi Γ 74 rz (cE Γ Sz)) args s 0 0 (wA Γ 74)) (F0 m 57 ls [])) : ∀ (S : cM) (ux3 : Nat) (x5 : Int32) (x6 : Int32) (x7 : Int32) (hux3 : 53 ≤ ux3 ∧ ux3 ≤ 60), fX5_border_109  K57 S ux3 x5 x6 x7 = some (rz, Sz) → ∀ (H : Heap) (locs : List Loc) (ls : Array Slot), St Γ 74 (cE Γ S) s.heap H locs → lv_has ls 8 [(0, .ref (Γ.2.2 (0))), (3, .ref (Γ.2.2 (ux3))), (5, .int x5), (6, .int x6), (7, .int x7)] → W p l e { frames := 6, cells := 0, slots := 0, locals := 138 } s m args below meth c H locs 0 0 (MQ below (gQi Γ 74 rz (cE Γ Sz)) args s 0 0 (wA Γ 74)) (F0 m 109 ls []) := by
  obtain ⟨hx, hb, -, -, hown, hts, -, hwx, -⟩ := id C
  intro S ux3 x5 x6 x7 hux3 hf H locs ls hP hl
  unfold fX5_border_109 at hf
  refine lv_iinc (v := x7 + (nI 1)) (lv' := [(7, .int (x7 + (nI 1))), (0, .ref (Γ.2.2 (0))), (3, .ref (Γ.2.2 (ux3))), (5, .int x5), (6, .int x6)]) hx hb dX5_border_109 hl (k := 4) rfl rfl (by decide) rfl (fun ls hl => ?_)
  refine lv_goto (tgt := 57) hx hb dX5_border_112 (by decide) ?_
  exact hK57 S ux3 x5 x6 (x7 + (nI 1)) hux3 hf _ _ _ hP (lv_sub hl [1, 2, 3, 4, 0] rfl)
def fX5_border_57   : Nat → cM → Nat → Int32 → Int32 → Int32 → Option (Int32 × cM)
  | 0, _, _, _, _, _ => none
  | n + 1, S, ux3, x5, x6, x7 =>
    if (S.1 ux3 5) ≤ x7 then gn S.2.1 1 3 (gn S.2.2 1 3 (sv ((S.1, S.2.2, S.2.2)) fun S13 => ( sv ((S13.1, S13.2.1, S.2.1)) fun S14 => ( some (x5, S14))))) else gi x7 100 (if (S.1 (ux3 + 8) (x7).toNatClampNeg) = (nI 59) then gn S.2.2 1 3 (bd (fX0_carryOut ux3 S.2.2 S x6 x7) fun v19 S19 => ( if v19 = 0 then some ((-2000) - x6, S19) else fX5_border_109  (fX5_border_57   n)  S19 ux3 (x5 + (nI 1)) (x7 + (nI 1)) x7)) else fX5_border_109  (fX5_border_57   n)  S ux3 x5 x6 x7)
set_option maxHeartbeats 4000000 in
set_option maxRecDepth 100000 in
theorem wX5_border_57 {p : Program} {l : Launch} {e : Env} {s : State} {m : MethodId} {args : Array Value} {below : List Frame} {meth : Method} {c : Code} {Γ : gG} {rz : Int32} {Sz : cM} (C : Cx Γ 74 p s m args meth c RX5 cX5_border 8 (some .int))   : ∀ n : Nat, ∀ (S : cM) (ux3 : Nat) (x5 : Int32) (x6 : Int32) (x7 : Int32) (hux3 : 53 ≤ ux3 ∧ ux3 ≤ 60), fX5_border_57   n S ux3 x5 x6 x7 = some (rz, Sz) → ∀ (H : Heap) (locs : List Loc) (ls : Array Slot), St Γ 74 (cE Γ S) s.heap H locs → lv_has ls 8 [(0, .ref (Γ.2.2 (0))), (3, .ref (Γ.2.2 (ux3))), (5, .int x5), (6, .int x6), (7, .int x7)] → W p l e { frames := 6, cells := 0, slots := 0, locals := 138 } s m args below meth c H locs 0 0 (MQ below (gQi Γ 74 rz (cE Γ Sz)) args s 0 0 (wA Γ 74)) (F0 m 57 ls []) := by
  obtain ⟨hx, hb, -, -, hown, hts, -, hwx, -⟩ := id C
  intro n
  induction n with
  | zero =>
    intro S ux3 x5 x6 x7 hux3 hf
    unfold fX5_border_57 at hf
    cases hf
  | succ n ih =>
    intro S ux3 x5 x6 x7 hux3 hf H locs ls hP hl
    unfold fX5_border_57 at hf
    refine lv_iload hx hb dX5_border_57 (lv_at hl 4 rfl) ?_
    refine lv_aload_n hx hb dX5_border_59 rfl (lv_at hl 1 rfl) ?_
    refine c4_get C hP hux3 5 (by decide) k1_108 rfl (v := .int (S.1 ux3 5)) rfl dX5_border_60 ?_
    refine lv_icmp_ge (tgt := 115) hx hb dX5_border_63 (by decide) (fun hc10 => ?_) (fun hc10 => ?_)
    · have hf := if_t hc10 hf
      refine lv_aload_n hx hb dX5_border_115 rfl (lv_at hl 0 rfl) ?_
      refine gn_i hf (fun hN11 hf => ?_)
      refine c0_get C hP 0 (by decide) k1_127 rfl (v := .ref (Γ.2.2 (S.2.1))) rfl dX5_border_116 ?_
      refine lv_astore (lv' := [(7, .ref (Γ.2.2 (S.2.1))), (0, .ref (Γ.2.2 (0))), (3, .ref (Γ.2.2 (ux3))), (5, .int x5), (6, .int x6)]) hx hb dX5_border_119 hl (by decide) rfl (fun ls hl => ?_)
      refine lv_aload_n hx hb dX5_border_121 rfl (lv_at hl 1 rfl) ?_
      refine lv_aload_n hx hb dX5_border_122 rfl (lv_at hl 1 rfl) ?_
      refine gn_i hf (fun hN12 hf => ?_)
      refine c0_get C hP 1 (by decide) k1_128 rfl (v := .ref (Γ.2.2 (S.2.2))) rfl dX5_border_123 ?_
      refine c0_putN C hP k1_127 dX5_border_126 (fun H locs hP => ?_)
      refine sv_i hf (fun S13 e13 hf => ?_)
      rw [← e13] at hP
      refine lv_aload_n hx hb dX5_border_129 rfl (lv_at hl 1 rfl) ?_
      refine lv_aload hx hb dX5_border_130 (lv_at hl 0 rfl) ?_
      refine c0_putM C hP k1_128 dX5_border_132 (fun H locs hP => ?_)
      refine sv_i hf (fun S14 e14 hf => ?_)
      rw [← e14] at hP
      refine lv_iload hx hb dX5_border_135 (lv_at hl 3 rfl) ?_
      exact r_iret (X := cE Γ) C hP hf dX5_border_137
    · have hf := if_f hc10 hf
      refine lv_aload_n hx hb dX5_border_66 rfl (lv_at hl 1 rfl) ?_
      refine c4_get C hP hux3 6 (by decide) k1_111 rfl (v := .ref (Γ.2.2 (ux3 + 8))) rfl dX5_border_67 ?_
      refine lv_iload hx hb dX5_border_70 (lv_at hl 4 rfl) ?_
      refine gi_i hf (fun hi15 hj16 hf => ?_)
      refine c_ild C hP (cA_va hux3) hi15 dX5_border_72 ?_
      refine lv_bipush (v := nI 59) hx hb dX5_border_73 rfl ?_
      refine lv_icmp_ne (tgt := 109) hx hb dX5_border_75 (by decide) (fun hc17 => ?_) (fun hc17 => ?_)
      · have hf := if_f hc17 hf
        exact wX5_border_109 C  ih  S ux3 x5 x6 x7 hux3 hf _ _ _ hP (lv_sub hl [0, 1, 2, 3, 4] rfl)
      · have hf := if_t hc17 hf
        refine lv_aload_n hx hb dX5_border_78 rfl (lv_at hl 1 rfl) ?_
        refine lv_iload hx hb dX5_border_79 (lv_at hl 3 rfl) ?_
        refine lv_iload hx hb dX5_border_81 (lv_at hl 4 rfl) ?_
        refine lv_aload_n hx hb dX5_border_83 rfl (lv_at hl 0 rfl) ?_
        refine gn_i hf (fun hN18 hf => ?_)
        refine c0_get C hP 1 (by decide) k1_128 rfl (v := .ref (Γ.2.2 (S.2.2))) rfl dX5_border_84 ?_
        refine bd_i hf (fun v19 S19 hq19 hf => ?_)
        refine goI (runS (rest := []) (mX0_carryOut l Γ hux3 hN18 hq19) C hP hl.1 k1_200 qX0_carryOut.1 qX0_carryOut.2.1 qX0_carryOut.2.2.1 rfl qX0_carryOut.2.2.2 ⟨Nat.le_of_ble_eq_true rfl, Nat.le_of_ble_eq_true rfl⟩ ⟨Nat.le_refl 0, Nat.le_refl 0⟩ (Nat.le_of_ble_eq_true rfl) dX5_border_87) hP (fun H locs hP => ?_)
        refine lv_if_ne (tgt := 100) hx hb dX5_border_90 (by decide) (fun hc20 => ?_) (fun hc20 => ?_)
        · have hf := if_f hc20 hf
          refine lv_iinc (v := x5 + (nI 1)) (lv' := [(5, .int (x5 + (nI 1))), (0, .ref (Γ.2.2 (0))), (3, .ref (Γ.2.2 (ux3))), (6, .int x6), (7, .int x7)]) hx hb dX5_border_100 hl (k := 2) rfl rfl (by decide) rfl (fun ls hl => ?_)
          refine lv_iload hx hb dX5_border_103 (lv_at hl 4 rfl) ?_
          refine lv_iconst (v := nI 1) hx hb dX5_border_105 rfl ?_
          refine lv_iadd hx hb dX5_border_106 ?_
          refine lv_istore (lv' := [(6, .int (x7 + (nI 1))), (5, .int (x5 + (nI 1))), (0, .ref (Γ.2.2 (0))), (3, .ref (Γ.2.2 (ux3))), (7, .int x7)]) hx hb dX5_border_107 hl (by decide) rfl (fun ls hl => ?_)
          exact wX5_border_109 C  ih  S19 ux3 (x5 + (nI 1)) (x7 + (nI 1)) x7 hux3 hf _ _ _ hP (lv_sub hl [2, 3, 1, 0, 4] rfl)
        · have hf := if_t hc20 hf
          refine lv_sipush (v := (-2000)) hx hb dX5_border_93 rfl ?_
          refine lv_iload hx hb dX5_border_96 (lv_at hl 3 rfl) ?_
          refine lv_isub hx hb dX5_border_98 ?_
          exact r_iret (X := cE Γ) C hP hf dX5_border_99
def fX5_border  (S : cM) (x1 : Int32) : Option (Int32 × cM) :=
  bd (fX5_bytesRefusal S x1) fun v1 S1 => ( if v1 = 0 then gi x1 8 (bd (fX0_firstBadByte (53 + (x1).toNatClampNeg) S1) fun v5 S5 => ( if v5 < 0 then gn S5.2.2 1 3 (gn S5.2.1 1 3 (bv (fX1_becomeLike S5.2.2 S5.2.1 S5) fun S9 => ( fX5_border_57   lF S9 (53 + (x1).toNatClampNeg) (nI 0) (nI 0) (nI 0)))) else some ((-1000) - v5, S5))) else some (v1, S1))
set_option maxHeartbeats 4000000 in
set_option maxRecDepth 100000 in
theorem mX5_border (l : Launch) (Γ : gG)   {S : cM} {x1 : Int32} {rz : Int32} {Sz : cM} (hf : fX5_border S x1 = some (rz, Sz)) : CtI l Γ 74 yX5_border cX5_border 8 .int 6 138 [.ref (Γ.2.2 (0)), .int x1] (cE Γ S) rz (cE Γ Sz) := by
  refine met_body (Γ := Γ) (lv := [(0, .ref (Γ.2.2 (0))), (1, .int x1)]) RX5 (by decide) rfl rfl rfl ?_
  intro p e s m below meth c H locs ls C hP hl
  obtain ⟨hx, hb, -, -, hown, hts, -, hwx, -⟩ := id C
  unfold fX5_border at hf
  refine lv_aload_n hx hb dX5_border_0 rfl (lv_at hl 0 rfl) ?_
  refine lv_iload_n hx hb dX5_border_1 rfl (lv_at hl 1 rfl) ?_
  refine bd_i hf (fun v1 S1 hq1 hf => ?_)
  refine goI (runV (rest := []) (b := 0) (mX5_bytesRefusal l Γ  hq1) C hP hl.1 (by decide) cE0 rfl k1_162 qX5_bytesRefusal.1 qX5_bytesRefusal.2.1 qX5_bytesRefusal.2.2.1 qX5_bytesRefusal.2.2.2.1 rfl qX5_bytesRefusal.2.2.2.2 ⟨Nat.le_of_ble_eq_true rfl, Nat.le_of_ble_eq_true rfl⟩ ⟨Nat.le_refl 0, Nat.le_refl 0⟩ (Nat.le_of_ble_eq_true rfl) dX5_border_2) hP (fun H locs hP => ?_)
  refine lv_istore_n (lv' := [(2, .int v1), (0, .ref (Γ.2.2 (0))), (1, .int x1)]) hx hb dX5_border_5 rfl hl (by decide) rfl (fun ls hl => ?_)
  refine lv_iload_n hx hb dX5_border_6 rfl (lv_at hl 0 rfl) ?_
  refine lv_if_eq (tgt := 12) hx hb dX5_border_7 (by decide) (fun hc2 => ?_) (fun hc2 => ?_)
  · have hf := if_t hc2 hf
    refine lv_aload_n hx hb dX5_border_12 rfl (lv_at hl 1 rfl) ?_
    refine c0_get C hP 4 (by decide) k1_131 rfl (v := .ref (Γ.2.2 (52))) rfl dX5_border_13 ?_
    refine lv_iload_n hx hb dX5_border_16 rfl (lv_at hl 2 rfl) ?_
    refine gi_i hf (fun hi3 hj4 hf => ?_)
    refine c_aldS C hP hi3 dX5_border_17 ?_
    refine lv_astore_n (lv' := [(3, .ref (Γ.2.2 (53 + (x1).toNatClampNeg))), (2, .int v1), (0, .ref (Γ.2.2 (0))), (1, .int x1)]) hx hb dX5_border_18 rfl hl (by decide) rfl (fun ls hl => ?_)
    refine lv_aload_n hx hb dX5_border_19 rfl (lv_at hl 0 rfl) ?_
    refine bd_i hf (fun v5 S5 hq5 hf => ?_)
    refine goI (runS (rest := []) (mX0_firstBadByte l Γ (by omega) hq5) C hP hl.1 k1_177 qX0_firstBadByte.1 qX0_firstBadByte.2.1 qX0_firstBadByte.2.2.1 rfl qX0_firstBadByte.2.2.2 ⟨Nat.le_of_ble_eq_true rfl, Nat.le_of_ble_eq_true rfl⟩ ⟨Nat.le_refl 0, Nat.le_refl 0⟩ (Nat.le_of_ble_eq_true rfl) dX5_border_20) hP (fun H locs hP => ?_)
    refine lv_istore (lv' := [(4, .int v5), (3, .ref (Γ.2.2 (53 + (x1).toNatClampNeg))), (2, .int v1), (0, .ref (Γ.2.2 (0))), (1, .int x1)]) hx hb dX5_border_23 hl (by decide) rfl (fun ls hl => ?_)
    refine lv_iload hx hb dX5_border_25 (lv_at hl 0 rfl) ?_
    refine lv_if_lt (tgt := 37) hx hb dX5_border_27 (by decide) (fun hc6 => ?_) (fun hc6 => ?_)
    · have hf := if_t hc6 hf
      refine lv_aload_n hx hb dX5_border_37 rfl (lv_at hl 3 rfl) ?_
      refine gn_i hf (fun hN7 hf => ?_)
      refine c0_get C hP 1 (by decide) k1_128 rfl (v := .ref (Γ.2.2 (S5.2.2))) rfl dX5_border_38 ?_
      refine lv_aload_n hx hb dX5_border_41 rfl (lv_at hl 3 rfl) ?_
      refine gn_i hf (fun hN8 hf => ?_)
      refine c0_get C hP 0 (by decide) k1_127 rfl (v := .ref (Γ.2.2 (S5.2.1))) rfl dX5_border_42 ?_
      refine bv_i hf (fun S9 hq9 hf => ?_)
      refine goV (runV (rest := []) (mX1_becomeLike l Γ hN7 hN8 hq9) C hP hl.1 (by have := hN7; omega) (cE1 hN7) rfl k1_189 qX1_becomeLike.1 qX1_becomeLike.2.1 qX1_becomeLike.2.2.1 qX1_becomeLike.2.2.2.1 rfl qX1_becomeLike.2.2.2.2 ⟨Nat.le_of_ble_eq_true rfl, Nat.le_of_ble_eq_true rfl⟩ ⟨Nat.le_refl 0, Nat.le_refl 0⟩ (Nat.le_of_ble_eq_true rfl) dX5_border_45) hP (fun H locs hP => ?_)
      refine lv_iconst (v := nI 0) hx hb dX5_border_48 rfl ?_
      refine lv_istore (lv' := [(5, .int (nI 0)), (4, .int v5), (3, .ref (Γ.2.2 (53 + (x1).toNatClampNeg))), (2, .int v1), (0, .ref (Γ.2.2 (0))), (1, .int x1)]) hx hb dX5_border_49 hl (by decide) rfl (fun ls hl => ?_)
      refine lv_iconst (v := nI 0) hx hb dX5_border_51 rfl ?_
      refine lv_istore (lv' := [(6, .int (nI 0)), (5, .int (nI 0)), (4, .int v5), (3, .ref (Γ.2.2 (53 + (x1).toNatClampNeg))), (2, .int v1), (0, .ref (Γ.2.2 (0))), (1, .int x1)]) hx hb dX5_border_52 hl (by decide) rfl (fun ls hl => ?_)
      refine lv_iconst (v := nI 0) hx hb dX5_border_54 rfl ?_
      refine lv_istore (lv' := [(7, .int (nI 0)), (6, .int (nI 0)), (5, .int (nI 0)), (4, .int v5), (3, .ref (Γ.2.2 (53 + (x1).toNatClampNeg))), (2, .int v1), (0, .ref (Γ.2.2 (0))), (1, .int x1)]) hx hb dX5_border_55 hl (by decide) rfl (fun ls hl => ?_)
      exact wX5_border_57 C   lF S9 (53 + (x1).toNatClampNeg) (nI 0) (nI 0) (nI 0) (by omega) hf _ _ _ hP (lv_sub hl [6, 4, 2, 1, 0] rfl)
    · have hf := if_f hc6 hf
      refine lv_sipush (v := (-1000)) hx hb dX5_border_30 rfl ?_
      refine lv_iload hx hb dX5_border_33 (lv_at hl 0 rfl) ?_
      refine lv_isub hx hb dX5_border_35 ?_
      exact r_iret (X := cE Γ) C hP hf dX5_border_36
  · have hf := if_f hc2 hf
    refine lv_iload_n hx hb dX5_border_10 rfl (lv_at hl 0 rfl) ?_
    exact r_iret (X := cE Γ) C hP hf dX5_border_11
-- X5_lane
theorem qX5_lane : Cond.instanceMethod yX5_lane ∈ Ub ∧ Cond.selects RX5 yX5_lane yX5_lane ∈ Ub ∧ Cond.initialized RX5 ∈ Ub ∧ Cond.code yX5_lane cX5_lane 4 (some FieldType.int) ∈ Ub ∧ (yX5_lane.cls = RX5 ∧ yX5_lane.cls ≠ "java/lang/invoke/MethodHandle" ∧ yX5_lane.cls ≠ "java/lang/invoke/VarHandle" ∧ (parseMethodDescriptor yX5_lane.desc).map (fun d => d.parameters.length) = some 2) := ⟨k2_26, k2_27, k1_1, k2_28, by decide +kernel⟩
def fX5_lane  (S : cM) (x1 : Int32) (x2 : Int32) : Option (Int32 × cM) :=
  gn S.2.1 1 3 (bd (fX1_has S.2.1 S x1) fun v2 S2 => ( if v2 = 0 then some ((-1), S2) else gn S2.2.1 1 3 (gi x1 5 ((if x2 = nI 0 then some (S2.1 (5 * S2.2.1 + 2 + (x1).toNatClampNeg) 0, S2) else if x2 = nI 1 then some (S2.1 (5 * S2.2.1 + 2 + (x1).toNatClampNeg) 1, S2) else if x2 = nI 2 then some (S2.1 (5 * S2.2.1 + 2 + (x1).toNatClampNeg) 2, S2) else if x2 = nI 3 then some (S2.1 (5 * S2.2.1 + 2 + (x1).toNatClampNeg) 3, S2) else if x2 = nI 4 then bd (fX3_waitNow (5 * S2.2.1 + 2 + (x1).toNatClampNeg) S2) fun v12 S12 => ( some (v12, S12)) else if x2 = nI 5 then bd (fX3_seenCars (5 * S2.2.1 + 2 + (x1).toNatClampNeg) S2) fun v14 S14 => ( some (v14, S14)) else if x2 = nI 6 then bd (fX3_seemsNow (5 * S2.2.1 + 2 + (x1).toNatClampNeg) S2) fun v16 S16 => ( some (v16, S16)) else if x2 = nI 7 then bd (fX3_isOpen (5 * S2.2.1 + 2 + (x1).toNatClampNeg) S2) fun v18 S18 => ( if v18 = 0 then some (nI 0, S18) else some (nI 1, S18)) else if x2 = nI 8 then some (S2.1 (5 * S2.2.1 + 2 + (x1).toNatClampNeg) 4, S2) else some ((-1), S2))))))
set_option maxHeartbeats 4000000 in
set_option maxRecDepth 100000 in
theorem mX5_lane (l : Launch) (Γ : gG)   {S : cM} {x1 : Int32} {x2 : Int32} {rz : Int32} {Sz : cM} (hf : fX5_lane S x1 x2 = some (rz, Sz)) : CtI l Γ 74 yX5_lane cX5_lane 4 .int 4 87 [.ref (Γ.2.2 (0)), .int x1, .int x2] (cE Γ S) rz (cE Γ Sz) := by
  refine met_body (Γ := Γ) (lv := [(0, .ref (Γ.2.2 (0))), (1, .int x1), (2, .int x2)]) RX5 (by decide) rfl rfl rfl ?_
  intro p e s m below meth c H locs ls C hP hl
  obtain ⟨hx, hb, -, -, hown, hts, -, hwx, -⟩ := id C
  unfold fX5_lane at hf
  refine lv_aload_n hx hb dX5_lane_0 rfl (lv_at hl 0 rfl) ?_
  refine gn_i hf (fun hN1 hf => ?_)
  refine c0_get C hP 0 (by decide) k1_127 rfl (v := .ref (Γ.2.2 (S.2.1))) rfl dX5_lane_1 ?_
  refine lv_iload_n hx hb dX5_lane_4 rfl (lv_at hl 1 rfl) ?_
  refine bd_i hf (fun v2 S2 hq2 hf => ?_)
  refine goI (runV (rest := []) (mX1_has l Γ hN1 hq2) C hP hl.1 (by have := hN1; omega) (cE1 hN1) rfl k2_29 qX1_has.1 qX1_has.2.1 qX1_has.2.2.1 qX1_has.2.2.2.1 rfl qX1_has.2.2.2.2 ⟨Nat.le_of_ble_eq_true rfl, Nat.le_of_ble_eq_true rfl⟩ ⟨Nat.le_refl 0, Nat.le_refl 0⟩ (Nat.le_of_ble_eq_true rfl) dX5_lane_5) hP (fun H locs hP => ?_)
  refine lv_if_ne (tgt := 13) hx hb dX5_lane_8 (by decide) (fun hc3 => ?_) (fun hc3 => ?_)
  · have hf := if_f hc3 hf
    refine lv_aload_n hx hb dX5_lane_13 rfl (lv_at hl 0 rfl) ?_
    refine gn_i hf (fun hN4 hf => ?_)
    refine c0_get C hP 0 (by decide) k1_127 rfl (v := .ref (Γ.2.2 (S2.2.1))) rfl dX5_lane_14 ?_
    refine c1_get C hP hN4 0 (by decide) k1_71 rfl (v := .ref (Γ.2.2 (S2.2.1 + 3))) rfl dX5_lane_17 ?_
    refine lv_iload_n hx hb dX5_lane_20 rfl (lv_at hl 1 rfl) ?_
    refine gi_i hf (fun hi5 hj6 hf => ?_)
    refine c_aldQ (q := S2.2.1) C hP hN4 hi5 dX5_lane_21 ?_
    refine lv_astore_n (lv' := [(3, .ref (Γ.2.2 (5 * S2.2.1 + 2 + (x1).toNatClampNeg))), (0, .ref (Γ.2.2 (0))), (1, .int x1), (2, .int x2)]) hx hb dX5_lane_22 rfl hl (by decide) rfl (fun ls hl => ?_)
    refine lv_iload_n hx hb dX5_lane_23 rfl (lv_at hl 3 rfl) ?_
    by_cases hs7 : x2 = nI 0
    · have hf := if_t hs7 hf
      refine lv_tableIn (tgt := 76) hx hb dX5_lane_24 (by rw [hs7]; decide) (by rw [hs7]; decide) (by rw [hs7]; rfl) (by decide) ?_
      refine lv_aload_n hx hb dX5_lane_76 rfl (lv_at hl 0 rfl) ?_
      refine c3_get C hP (by omega) 0 (by decide) k1_39 rfl (v := .int (S2.1 (5 * S2.2.1 + 2 + (x1).toNatClampNeg) 0)) rfl dX5_lane_77 ?_
      exact r_iret (X := cE Γ) C hP hf dX5_lane_80
    · have hf := if_f hs7 hf
      by_cases hs8 : x2 = nI 1
      · have hf := if_t hs8 hf
        refine lv_tableIn (tgt := 81) hx hb dX5_lane_24 (by rw [hs8]; decide) (by rw [hs8]; decide) (by rw [hs8]; rfl) (by decide) ?_
        refine lv_aload_n hx hb dX5_lane_81 rfl (lv_at hl 0 rfl) ?_
        refine c3_get C hP (by omega) 1 (by decide) k1_42 rfl (v := .int (S2.1 (5 * S2.2.1 + 2 + (x1).toNatClampNeg) 1)) rfl dX5_lane_82 ?_
        exact r_iret (X := cE Γ) C hP hf dX5_lane_85
      · have hf := if_f hs8 hf
        by_cases hs9 : x2 = nI 2
        · have hf := if_t hs9 hf
          refine lv_tableIn (tgt := 86) hx hb dX5_lane_24 (by rw [hs9]; decide) (by rw [hs9]; decide) (by rw [hs9]; rfl) (by decide) ?_
          refine lv_aload_n hx hb dX5_lane_86 rfl (lv_at hl 0 rfl) ?_
          refine c3_get C hP (by omega) 2 (by decide) k1_44 rfl (v := .int (S2.1 (5 * S2.2.1 + 2 + (x1).toNatClampNeg) 2)) rfl dX5_lane_87 ?_
          exact r_iret (X := cE Γ) C hP hf dX5_lane_90
        · have hf := if_f hs9 hf
          by_cases hs10 : x2 = nI 3
          · have hf := if_t hs10 hf
            refine lv_tableIn (tgt := 91) hx hb dX5_lane_24 (by rw [hs10]; decide) (by rw [hs10]; decide) (by rw [hs10]; rfl) (by decide) ?_
            refine lv_aload_n hx hb dX5_lane_91 rfl (lv_at hl 0 rfl) ?_
            refine c3_get C hP (by omega) 3 (by decide) k1_47 rfl (v := .int (S2.1 (5 * S2.2.1 + 2 + (x1).toNatClampNeg) 3)) rfl dX5_lane_92 ?_
            exact r_iret (X := cE Γ) C hP hf dX5_lane_95
          · have hf := if_f hs10 hf
            by_cases hs11 : x2 = nI 4
            · have hf := if_t hs11 hf
              refine lv_tableIn (tgt := 96) hx hb dX5_lane_24 (by rw [hs11]; decide) (by rw [hs11]; decide) (by rw [hs11]; rfl) (by decide) ?_
              refine lv_aload_n hx hb dX5_lane_96 rfl (lv_at hl 0 rfl) ?_
              refine bd_i hf (fun v12 S12 hq12 hf => ?_)
              refine goI (runV (rest := []) (mX3_waitNow l Γ (by omega) hq12) C hP hl.1 (by have := (show 7 ≤ 5 * S2.2.1 + 2 + (x1).toNatClampNeg ∧ 5 * S2.2.1 + 2 + (x1).toNatClampNeg ≤ 21 by omega); omega) (cE3 (by omega)) rfl k2_30 qX3_waitNow.1 qX3_waitNow.2.1 qX3_waitNow.2.2.1 qX3_waitNow.2.2.2.1 rfl qX3_waitNow.2.2.2.2 ⟨Nat.le_of_ble_eq_true rfl, Nat.le_of_ble_eq_true rfl⟩ ⟨Nat.le_refl 0, Nat.le_refl 0⟩ (Nat.le_of_ble_eq_true rfl) dX5_lane_97) hP (fun H locs hP => ?_)
              exact r_iret (X := cE Γ) C hP hf dX5_lane_100
            · have hf := if_f hs11 hf
              by_cases hs13 : x2 = nI 5
              · have hf := if_t hs13 hf
                refine lv_tableIn (tgt := 101) hx hb dX5_lane_24 (by rw [hs13]; decide) (by rw [hs13]; decide) (by rw [hs13]; rfl) (by decide) ?_
                refine lv_aload_n hx hb dX5_lane_101 rfl (lv_at hl 0 rfl) ?_
                refine bd_i hf (fun v14 S14 hq14 hf => ?_)
                refine goI (runV (rest := []) (mX3_seenCars l Γ (by omega) hq14) C hP hl.1 (by have := (show 7 ≤ 5 * S2.2.1 + 2 + (x1).toNatClampNeg ∧ 5 * S2.2.1 + 2 + (x1).toNatClampNeg ≤ 21 by omega); omega) (cE3 (by omega)) rfl k2_38 qX3_seenCars.1 qX3_seenCars.2.1 qX3_seenCars.2.2.1 qX3_seenCars.2.2.2.1 rfl qX3_seenCars.2.2.2.2 ⟨Nat.le_of_ble_eq_true rfl, Nat.le_of_ble_eq_true rfl⟩ ⟨Nat.le_refl 0, Nat.le_refl 0⟩ (Nat.le_of_ble_eq_true rfl) dX5_lane_102) hP (fun H locs hP => ?_)
                exact r_iret (X := cE Γ) C hP hf dX5_lane_105
              · have hf := if_f hs13 hf
                by_cases hs15 : x2 = nI 6
                · have hf := if_t hs15 hf
                  refine lv_tableIn (tgt := 106) hx hb dX5_lane_24 (by rw [hs15]; decide) (by rw [hs15]; decide) (by rw [hs15]; rfl) (by decide) ?_
                  refine lv_aload_n hx hb dX5_lane_106 rfl (lv_at hl 0 rfl) ?_
                  refine bd_i hf (fun v16 S16 hq16 hf => ?_)
                  refine goI (runV (rest := []) (mX3_seemsNow l Γ (by omega) hq16) C hP hl.1 (by have := (show 7 ≤ 5 * S2.2.1 + 2 + (x1).toNatClampNeg ∧ 5 * S2.2.1 + 2 + (x1).toNatClampNeg ≤ 21 by omega); omega) (cE3 (by omega)) rfl k2_51 qX3_seemsNow.1 qX3_seemsNow.2.1 qX3_seemsNow.2.2.1 qX3_seemsNow.2.2.2.1 rfl qX3_seemsNow.2.2.2.2 ⟨Nat.le_of_ble_eq_true rfl, Nat.le_of_ble_eq_true rfl⟩ ⟨Nat.le_refl 0, Nat.le_refl 0⟩ (Nat.le_of_ble_eq_true rfl) dX5_lane_107) hP (fun H locs hP => ?_)
                  exact r_iret (X := cE Γ) C hP hf dX5_lane_110
                · have hf := if_f hs15 hf
                  by_cases hs17 : x2 = nI 7
                  · have hf := if_t hs17 hf
                    refine lv_tableIn (tgt := 111) hx hb dX5_lane_24 (by rw [hs17]; decide) (by rw [hs17]; decide) (by rw [hs17]; rfl) (by decide) ?_
                    refine lv_aload_n hx hb dX5_lane_111 rfl (lv_at hl 0 rfl) ?_
                    refine bd_i hf (fun v18 S18 hq18 hf => ?_)
                    refine goI (runV (rest := []) (mX3_isOpen l Γ (by omega) hq18) C hP hl.1 (by have := (show 7 ≤ 5 * S2.2.1 + 2 + (x1).toNatClampNeg ∧ 5 * S2.2.1 + 2 + (x1).toNatClampNeg ≤ 21 by omega); omega) (cE3 (by omega)) rfl k2_58 qX3_isOpen.1 qX3_isOpen.2.1 qX3_isOpen.2.2.1 qX3_isOpen.2.2.2.1 rfl qX3_isOpen.2.2.2.2 ⟨Nat.le_of_ble_eq_true rfl, Nat.le_of_ble_eq_true rfl⟩ ⟨Nat.le_refl 0, Nat.le_refl 0⟩ (Nat.le_of_ble_eq_true rfl) dX5_lane_112) hP (fun H locs hP => ?_)
                    refine lv_if_eq (tgt := 122) hx hb dX5_lane_115 (by decide) (fun hc19 => ?_) (fun hc19 => ?_)
                    · have hf := if_t hc19 hf
                      refine lv_iconst (v := nI 0) hx hb dX5_lane_122 rfl ?_
                      exact r_iret (X := cE Γ) C hP hf dX5_lane_123
                    · have hf := if_f hc19 hf
                      refine lv_iconst (v := nI 1) hx hb dX5_lane_118 rfl ?_
                      refine lv_goto (tgt := 123) hx hb dX5_lane_119 (by decide) ?_
                      exact r_iret (X := cE Γ) C hP hf dX5_lane_123
                  · have hf := if_f hs17 hf
                    by_cases hs20 : x2 = nI 8
                    · have hf := if_t hs20 hf
                      refine lv_tableIn (tgt := 124) hx hb dX5_lane_24 (by rw [hs20]; decide) (by rw [hs20]; decide) (by rw [hs20]; rfl) (by decide) ?_
                      refine lv_aload_n hx hb dX5_lane_124 rfl (lv_at hl 0 rfl) ?_
                      refine c3_get C hP (by omega) 4 (by decide) k1_49 rfl (v := .int (S2.1 (5 * S2.2.1 + 2 + (x1).toNatClampNeg) 4)) rfl dX5_lane_125 ?_
                      exact r_iret (X := cE Γ) C hP hf dX5_lane_128
                    · have hf := if_f hs20 hf
                      refine lv_tableOut (tgt := 129) hx hb dX5_lane_24 (by have q0 := ne_toInt hs7; have q1 := ne_toInt hs8; have q2 := ne_toInt hs9; have q3 := ne_toInt hs10; have q4 := ne_toInt hs11; have q5 := ne_toInt hs13; have q6 := ne_toInt hs15; have q7 := ne_toInt hs17; have q8 := ne_toInt hs20; rw [show (nI 0).toInt = 0 from by decide] at q0; rw [show (nI 1).toInt = 1 from by decide] at q1; rw [show (nI 2).toInt = 2 from by decide] at q2; rw [show (nI 3).toInt = 3 from by decide] at q3; rw [show (nI 4).toInt = 4 from by decide] at q4; rw [show (nI 5).toInt = 5 from by decide] at q5; rw [show (nI 6).toInt = 6 from by decide] at q6; rw [show (nI 7).toInt = 7 from by decide] at q7; rw [show (nI 8).toInt = 8 from by decide] at q8;  omega) (by decide) ?_
                      refine lv_iconst (v := (-1)) hx hb dX5_lane_129 rfl ?_
                      exact r_iret (X := cE Γ) C hP hf dX5_lane_130
  · have hf := if_t hc3 hf
    refine lv_iconst (v := (-1)) hx hb dX5_lane_11 rfl ?_
    exact r_iret (X := cE Γ) C hP hf dX5_lane_12
-- X5_car
theorem qX5_car : Cond.instanceMethod yX5_car ∈ Ub ∧ Cond.selects RX5 yX5_car yX5_car ∈ Ub ∧ Cond.initialized RX5 ∈ Ub ∧ Cond.code yX5_car cX5_car 3 (some FieldType.int) ∈ Ub ∧ (yX5_car.cls = RX5 ∧ yX5_car.cls ≠ "java/lang/invoke/MethodHandle" ∧ yX5_car.cls ≠ "java/lang/invoke/VarHandle" ∧ (parseMethodDescriptor yX5_car.desc).map (fun d => d.parameters.length) = some 2) := ⟨k2_66, k2_67, k1_1, k2_68, by decide +kernel⟩
def fX5_car  (S : cM) (x1 : Int32) (x2 : Int32) : Option (Int32 × cM) :=
  gn S.2.1 1 3 (bd (fX1_hasCar S.2.1 S x1 x2) fun v2 S2 => ( if v2 = 0 then some ((-1), S2) else gn S2.2.1 1 3 (gi x1 5 (gi x2 8 (some (S2.1 ((5 * S2.2.1 + 2 + (x1).toNatClampNeg) + 15) (x2).toNatClampNeg, S2))))))
set_option maxHeartbeats 4000000 in
set_option maxRecDepth 100000 in
theorem mX5_car (l : Launch) (Γ : gG)   {S : cM} {x1 : Int32} {x2 : Int32} {rz : Int32} {Sz : cM} (hf : fX5_car S x1 x2 = some (rz, Sz)) : CtI l Γ 74 yX5_car cX5_car 3 .int 2 43 [.ref (Γ.2.2 (0)), .int x1, .int x2] (cE Γ S) rz (cE Γ Sz) := by
  refine met_body (Γ := Γ) (lv := [(0, .ref (Γ.2.2 (0))), (1, .int x1), (2, .int x2)]) RX5 (by decide) rfl rfl rfl ?_
  intro p e s m below meth c H locs ls C hP hl
  obtain ⟨hx, hb, -, -, hown, hts, -, hwx, -⟩ := id C
  unfold fX5_car at hf
  refine lv_aload_n hx hb dX5_car_0 rfl (lv_at hl 0 rfl) ?_
  refine gn_i hf (fun hN1 hf => ?_)
  refine c0_get C hP 0 (by decide) k1_127 rfl (v := .ref (Γ.2.2 (S.2.1))) rfl dX5_car_1 ?_
  refine lv_iload_n hx hb dX5_car_4 rfl (lv_at hl 1 rfl) ?_
  refine lv_iload_n hx hb dX5_car_5 rfl (lv_at hl 2 rfl) ?_
  refine bd_i hf (fun v2 S2 hq2 hf => ?_)
  refine goI (runV (rest := []) (mX1_hasCar l Γ hN1 hq2) C hP hl.1 (by have := hN1; omega) (cE1 hN1) rfl k2_69 qX1_hasCar.1 qX1_hasCar.2.1 qX1_hasCar.2.2.1 qX1_hasCar.2.2.2.1 rfl qX1_hasCar.2.2.2.2 ⟨Nat.le_of_ble_eq_true rfl, Nat.le_of_ble_eq_true rfl⟩ ⟨Nat.le_refl 0, Nat.le_refl 0⟩ (Nat.le_of_ble_eq_true rfl) dX5_car_6) hP (fun H locs hP => ?_)
  refine lv_if_eq (tgt := 29) hx hb dX5_car_9 (by decide) (fun hc3 => ?_) (fun hc3 => ?_)
  · have hf := if_t hc3 hf
    refine lv_iconst (v := (-1)) hx hb dX5_car_29 rfl ?_
    exact r_iret (X := cE Γ) C hP hf dX5_car_30
  · have hf := if_f hc3 hf
    refine lv_aload_n hx hb dX5_car_12 rfl (lv_at hl 0 rfl) ?_
    refine gn_i hf (fun hN4 hf => ?_)
    refine c0_get C hP 0 (by decide) k1_127 rfl (v := .ref (Γ.2.2 (S2.2.1))) rfl dX5_car_13 ?_
    refine c1_get C hP hN4 0 (by decide) k1_71 rfl (v := .ref (Γ.2.2 (S2.2.1 + 3))) rfl dX5_car_16 ?_
    refine lv_iload_n hx hb dX5_car_19 rfl (lv_at hl 1 rfl) ?_
    refine gi_i hf (fun hi5 hj6 hf => ?_)
    refine c_aldQ (q := S2.2.1) C hP hN4 hi5 dX5_car_20 ?_
    refine c3_get C hP (by omega) 5 (by decide) k1_51 rfl (v := .ref (Γ.2.2 ((5 * S2.2.1 + 2 + (x1).toNatClampNeg) + 15))) rfl dX5_car_21 ?_
    refine lv_iload_n hx hb dX5_car_24 rfl (lv_at hl 2 rfl) ?_
    refine gi_i hf (fun hi7 hj8 hf => ?_)
    refine c_ild C hP (cA_so (by omega)) hi7 dX5_car_25 ?_
    refine lv_goto (tgt := 30) hx hb dX5_car_26 (by decide) ?_
    exact r_iret (X := cE Γ) C hP hf dX5_car_30
-- X5_takes
theorem qX5_takes : Cond.instanceMethod yX5_takes ∈ Ub ∧ Cond.selects RX5 yX5_takes yX5_takes ∈ Ub ∧ Cond.initialized RX5 ∈ Ub ∧ Cond.code yX5_takes cX5_takes 3 (some FieldType.int) ∈ Ub ∧ (yX5_takes.cls = RX5 ∧ yX5_takes.cls ≠ "java/lang/invoke/MethodHandle" ∧ yX5_takes.cls ≠ "java/lang/invoke/VarHandle" ∧ (parseMethodDescriptor yX5_takes.desc).map (fun d => d.parameters.length) = some 2) := ⟨k2_75, k2_76, k1_1, k2_77, by decide +kernel⟩
def fX5_takes  (S : cM) (x1 : Int32) (x2 : Int32) : Option (Int32 × cM) :=
  gn S.2.1 1 3 (bd (fX1_has S.2.1 S x1) fun v2 S2 => ( if v2 = 0 then some ((-1), S2) else bd (fX5_isSort S2 x2) fun v4 S4 => ( if v4 = 0 then some ((-1), S4) else gn S4.2.1 1 3 (gi x1 5 (bd (fX3_needs (5 * S4.2.1 + 2 + (x1).toNatClampNeg) S4 x2) fun v9 S9 => ( some (v9, S9)))))))
set_option maxHeartbeats 4000000 in
set_option maxRecDepth 100000 in
theorem mX5_takes (l : Launch) (Γ : gG)   {S : cM} {x1 : Int32} {x2 : Int32} {rz : Int32} {Sz : cM} (hf : fX5_takes S x1 x2 = some (rz, Sz)) : CtI l Γ 74 yX5_takes cX5_takes 3 .int 1 21 [.ref (Γ.2.2 (0)), .int x1, .int x2] (cE Γ S) rz (cE Γ Sz) := by
  refine met_body (Γ := Γ) (lv := [(0, .ref (Γ.2.2 (0))), (1, .int x1), (2, .int x2)]) RX5 (by decide) rfl rfl rfl ?_
  intro p e s m below meth c H locs ls C hP hl
  obtain ⟨hx, hb, -, -, hown, hts, -, hwx, -⟩ := id C
  unfold fX5_takes at hf
  refine lv_aload_n hx hb dX5_takes_0 rfl (lv_at hl 0 rfl) ?_
  refine gn_i hf (fun hN1 hf => ?_)
  refine c0_get C hP 0 (by decide) k1_127 rfl (v := .ref (Γ.2.2 (S.2.1))) rfl dX5_takes_1 ?_
  refine lv_iload_n hx hb dX5_takes_4 rfl (lv_at hl 1 rfl) ?_
  refine bd_i hf (fun v2 S2 hq2 hf => ?_)
  refine goI (runV (rest := []) (mX1_has l Γ hN1 hq2) C hP hl.1 (by have := hN1; omega) (cE1 hN1) rfl k2_29 qX1_has.1 qX1_has.2.1 qX1_has.2.2.1 qX1_has.2.2.2.1 rfl qX1_has.2.2.2.2 ⟨Nat.le_of_ble_eq_true rfl, Nat.le_of_ble_eq_true rfl⟩ ⟨Nat.le_refl 0, Nat.le_refl 0⟩ (Nat.le_of_ble_eq_true rfl) dX5_takes_5) hP (fun H locs hP => ?_)
  refine lv_if_eq (tgt := 34) hx hb dX5_takes_8 (by decide) (fun hc3 => ?_) (fun hc3 => ?_)
  · have hf := if_t hc3 hf
    refine lv_iconst (v := (-1)) hx hb dX5_takes_34 rfl ?_
    exact r_iret (X := cE Γ) C hP hf dX5_takes_35
  · have hf := if_f hc3 hf
    refine lv_iload_n hx hb dX5_takes_11 rfl (lv_at hl 2 rfl) ?_
    refine bd_i hf (fun v4 S4 hq4 hf => ?_)
    refine goI (runS (rest := []) (mX5_isSort l Γ  hq4) C hP hl.1 k2_78 qX5_isSort.1 qX5_isSort.2.1 qX5_isSort.2.2.1 rfl qX5_isSort.2.2.2 ⟨Nat.le_of_ble_eq_true rfl, Nat.le_of_ble_eq_true rfl⟩ ⟨Nat.le_refl 0, Nat.le_refl 0⟩ (Nat.le_of_ble_eq_true rfl) dX5_takes_12) hP (fun H locs hP => ?_)
    refine lv_if_eq (tgt := 34) hx hb dX5_takes_15 (by decide) (fun hc5 => ?_) (fun hc5 => ?_)
    · have hf := if_t hc5 hf
      refine lv_iconst (v := (-1)) hx hb dX5_takes_34 rfl ?_
      exact r_iret (X := cE Γ) C hP hf dX5_takes_35
    · have hf := if_f hc5 hf
      refine lv_aload_n hx hb dX5_takes_18 rfl (lv_at hl 0 rfl) ?_
      refine gn_i hf (fun hN6 hf => ?_)
      refine c0_get C hP 0 (by decide) k1_127 rfl (v := .ref (Γ.2.2 (S4.2.1))) rfl dX5_takes_19 ?_
      refine c1_get C hP hN6 0 (by decide) k1_71 rfl (v := .ref (Γ.2.2 (S4.2.1 + 3))) rfl dX5_takes_22 ?_
      refine lv_iload_n hx hb dX5_takes_25 rfl (lv_at hl 1 rfl) ?_
      refine gi_i hf (fun hi7 hj8 hf => ?_)
      refine c_aldQ (q := S4.2.1) C hP hN6 hi7 dX5_takes_26 ?_
      refine lv_iload_n hx hb dX5_takes_27 rfl (lv_at hl 2 rfl) ?_
      refine bd_i hf (fun v9 S9 hq9 hf => ?_)
      refine goI (runV (rest := []) (mX3_needs l Γ (by omega) hq9) C hP hl.1 (by have := (show 7 ≤ 5 * S4.2.1 + 2 + (x1).toNatClampNeg ∧ 5 * S4.2.1 + 2 + (x1).toNatClampNeg ≤ 21 by omega); omega) (cE3 (by omega)) rfl k2_79 qX3_needs.1 qX3_needs.2.1 qX3_needs.2.2.1 qX3_needs.2.2.2.1 rfl qX3_needs.2.2.2.2 ⟨Nat.le_of_ble_eq_true rfl, Nat.le_of_ble_eq_true rfl⟩ ⟨Nat.le_refl 0, Nat.le_refl 0⟩ (Nat.le_of_ble_eq_true rfl) dX5_takes_28) hP (fun H locs hP => ?_)
      refine lv_goto (tgt := 35) hx hb dX5_takes_31 (by decide) ?_
      exact r_iret (X := cE Γ) C hP hf dX5_takes_35
-- X5_comes
theorem qX5_comes : Cond.instanceMethod yX5_comes ∈ Ub ∧ Cond.selects RX5 yX5_comes yX5_comes ∈ Ub ∧ Cond.initialized RX5 ∈ Ub ∧ Cond.code yX5_comes cX5_comes 5 (some FieldType.int) ∈ Ub ∧ (yX5_comes.cls = RX5 ∧ yX5_comes.cls ≠ "java/lang/invoke/MethodHandle" ∧ yX5_comes.cls ≠ "java/lang/invoke/VarHandle" ∧ (parseMethodDescriptor yX5_comes.desc).map (fun d => d.parameters.length) = some 2) := ⟨k2_81, k2_82, k1_1, k2_83, by decide +kernel⟩
def fX5_comes  (S : cM) (x1 : Int32) (x2 : Int32) : Option (Int32 × cM) :=
  gn S.2.1 1 3 (bd (fX1_has S.2.1 S x1) fun v2 S2 => ( if v2 = 0 then some ((-1), S2) else bd (fX5_isSort S2 x2) fun v4 S4 => ( if v4 = 0 then some ((-1), S4) else gn S4.2.1 1 3 (gi x1 5 (bd (fX3_isOpen (5 * S4.2.1 + 2 + (x1).toNatClampNeg) S4) fun v9 S9 => ( if v9 = 0 then some ((-3), S9) else bd (fX3_hasRoom (5 * S4.2.1 + 2 + (x1).toNatClampNeg) S9) fun v11 S11 => ( if v11 = 0 then some ((-2), S11) else bd (fX3_timeOfNext (5 * S4.2.1 + 2 + (x1).toNatClampNeg) S11 x2) fun v13 S13 => ( bv (fX3_comeIn (5 * S4.2.1 + 2 + (x1).toNatClampNeg) S13 x2) fun S14 => ( some (v13, S14))))))))))
set_option maxHeartbeats 4000000 in
set_option maxRecDepth 100000 in
theorem mX5_comes (l : Launch) (Γ : gG)   {S : cM} {x1 : Int32} {x2 : Int32} {rz : Int32} {Sz : cM} (hf : fX5_comes S x1 x2 = some (rz, Sz)) : CtI l Γ 74 yX5_comes cX5_comes 5 .int 3 65 [.ref (Γ.2.2 (0)), .int x1, .int x2] (cE Γ S) rz (cE Γ Sz) := by
  refine met_body (Γ := Γ) (lv := [(0, .ref (Γ.2.2 (0))), (1, .int x1), (2, .int x2)]) RX5 (by decide) rfl rfl rfl ?_
  intro p e s m below meth c H locs ls C hP hl
  obtain ⟨hx, hb, -, -, hown, hts, -, hwx, -⟩ := id C
  unfold fX5_comes at hf
  refine lv_aload_n hx hb dX5_comes_0 rfl (lv_at hl 0 rfl) ?_
  refine gn_i hf (fun hN1 hf => ?_)
  refine c0_get C hP 0 (by decide) k1_127 rfl (v := .ref (Γ.2.2 (S.2.1))) rfl dX5_comes_1 ?_
  refine lv_iload_n hx hb dX5_comes_4 rfl (lv_at hl 1 rfl) ?_
  refine bd_i hf (fun v2 S2 hq2 hf => ?_)
  refine goI (runV (rest := []) (mX1_has l Γ hN1 hq2) C hP hl.1 (by have := hN1; omega) (cE1 hN1) rfl k2_29 qX1_has.1 qX1_has.2.1 qX1_has.2.2.1 qX1_has.2.2.2.1 rfl qX1_has.2.2.2.2 ⟨Nat.le_of_ble_eq_true rfl, Nat.le_of_ble_eq_true rfl⟩ ⟨Nat.le_refl 0, Nat.le_refl 0⟩ (Nat.le_of_ble_eq_true rfl) dX5_comes_5) hP (fun H locs hP => ?_)
  refine lv_if_eq (tgt := 18) hx hb dX5_comes_8 (by decide) (fun hc3 => ?_) (fun hc3 => ?_)
  · have hf := if_t hc3 hf
    refine lv_iconst (v := (-1)) hx hb dX5_comes_18 rfl ?_
    exact r_iret (X := cE Γ) C hP hf dX5_comes_19
  · have hf := if_f hc3 hf
    refine lv_iload_n hx hb dX5_comes_11 rfl (lv_at hl 2 rfl) ?_
    refine bd_i hf (fun v4 S4 hq4 hf => ?_)
    refine goI (runS (rest := []) (mX5_isSort l Γ  hq4) C hP hl.1 k2_78 qX5_isSort.1 qX5_isSort.2.1 qX5_isSort.2.2.1 rfl qX5_isSort.2.2.2 ⟨Nat.le_of_ble_eq_true rfl, Nat.le_of_ble_eq_true rfl⟩ ⟨Nat.le_refl 0, Nat.le_refl 0⟩ (Nat.le_of_ble_eq_true rfl) dX5_comes_12) hP (fun H locs hP => ?_)
    refine lv_if_ne (tgt := 20) hx hb dX5_comes_15 (by decide) (fun hc5 => ?_) (fun hc5 => ?_)
    · have hf := if_f hc5 hf
      refine lv_aload_n hx hb dX5_comes_20 rfl (lv_at hl 0 rfl) ?_
      refine gn_i hf (fun hN6 hf => ?_)
      refine c0_get C hP 0 (by decide) k1_127 rfl (v := .ref (Γ.2.2 (S4.2.1))) rfl dX5_comes_21 ?_
      refine c1_get C hP hN6 0 (by decide) k1_71 rfl (v := .ref (Γ.2.2 (S4.2.1 + 3))) rfl dX5_comes_24 ?_
      refine lv_iload_n hx hb dX5_comes_27 rfl (lv_at hl 1 rfl) ?_
      refine gi_i hf (fun hi7 hj8 hf => ?_)
      refine c_aldQ (q := S4.2.1) C hP hN6 hi7 dX5_comes_28 ?_
      refine lv_astore_n (lv' := [(3, .ref (Γ.2.2 (5 * S4.2.1 + 2 + (x1).toNatClampNeg))), (0, .ref (Γ.2.2 (0))), (1, .int x1), (2, .int x2)]) hx hb dX5_comes_29 rfl hl (by decide) rfl (fun ls hl => ?_)
      refine lv_aload_n hx hb dX5_comes_30 rfl (lv_at hl 0 rfl) ?_
      refine bd_i hf (fun v9 S9 hq9 hf => ?_)
      refine goI (runV (rest := []) (mX3_isOpen l Γ (by omega) hq9) C hP hl.1 (by have := (show 7 ≤ 5 * S4.2.1 + 2 + (x1).toNatClampNeg ∧ 5 * S4.2.1 + 2 + (x1).toNatClampNeg ≤ 21 by omega); omega) (cE3 (by omega)) rfl k2_58 qX3_isOpen.1 qX3_isOpen.2.1 qX3_isOpen.2.2.1 qX3_isOpen.2.2.2.1 rfl qX3_isOpen.2.2.2.2 ⟨Nat.le_of_ble_eq_true rfl, Nat.le_of_ble_eq_true rfl⟩ ⟨Nat.le_refl 0, Nat.le_refl 0⟩ (Nat.le_of_ble_eq_true rfl) dX5_comes_31) hP (fun H locs hP => ?_)
      refine lv_if_ne (tgt := 40) hx hb dX5_comes_34 (by decide) (fun hc10 => ?_) (fun hc10 => ?_)
      · have hf := if_f hc10 hf
        refine lv_aload_n hx hb dX5_comes_40 rfl (lv_at hl 0 rfl) ?_
        refine bd_i hf (fun v11 S11 hq11 hf => ?_)
        refine goI (runV (rest := []) (mX3_hasRoom l Γ (by omega) hq11) C hP hl.1 (by have := (show 7 ≤ 5 * S4.2.1 + 2 + (x1).toNatClampNeg ∧ 5 * S4.2.1 + 2 + (x1).toNatClampNeg ≤ 21 by omega); omega) (cE3 (by omega)) rfl k2_84 qX3_hasRoom.1 qX3_hasRoom.2.1 qX3_hasRoom.2.2.1 qX3_hasRoom.2.2.2.1 rfl qX3_hasRoom.2.2.2.2 ⟨Nat.le_of_ble_eq_true rfl, Nat.le_of_ble_eq_true rfl⟩ ⟨Nat.le_refl 0, Nat.le_refl 0⟩ (Nat.le_of_ble_eq_true rfl) dX5_comes_41) hP (fun H locs hP => ?_)
        refine lv_if_ne (tgt := 50) hx hb dX5_comes_44 (by decide) (fun hc12 => ?_) (fun hc12 => ?_)
        · have hf := if_f hc12 hf
          refine lv_aload_n hx hb dX5_comes_50 rfl (lv_at hl 0 rfl) ?_
          refine lv_iload_n hx hb dX5_comes_51 rfl (lv_at hl 3 rfl) ?_
          refine bd_i hf (fun v13 S13 hq13 hf => ?_)
          refine goI (runV (rest := []) (mX3_timeOfNext l Γ (by omega) hq13) C hP hl.1 (by have := (show 7 ≤ 5 * S4.2.1 + 2 + (x1).toNatClampNeg ∧ 5 * S4.2.1 + 2 + (x1).toNatClampNeg ≤ 21 by omega); omega) (cE3 (by omega)) rfl k2_85 qX3_timeOfNext.1 qX3_timeOfNext.2.1 qX3_timeOfNext.2.2.1 qX3_timeOfNext.2.2.2.1 rfl qX3_timeOfNext.2.2.2.2 ⟨Nat.le_of_ble_eq_true rfl, Nat.le_of_ble_eq_true rfl⟩ ⟨Nat.le_refl 0, Nat.le_refl 0⟩ (Nat.le_of_ble_eq_true rfl) dX5_comes_52) hP (fun H locs hP => ?_)
          refine lv_istore (lv' := [(4, .int v13), (3, .ref (Γ.2.2 (5 * S4.2.1 + 2 + (x1).toNatClampNeg))), (0, .ref (Γ.2.2 (0))), (1, .int x1), (2, .int x2)]) hx hb dX5_comes_55 hl (by decide) rfl (fun ls hl => ?_)
          refine lv_aload_n hx hb dX5_comes_57 rfl (lv_at hl 1 rfl) ?_
          refine lv_iload_n hx hb dX5_comes_58 rfl (lv_at hl 4 rfl) ?_
          refine bv_i hf (fun S14 hq14 hf => ?_)
          refine goV (runV (rest := []) (mX3_comeIn l Γ (by omega) hq14) C hP hl.1 (by have := (show 7 ≤ 5 * S4.2.1 + 2 + (x1).toNatClampNeg ∧ 5 * S4.2.1 + 2 + (x1).toNatClampNeg ≤ 21 by omega); omega) (cE3 (by omega)) rfl k2_89 qX3_comeIn.1 qX3_comeIn.2.1 qX3_comeIn.2.2.1 qX3_comeIn.2.2.2.1 rfl qX3_comeIn.2.2.2.2 ⟨Nat.le_of_ble_eq_true rfl, Nat.le_of_ble_eq_true rfl⟩ ⟨Nat.le_refl 0, Nat.le_refl 0⟩ (Nat.le_of_ble_eq_true rfl) dX5_comes_59) hP (fun H locs hP => ?_)
          refine lv_iload hx hb dX5_comes_62 (lv_at hl 0 rfl) ?_
          exact r_iret (X := cE Γ) C hP hf dX5_comes_64
        · have hf := if_t hc12 hf
          refine lv_bipush (v := (-2)) hx hb dX5_comes_47 rfl ?_
          exact r_iret (X := cE Γ) C hP hf dX5_comes_49
      · have hf := if_t hc10 hf
        refine lv_bipush (v := (-3)) hx hb dX5_comes_37 rfl ?_
        exact r_iret (X := cE Γ) C hP hf dX5_comes_39
    · have hf := if_t hc5 hf
      refine lv_iconst (v := (-1)) hx hb dX5_comes_18 rfl ?_
      exact r_iret (X := cE Γ) C hP hf dX5_comes_19
-- X5_minutes
theorem qX5_minutes : Cond.instanceMethod yX5_minutes ∈ Ub ∧ Cond.selects RX5 yX5_minutes yX5_minutes ∈ Ub ∧ Cond.initialized RX5 ∈ Ub ∧ Cond.code yX5_minutes cX5_minutes 2 (some FieldType.int) ∈ Ub ∧ (yX5_minutes.cls = RX5 ∧ yX5_minutes.cls ≠ "java/lang/invoke/MethodHandle" ∧ yX5_minutes.cls ≠ "java/lang/invoke/VarHandle" ∧ (parseMethodDescriptor yX5_minutes.desc).map (fun d => d.parameters.length) = some 1) := ⟨k2_91, k2_92, k1_1, k2_93, by decide +kernel⟩
def fX5_minutes_11   (S : cM)  : Option (Int32 × cM) :=
  some ((-1), S)
set_option maxHeartbeats 4000000 in
set_option maxRecDepth 100000 in
theorem wX5_minutes_11 {p : Program} {l : Launch} {e : Env} {s : State} {m : MethodId} {args : Array Value} {below : List Frame} {meth : Method} {c : Code} {Γ : gG} {rz : Int32} {Sz : cM} (C : Cx Γ 74 p s m args meth c RX5 cX5_minutes 2 (some .int))   : ∀ (S : cM)  , fX5_minutes_11   S  = some (rz, Sz) → ∀ (H : Heap) (locs : List Loc) (ls : Array Slot), St Γ 74 (cE Γ S) s.heap H locs → lv_has ls 2 [] → W p l e { frames := 3, cells := 0, slots := 0, locals := 66 } s m args below meth c H locs 0 0 (MQ below (gQi Γ 74 rz (cE Γ Sz)) args s 0 0 (wA Γ 74)) (F0 m 11 ls []) := by
  obtain ⟨hx, hb, -, -, hown, hts, -, hwx, -⟩ := id C
  intro S  hf H locs ls hP hl
  unfold fX5_minutes_11 at hf
  refine lv_iconst (v := (-1)) hx hb dX5_minutes_11 rfl ?_
  refine lv_goto (tgt := 23) hx hb dX5_minutes_12 (by decide) ?_
  exact r_iret (X := cE Γ) C hP hf dX5_minutes_23
def fX5_minutes  (S : cM) (x1 : Int32) : Option (Int32 × cM) :=
  if x1 < (nI 1) then fX5_minutes_11    S  else if x1 ≤ (nI 60) then gn S.2.1 1 3 (bd (fX1_goBy S.2.1 S x1) fun v4 S4 => ( some (v4, S4))) else fX5_minutes_11    S 
set_option maxHeartbeats 4000000 in
set_option maxRecDepth 100000 in
theorem mX5_minutes (l : Launch) (Γ : gG)   {S : cM} {x1 : Int32} {rz : Int32} {Sz : cM} (hf : fX5_minutes S x1 = some (rz, Sz)) : CtI l Γ 74 yX5_minutes cX5_minutes 2 .int 3 66 [.ref (Γ.2.2 (0)), .int x1] (cE Γ S) rz (cE Γ Sz) := by
  refine met_body (Γ := Γ) (lv := [(0, .ref (Γ.2.2 (0))), (1, .int x1)]) RX5 (by decide) rfl rfl rfl ?_
  intro p e s m below meth c H locs ls C hP hl
  obtain ⟨hx, hb, -, -, hown, hts, -, hwx, -⟩ := id C
  unfold fX5_minutes at hf
  refine lv_iload_n hx hb dX5_minutes_0 rfl (lv_at hl 1 rfl) ?_
  refine lv_iconst (v := nI 1) hx hb dX5_minutes_1 rfl ?_
  refine lv_icmp_lt (tgt := 11) hx hb dX5_minutes_2 (by decide) (fun hc1 => ?_) (fun hc1 => ?_)
  · have hf := if_t hc1 hf
    exact wX5_minutes_11 C    S   hf _ _ _ hP (lv_sub hl [] rfl)
  · have hf := if_f hc1 hf
    refine lv_iload_n hx hb dX5_minutes_5 rfl (lv_at hl 1 rfl) ?_
    refine lv_bipush (v := nI 60) hx hb dX5_minutes_6 rfl ?_
    refine lv_icmp_le (tgt := 15) hx hb dX5_minutes_8 (by decide) (fun hc2 => ?_) (fun hc2 => ?_)
    · have hf := if_t hc2 hf
      refine lv_aload_n hx hb dX5_minutes_15 rfl (lv_at hl 0 rfl) ?_
      refine gn_i hf (fun hN3 hf => ?_)
      refine c0_get C hP 0 (by decide) k1_127 rfl (v := .ref (Γ.2.2 (S.2.1))) rfl dX5_minutes_16 ?_
      refine lv_iload_n hx hb dX5_minutes_19 rfl (lv_at hl 1 rfl) ?_
      refine bd_i hf (fun v4 S4 hq4 hf => ?_)
      refine goI (runV (rest := []) (mX1_goBy l Γ hN3 hq4) C hP hl.1 (by have := hN3; omega) (cE1 hN3) rfl k2_94 qX1_goBy.1 qX1_goBy.2.1 qX1_goBy.2.2.1 qX1_goBy.2.2.2.1 rfl qX1_goBy.2.2.2.2 ⟨Nat.le_of_ble_eq_true rfl, Nat.le_of_ble_eq_true rfl⟩ ⟨Nat.le_refl 0, Nat.le_refl 0⟩ (Nat.le_of_ble_eq_true rfl) dX5_minutes_20) hP (fun H locs hP => ?_)
      exact r_iret (X := cE Γ) C hP hf dX5_minutes_23
    · have hf := if_f hc2 hf
      exact wX5_minutes_11 C    S   hf _ _ _ hP (lv_sub hl [] rfl)
-- X5_which
theorem qX5_which : Cond.instanceMethod yX5_which ∈ Ub ∧ Cond.selects RX5 yX5_which yX5_which ∈ Ub ∧ Cond.initialized RX5 ∈ Ub ∧ Cond.code yX5_which cX5_which 2 (some FieldType.int) ∈ Ub ∧ (yX5_which.cls = RX5 ∧ yX5_which.cls ≠ "java/lang/invoke/MethodHandle" ∧ yX5_which.cls ≠ "java/lang/invoke/VarHandle" ∧ (parseMethodDescriptor yX5_which.desc).map (fun d => d.parameters.length) = some 1) := ⟨k2_96, k2_97, k1_1, k2_98, by decide +kernel⟩
def fX5_which  (S : cM) (x1 : Int32) : Option (Int32 × cM) :=
  bd (fX5_isSort S x1) fun v1 S1 => ( if v1 = 0 then some ((-1), S1) else gn S1.2.1 1 3 (bd (fX1_seemingLane S1.2.1 S1) fun v4 S4 => ( some (v4, S4))))
set_option maxHeartbeats 4000000 in
set_option maxRecDepth 100000 in
theorem mX5_which (l : Launch) (Γ : gG)   {S : cM} {x1 : Int32} {rz : Int32} {Sz : cM} (hf : fX5_which S x1 = some (rz, Sz)) : CtI l Γ 74 yX5_which cX5_which 2 .int 5 111 [.ref (Γ.2.2 (0)), .int x1] (cE Γ S) rz (cE Γ Sz) := by
  refine met_body (Γ := Γ) (lv := [(0, .ref (Γ.2.2 (0))), (1, .int x1)]) RX5 (by decide) rfl rfl rfl ?_
  intro p e s m below meth c H locs ls C hP hl
  obtain ⟨hx, hb, -, -, hown, hts, -, hwx, -⟩ := id C
  unfold fX5_which at hf
  refine lv_iload_n hx hb dX5_which_0 rfl (lv_at hl 1 rfl) ?_
  refine bd_i hf (fun v1 S1 hq1 hf => ?_)
  refine goI (runS (rest := []) (mX5_isSort l Γ  hq1) C hP hl.1 k2_78 qX5_isSort.1 qX5_isSort.2.1 qX5_isSort.2.2.1 rfl qX5_isSort.2.2.2 ⟨Nat.le_of_ble_eq_true rfl, Nat.le_of_ble_eq_true rfl⟩ ⟨Nat.le_refl 0, Nat.le_refl 0⟩ (Nat.le_of_ble_eq_true rfl) dX5_which_1) hP (fun H locs hP => ?_)
  refine lv_if_eq (tgt := 17) hx hb dX5_which_4 (by decide) (fun hc2 => ?_) (fun hc2 => ?_)
  · have hf := if_t hc2 hf
    refine lv_iconst (v := (-1)) hx hb dX5_which_17 rfl ?_
    exact r_iret (X := cE Γ) C hP hf dX5_which_18
  · have hf := if_f hc2 hf
    refine lv_aload_n hx hb dX5_which_7 rfl (lv_at hl 0 rfl) ?_
    refine gn_i hf (fun hN3 hf => ?_)
    refine c0_get C hP 0 (by decide) k1_127 rfl (v := .ref (Γ.2.2 (S1.2.1))) rfl dX5_which_8 ?_
    refine bd_i hf (fun v4 S4 hq4 hf => ?_)
    refine goI (runV (rest := []) (mX1_seemingLane l Γ hN3 hq4) C hP hl.1 (by have := hN3; omega) (cE1 hN3) rfl k2_99 qX1_seemingLane.1 qX1_seemingLane.2.1 qX1_seemingLane.2.2.1 qX1_seemingLane.2.2.2.1 rfl qX1_seemingLane.2.2.2.2 ⟨Nat.le_of_ble_eq_true rfl, Nat.le_of_ble_eq_true rfl⟩ ⟨Nat.le_refl 0, Nat.le_refl 0⟩ (Nat.le_of_ble_eq_true rfl) dX5_which_11) hP (fun H locs hP => ?_)
    refine lv_goto (tgt := 18) hx hb dX5_which_14 (by decide) ?_
    exact r_iret (X := cE Γ) C hP hf dX5_which_18
-- X5_best
theorem qX5_best : Cond.instanceMethod yX5_best ∈ Ub ∧ Cond.selects RX5 yX5_best yX5_best ∈ Ub ∧ Cond.initialized RX5 ∈ Ub ∧ Cond.code yX5_best cX5_best 2 (some FieldType.int) ∈ Ub ∧ (yX5_best.cls = RX5 ∧ yX5_best.cls ≠ "java/lang/invoke/MethodHandle" ∧ yX5_best.cls ≠ "java/lang/invoke/VarHandle" ∧ (parseMethodDescriptor yX5_best.desc).map (fun d => d.parameters.length) = some 1) := ⟨k2_111, k2_112, k1_1, k2_113, by decide +kernel⟩
def fX5_best  (S : cM) (x1 : Int32) : Option (Int32 × cM) :=
  bd (fX5_isSort S x1) fun v1 S1 => ( if v1 = 0 then some ((-1), S1) else gn S1.2.1 1 3 (bd (fX1_quickestLane S1.2.1 S1 x1) fun v4 S4 => ( some (v4, S4))))
set_option maxHeartbeats 4000000 in
set_option maxRecDepth 100000 in
theorem mX5_best (l : Launch) (Γ : gG)   {S : cM} {x1 : Int32} {rz : Int32} {Sz : cM} (hf : fX5_best S x1 = some (rz, Sz)) : CtI l Γ 74 yX5_best cX5_best 2 .int 4 90 [.ref (Γ.2.2 (0)), .int x1] (cE Γ S) rz (cE Γ Sz) := by
  refine met_body (Γ := Γ) (lv := [(0, .ref (Γ.2.2 (0))), (1, .int x1)]) RX5 (by decide) rfl rfl rfl ?_
  intro p e s m below meth c H locs ls C hP hl
  obtain ⟨hx, hb, -, -, hown, hts, -, hwx, -⟩ := id C
  unfold fX5_best at hf
  refine lv_iload_n hx hb dX5_best_0 rfl (lv_at hl 1 rfl) ?_
  refine bd_i hf (fun v1 S1 hq1 hf => ?_)
  refine goI (runS (rest := []) (mX5_isSort l Γ  hq1) C hP hl.1 k2_78 qX5_isSort.1 qX5_isSort.2.1 qX5_isSort.2.2.1 rfl qX5_isSort.2.2.2 ⟨Nat.le_of_ble_eq_true rfl, Nat.le_of_ble_eq_true rfl⟩ ⟨Nat.le_refl 0, Nat.le_refl 0⟩ (Nat.le_of_ble_eq_true rfl) dX5_best_1) hP (fun H locs hP => ?_)
  refine lv_if_eq (tgt := 18) hx hb dX5_best_4 (by decide) (fun hc2 => ?_) (fun hc2 => ?_)
  · have hf := if_t hc2 hf
    refine lv_iconst (v := (-1)) hx hb dX5_best_18 rfl ?_
    exact r_iret (X := cE Γ) C hP hf dX5_best_19
  · have hf := if_f hc2 hf
    refine lv_aload_n hx hb dX5_best_7 rfl (lv_at hl 0 rfl) ?_
    refine gn_i hf (fun hN3 hf => ?_)
    refine c0_get C hP 0 (by decide) k1_127 rfl (v := .ref (Γ.2.2 (S1.2.1))) rfl dX5_best_8 ?_
    refine lv_iload_n hx hb dX5_best_11 rfl (lv_at hl 1 rfl) ?_
    refine bd_i hf (fun v4 S4 hq4 hf => ?_)
    refine goI (runV (rest := []) (mX1_quickestLane l Γ hN3 hq4) C hP hl.1 (by have := hN3; omega) (cE1 hN3) rfl k2_114 qX1_quickestLane.1 qX1_quickestLane.2.1 qX1_quickestLane.2.2.1 qX1_quickestLane.2.2.2.1 rfl qX1_quickestLane.2.2.2.2 ⟨Nat.le_of_ble_eq_true rfl, Nat.le_of_ble_eq_true rfl⟩ ⟨Nat.le_refl 0, Nat.le_refl 0⟩ (Nat.le_of_ble_eq_true rfl) dX5_best_12) hP (fun H locs hP => ?_)
    refine lv_goto (tgt := 19) hx hb dX5_best_15 (by decide) ?_
    exact r_iret (X := cE Γ) C hP hf dX5_best_19
-- X5_regretTimes
theorem qX5_regretTimes : Cond.instanceMethod yX5_regretTimes ∈ Ub ∧ Cond.selects RX5 yX5_regretTimes yX5_regretTimes ∈ Ub ∧ Cond.initialized RX5 ∈ Ub ∧ Cond.code yX5_regretTimes cX5_regretTimes 4 (some FieldType.int) ∈ Ub ∧ (yX5_regretTimes.cls = RX5 ∧ yX5_regretTimes.cls ≠ "java/lang/invoke/MethodHandle" ∧ yX5_regretTimes.cls ≠ "java/lang/invoke/VarHandle" ∧ (parseMethodDescriptor yX5_regretTimes.desc).map (fun d => d.parameters.length) = some 2) := ⟨k2_125, ks_4, k1_1, k2_126, by decide +kernel⟩
def fX5_regretTimes  (S : cM) (x1 : Int32) (x2 : Int32) : Option (Int32 × cM) :=
  gn S.2.1 1 3 (bd (fX1_seemingLane S.2.1 S) fun v2 S2 => ( if (0 : Int32) ≤ v2 then gn S2.2.1 1 3 (gi v2 5 (bd (fX3_timeOfNext (5 * S2.2.1 + 2 + (v2).toNatClampNeg) S2 x1) fun v7 S7 => ( gn S7.2.1 1 3 (bd (fX1_leastTime S7.2.1 S7 x1) fun v9 S9 => ( some ((v7 - v9) * x2, S9)))))) else some ((-4), S2)))
set_option maxHeartbeats 4000000 in
set_option maxRecDepth 100000 in
theorem mX5_regretTimes (l : Launch) (Γ : gG)   {S : cM} {x1 : Int32} {x2 : Int32} {rz : Int32} {Sz : cM} (hf : fX5_regretTimes S x1 x2 = some (rz, Sz)) : CtI l Γ 74 yX5_regretTimes cX5_regretTimes 4 .int 5 112 [.ref (Γ.2.2 (0)), .int x1, .int x2] (cE Γ S) rz (cE Γ Sz) := by
  refine met_body (Γ := Γ) (lv := [(0, .ref (Γ.2.2 (0))), (1, .int x1), (2, .int x2)]) RX5 (by decide) rfl rfl rfl ?_
  intro p e s m below meth c H locs ls C hP hl
  obtain ⟨hx, hb, -, -, hown, hts, -, hwx, -⟩ := id C
  unfold fX5_regretTimes at hf
  refine lv_aload_n hx hb dX5_regretTimes_0 rfl (lv_at hl 0 rfl) ?_
  refine gn_i hf (fun hN1 hf => ?_)
  refine c0_get C hP 0 (by decide) k1_127 rfl (v := .ref (Γ.2.2 (S.2.1))) rfl dX5_regretTimes_1 ?_
  refine bd_i hf (fun v2 S2 hq2 hf => ?_)
  refine goI (runV (rest := []) (mX1_seemingLane l Γ hN1 hq2) C hP hl.1 (by have := hN1; omega) (cE1 hN1) rfl k2_99 qX1_seemingLane.1 qX1_seemingLane.2.1 qX1_seemingLane.2.2.1 qX1_seemingLane.2.2.2.1 rfl qX1_seemingLane.2.2.2.2 ⟨Nat.le_of_ble_eq_true rfl, Nat.le_of_ble_eq_true rfl⟩ ⟨Nat.le_refl 0, Nat.le_refl 0⟩ (Nat.le_of_ble_eq_true rfl) dX5_regretTimes_4) hP (fun H locs hP => ?_)
  refine lv_istore_n (lv' := [(3, .int v2), (0, .ref (Γ.2.2 (0))), (1, .int x1), (2, .int x2)]) hx hb dX5_regretTimes_7 rfl hl (by decide) rfl (fun ls hl => ?_)
  refine lv_iload_n hx hb dX5_regretTimes_8 rfl (lv_at hl 0 rfl) ?_
  refine lv_if_ge (tgt := 15) hx hb dX5_regretTimes_9 (by decide) (fun hc3 => ?_) (fun hc3 => ?_)
  · have hf := if_t hc3 hf
    refine lv_aload_n hx hb dX5_regretTimes_15 rfl (lv_at hl 1 rfl) ?_
    refine gn_i hf (fun hN4 hf => ?_)
    refine c0_get C hP 0 (by decide) k1_127 rfl (v := .ref (Γ.2.2 (S2.2.1))) rfl dX5_regretTimes_16 ?_
    refine c1_get C hP hN4 0 (by decide) k1_71 rfl (v := .ref (Γ.2.2 (S2.2.1 + 3))) rfl dX5_regretTimes_19 ?_
    refine lv_iload_n hx hb dX5_regretTimes_22 rfl (lv_at hl 0 rfl) ?_
    refine gi_i hf (fun hi5 hj6 hf => ?_)
    refine c_aldQ (q := S2.2.1) C hP hN4 hi5 dX5_regretTimes_23 ?_
    refine lv_iload_n hx hb dX5_regretTimes_24 rfl (lv_at hl 2 rfl) ?_
    refine bd_i hf (fun v7 S7 hq7 hf => ?_)
    refine goI (runV (rest := []) (mX3_timeOfNext l Γ (by omega) hq7) C hP hl.1 (by have := (show 7 ≤ 5 * S2.2.1 + 2 + (v2).toNatClampNeg ∧ 5 * S2.2.1 + 2 + (v2).toNatClampNeg ≤ 21 by omega); omega) (cE3 (by omega)) rfl k2_85 qX3_timeOfNext.1 qX3_timeOfNext.2.1 qX3_timeOfNext.2.2.1 qX3_timeOfNext.2.2.2.1 rfl qX3_timeOfNext.2.2.2.2 ⟨Nat.le_of_ble_eq_true rfl, Nat.le_of_ble_eq_true rfl⟩ ⟨Nat.le_refl 0, Nat.le_refl 0⟩ (Nat.le_of_ble_eq_true rfl) dX5_regretTimes_25) hP (fun H locs hP => ?_)
    refine lv_aload_n hx hb dX5_regretTimes_28 rfl (lv_at hl 1 rfl) ?_
    refine gn_i hf (fun hN8 hf => ?_)
    refine c0_get C hP 0 (by decide) k1_127 rfl (v := .ref (Γ.2.2 (S7.2.1))) rfl dX5_regretTimes_29 ?_
    refine lv_iload_n hx hb dX5_regretTimes_32 rfl (lv_at hl 2 rfl) ?_
    refine bd_i hf (fun v9 S9 hq9 hf => ?_)
    refine goI (runV (rest := [.int v7]) (mX1_leastTime l Γ hN8 hq9) C hP hl.1 (by have := hN8; omega) (cE1 hN8) rfl k2_127 qX1_leastTime.1 qX1_leastTime.2.1 qX1_leastTime.2.2.1 qX1_leastTime.2.2.2.1 rfl qX1_leastTime.2.2.2.2 ⟨Nat.le_of_ble_eq_true rfl, Nat.le_of_ble_eq_true rfl⟩ ⟨Nat.le_refl 0, Nat.le_refl 0⟩ (Nat.le_of_ble_eq_true rfl) dX5_regretTimes_33) hP (fun H locs hP => ?_)
    refine lv_isub hx hb dX5_regretTimes_36 ?_
    refine lv_iload_n hx hb dX5_regretTimes_37 rfl (lv_at hl 3 rfl) ?_
    refine lv_imul hx hb dX5_regretTimes_38 ?_
    exact r_iret (X := cE Γ) C hP hf dX5_regretTimes_39
  · have hf := if_f hc3 hf
    refine lv_bipush (v := (-4)) hx hb dX5_regretTimes_12 rfl ?_
    exact r_iret (X := cE Γ) C hP hf dX5_regretTimes_14
-- X5_regret
theorem qX5_regret : Cond.instanceMethod yX5_regret ∈ Ub ∧ Cond.selects RX5 yX5_regret yX5_regret ∈ Ub ∧ Cond.initialized RX5 ∈ Ub ∧ Cond.code yX5_regret cX5_regret 2 (some FieldType.int) ∈ Ub ∧ (yX5_regret.cls = RX5 ∧ yX5_regret.cls ≠ "java/lang/invoke/MethodHandle" ∧ yX5_regret.cls ≠ "java/lang/invoke/VarHandle" ∧ (parseMethodDescriptor yX5_regret.desc).map (fun d => d.parameters.length) = some 1) := ⟨k2_120, k2_121, k1_1, k2_122, by decide +kernel⟩
def fX5_regret  (S : cM) (x1 : Int32) : Option (Int32 × cM) :=
  bd (fX5_isSort S x1) fun v1 S1 => ( if v1 = 0 then some ((-1), S1) else bd (fX5_regretTimes S1 x1 (nI 1)) fun v3 S3 => ( some (v3, S3)))
set_option maxHeartbeats 4000000 in
set_option maxRecDepth 100000 in
theorem mX5_regret (l : Launch) (Γ : gG)   {S : cM} {x1 : Int32} {rz : Int32} {Sz : cM} (hf : fX5_regret S x1 = some (rz, Sz)) : CtI l Γ 74 yX5_regret cX5_regret 2 .int 6 135 [.ref (Γ.2.2 (0)), .int x1] (cE Γ S) rz (cE Γ Sz) := by
  refine met_body (Γ := Γ) (lv := [(0, .ref (Γ.2.2 (0))), (1, .int x1)]) RX5 (by decide) rfl rfl rfl ?_
  intro p e s m below meth c H locs ls C hP hl
  obtain ⟨hx, hb, -, -, hown, hts, -, hwx, -⟩ := id C
  unfold fX5_regret at hf
  refine lv_iload_n hx hb dX5_regret_0 rfl (lv_at hl 1 rfl) ?_
  refine bd_i hf (fun v1 S1 hq1 hf => ?_)
  refine goI (runS (rest := []) (mX5_isSort l Γ  hq1) C hP hl.1 k2_78 qX5_isSort.1 qX5_isSort.2.1 qX5_isSort.2.2.1 rfl qX5_isSort.2.2.2 ⟨Nat.le_of_ble_eq_true rfl, Nat.le_of_ble_eq_true rfl⟩ ⟨Nat.le_refl 0, Nat.le_refl 0⟩ (Nat.le_of_ble_eq_true rfl) dX5_regret_1) hP (fun H locs hP => ?_)
  refine lv_if_eq (tgt := 16) hx hb dX5_regret_4 (by decide) (fun hc2 => ?_) (fun hc2 => ?_)
  · have hf := if_t hc2 hf
    refine lv_iconst (v := (-1)) hx hb dX5_regret_16 rfl ?_
    exact r_iret (X := cE Γ) C hP hf dX5_regret_17
  · have hf := if_f hc2 hf
    refine lv_aload_n hx hb dX5_regret_7 rfl (lv_at hl 0 rfl) ?_
    refine lv_iload_n hx hb dX5_regret_8 rfl (lv_at hl 1 rfl) ?_
    refine lv_iconst (v := nI 1) hx hb dX5_regret_9 rfl ?_
    refine bd_i hf (fun v3 S3 hq3 hf => ?_)
    refine goI (runV (rest := []) (b := 0) (mX5_regretTimes l Γ  hq3) C hP hl.1 (by decide) cE0 rfl k2_123 qX5_regretTimes.1 qX5_regretTimes.2.1 qX5_regretTimes.2.2.1 qX5_regretTimes.2.2.2.1 rfl qX5_regretTimes.2.2.2.2 ⟨Nat.le_of_ble_eq_true rfl, Nat.le_of_ble_eq_true rfl⟩ ⟨Nat.le_refl 0, Nat.le_refl 0⟩ (Nat.le_of_ble_eq_true rfl) dX5_regret_10) hP (fun H locs hP => ?_)
    refine lv_goto (tgt := 17) hx hb dX5_regret_13 (by decide) ?_
    exact r_iret (X := cE Γ) C hP hf dX5_regret_17
-- X5_time
theorem qX5_time : Cond.instanceMethod yX5_time ∈ Ub ∧ Cond.selects RX5 yX5_time yX5_time ∈ Ub ∧ Cond.initialized RX5 ∈ Ub ∧ Cond.code yX5_time cX5_time 3 (some FieldType.int) ∈ Ub ∧ (yX5_time.cls = RX5 ∧ yX5_time.cls ≠ "java/lang/invoke/MethodHandle" ∧ yX5_time.cls ≠ "java/lang/invoke/VarHandle" ∧ (parseMethodDescriptor yX5_time.desc).map (fun d => d.parameters.length) = some 2) := ⟨k2_133, k2_134, k1_1, k2_135, by decide +kernel⟩
def fX5_time  (S : cM) (x1 : Int32) (x2 : Int32) : Option (Int32 × cM) :=
  gn S.2.1 1 3 (bd (fX1_hasCar S.2.1 S x1 x2) fun v2 S2 => ( if v2 = 0 then some ((-1), S2) else gn S2.2.1 1 3 (gi x1 5 (bd (fX3_timeAt (5 * S2.2.1 + 2 + (x1).toNatClampNeg) S2 x2) fun v7 S7 => ( some (v7, S7))))))
set_option maxHeartbeats 4000000 in
set_option maxRecDepth 100000 in
theorem mX5_time (l : Launch) (Γ : gG)   {S : cM} {x1 : Int32} {x2 : Int32} {rz : Int32} {Sz : cM} (hf : fX5_time S x1 x2 = some (rz, Sz)) : CtI l Γ 74 yX5_time cX5_time 3 .int 2 44 [.ref (Γ.2.2 (0)), .int x1, .int x2] (cE Γ S) rz (cE Γ Sz) := by
  refine met_body (Γ := Γ) (lv := [(0, .ref (Γ.2.2 (0))), (1, .int x1), (2, .int x2)]) RX5 (by decide) rfl rfl rfl ?_
  intro p e s m below meth c H locs ls C hP hl
  obtain ⟨hx, hb, -, -, hown, hts, -, hwx, -⟩ := id C
  unfold fX5_time at hf
  refine lv_aload_n hx hb dX5_time_0 rfl (lv_at hl 0 rfl) ?_
  refine gn_i hf (fun hN1 hf => ?_)
  refine c0_get C hP 0 (by decide) k1_127 rfl (v := .ref (Γ.2.2 (S.2.1))) rfl dX5_time_1 ?_
  refine lv_iload_n hx hb dX5_time_4 rfl (lv_at hl 1 rfl) ?_
  refine lv_iload_n hx hb dX5_time_5 rfl (lv_at hl 2 rfl) ?_
  refine bd_i hf (fun v2 S2 hq2 hf => ?_)
  refine goI (runV (rest := []) (mX1_hasCar l Γ hN1 hq2) C hP hl.1 (by have := hN1; omega) (cE1 hN1) rfl k2_69 qX1_hasCar.1 qX1_hasCar.2.1 qX1_hasCar.2.2.1 qX1_hasCar.2.2.2.1 rfl qX1_hasCar.2.2.2.2 ⟨Nat.le_of_ble_eq_true rfl, Nat.le_of_ble_eq_true rfl⟩ ⟨Nat.le_refl 0, Nat.le_refl 0⟩ (Nat.le_of_ble_eq_true rfl) dX5_time_6) hP (fun H locs hP => ?_)
  refine lv_if_eq (tgt := 28) hx hb dX5_time_9 (by decide) (fun hc3 => ?_) (fun hc3 => ?_)
  · have hf := if_t hc3 hf
    refine lv_iconst (v := (-1)) hx hb dX5_time_28 rfl ?_
    exact r_iret (X := cE Γ) C hP hf dX5_time_29
  · have hf := if_f hc3 hf
    refine lv_aload_n hx hb dX5_time_12 rfl (lv_at hl 0 rfl) ?_
    refine gn_i hf (fun hN4 hf => ?_)
    refine c0_get C hP 0 (by decide) k1_127 rfl (v := .ref (Γ.2.2 (S2.2.1))) rfl dX5_time_13 ?_
    refine c1_get C hP hN4 0 (by decide) k1_71 rfl (v := .ref (Γ.2.2 (S2.2.1 + 3))) rfl dX5_time_16 ?_
    refine lv_iload_n hx hb dX5_time_19 rfl (lv_at hl 1 rfl) ?_
    refine gi_i hf (fun hi5 hj6 hf => ?_)
    refine c_aldQ (q := S2.2.1) C hP hN4 hi5 dX5_time_20 ?_
    refine lv_iload_n hx hb dX5_time_21 rfl (lv_at hl 2 rfl) ?_
    refine bd_i hf (fun v7 S7 hq7 hf => ?_)
    refine goI (runV (rest := []) (mX3_timeAt l Γ (by omega) hq7) C hP hl.1 (by have := (show 7 ≤ 5 * S2.2.1 + 2 + (x1).toNatClampNeg ∧ 5 * S2.2.1 + 2 + (x1).toNatClampNeg ≤ 21 by omega); omega) (cE3 (by omega)) rfl k2_136 qX3_timeAt.1 qX3_timeAt.2.1 qX3_timeAt.2.2.1 qX3_timeAt.2.2.2.1 rfl qX3_timeAt.2.2.2.2 ⟨Nat.le_of_ble_eq_true rfl, Nat.le_of_ble_eq_true rfl⟩ ⟨Nat.le_refl 0, Nat.le_refl 0⟩ (Nat.le_of_ble_eq_true rfl) dX5_time_22) hP (fun H locs hP => ?_)
    refine lv_goto (tgt := 29) hx hb dX5_time_25 (by decide) ?_
    exact r_iret (X := cE Γ) C hP hf dX5_time_29
-- X5_all
theorem qX5_all : Cond.instanceMethod yX5_all ∈ Ub ∧ Cond.selects RX5 yX5_all yX5_all ∈ Ub ∧ Cond.initialized RX5 ∈ Ub ∧ Cond.code yX5_all cX5_all 1 (some FieldType.int) ∈ Ub ∧ (yX5_all.cls = RX5 ∧ yX5_all.cls ≠ "java/lang/invoke/MethodHandle" ∧ yX5_all.cls ≠ "java/lang/invoke/VarHandle" ∧ (parseMethodDescriptor yX5_all.desc).map (fun d => d.parameters.length) = some 0) := ⟨k2_138, k2_139, k1_1, k2_140, by decide +kernel⟩
def fX5_all  (S : cM)  : Option (Int32 × cM) :=
  gn S.2.1 1 3 (bd (fX1_timesTogether S.2.1 S) fun v2 S2 => ( some (v2, S2)))
set_option maxHeartbeats 4000000 in
set_option maxRecDepth 100000 in
theorem mX5_all (l : Launch) (Γ : gG)   {S : cM}  {rz : Int32} {Sz : cM} (hf : fX5_all S = some (rz, Sz)) : CtI l Γ 74 yX5_all cX5_all 1 .int 3 66 [.ref (Γ.2.2 (0))] (cE Γ S) rz (cE Γ Sz) := by
  refine met_body (Γ := Γ) (lv := [(0, .ref (Γ.2.2 (0)))]) RX5 (by decide) rfl rfl rfl ?_
  intro p e s m below meth c H locs ls C hP hl
  obtain ⟨hx, hb, -, -, hown, hts, -, hwx, -⟩ := id C
  unfold fX5_all at hf
  refine lv_aload_n hx hb dX5_all_0 rfl (lv_at hl 0 rfl) ?_
  refine gn_i hf (fun hN1 hf => ?_)
  refine c0_get C hP 0 (by decide) k1_127 rfl (v := .ref (Γ.2.2 (S.2.1))) rfl dX5_all_1 ?_
  refine bd_i hf (fun v2 S2 hq2 hf => ?_)
  refine goI (runV (rest := []) (mX1_timesTogether l Γ hN1 hq2) C hP hl.1 (by have := hN1; omega) (cE1 hN1) rfl k2_141 qX1_timesTogether.1 qX1_timesTogether.2.1 qX1_timesTogether.2.2.1 qX1_timesTogether.2.2.2.1 rfl qX1_timesTogether.2.2.2.2 ⟨Nat.le_of_ble_eq_true rfl, Nat.le_of_ble_eq_true rfl⟩ ⟨Nat.le_refl 0, Nat.le_refl 0⟩ (Nat.le_of_ble_eq_true rfl) dX5_all_4) hP (fun H locs hP => ?_)
  exact r_iret (X := cE Γ) C hP hf dX5_all_7
-- X5_changeRefusal
theorem qX5_changeRefusal : Cond.instanceMethod yX5_changeRefusal ∈ Ub ∧ Cond.selects RX5 yX5_changeRefusal yX5_changeRefusal ∈ Ub ∧ Cond.initialized RX5 ∈ Ub ∧ Cond.code yX5_changeRefusal cX5_changeRefusal 4 (some FieldType.int) ∈ Ub ∧ (yX5_changeRefusal.cls = RX5 ∧ yX5_changeRefusal.cls ≠ "java/lang/invoke/MethodHandle" ∧ yX5_changeRefusal.cls ≠ "java/lang/invoke/VarHandle" ∧ (parseMethodDescriptor yX5_changeRefusal.desc).map (fun d => d.parameters.length) = some 3) := ⟨k2_156, ks_5, k1_1, k2_157, by decide +kernel⟩
def fX5_changeRefusal  (S : cM) (x1 : Int32) (x2 : Int32) (x3 : Int32) : Option (Int32 × cM) :=
  if x2 < (nI 1) then some ((-1000000001), S) else gn S.2.1 1 3 (bd (fX1_hasCar S.2.1 S x1 x2) fun v3 S3 => ( if v3 = 0 then some ((-1000000001), S3) else gn S3.2.1 1 3 (bd (fX1_has S3.2.1 S3 x3) fun v6 S6 => ( if v6 = 0 then some ((-1000000001), S6) else if x1 = x3 then some ((-1000000001), S6) else gn S6.2.1 1 3 (gi x3 5 (bd (fX3_hasRoom (5 * S6.2.1 + 2 + (x3).toNatClampNeg) S6) fun v12 S12 => ( if v12 = 0 then some ((-1000000002), S12) else gn S12.2.1 1 3 (gi x3 5 (bd (fX3_isOpen (5 * S12.2.1 + 2 + (x3).toNatClampNeg) S12) fun v17 S17 => ( if v17 = 0 then some ((-1000000003), S17) else some (nI 0, S17)))))))))))
set_option maxHeartbeats 4000000 in
set_option maxRecDepth 100000 in
theorem mX5_changeRefusal (l : Launch) (Γ : gG)   {S : cM} {x1 : Int32} {x2 : Int32} {x3 : Int32} {rz : Int32} {Sz : cM} (hf : fX5_changeRefusal S x1 x2 x3 = some (rz, Sz)) : CtI l Γ 74 yX5_changeRefusal cX5_changeRefusal 4 .int 2 43 [.ref (Γ.2.2 (0)), .int x1, .int x2, .int x3] (cE Γ S) rz (cE Γ Sz) := by
  refine met_body (Γ := Γ) (lv := [(0, .ref (Γ.2.2 (0))), (1, .int x1), (2, .int x2), (3, .int x3)]) RX5 (by decide) rfl rfl rfl ?_
  intro p e s m below meth c H locs ls C hP hl
  obtain ⟨hx, hb, -, -, hown, hts, -, hwx, -⟩ := id C
  unfold fX5_changeRefusal at hf
  refine lv_iload_n hx hb dX5_changeRefusal_0 rfl (lv_at hl 2 rfl) ?_
  refine lv_iconst (v := nI 1) hx hb dX5_changeRefusal_1 rfl ?_
  refine lv_icmp_lt (tgt := 33) hx hb dX5_changeRefusal_2 (by decide) (fun hc1 => ?_) (fun hc1 => ?_)
  · have hf := if_t hc1 hf
    refine lv_ldc (v := -1000000001) hx hb hown (hts _ k2_153) dX5_changeRefusal_33 ?_
    exact r_iret (X := cE Γ) C hP hf dX5_changeRefusal_35
  · have hf := if_f hc1 hf
    refine lv_aload_n hx hb dX5_changeRefusal_5 rfl (lv_at hl 0 rfl) ?_
    refine gn_i hf (fun hN2 hf => ?_)
    refine c0_get C hP 0 (by decide) k1_127 rfl (v := .ref (Γ.2.2 (S.2.1))) rfl dX5_changeRefusal_6 ?_
    refine lv_iload_n hx hb dX5_changeRefusal_9 rfl (lv_at hl 1 rfl) ?_
    refine lv_iload_n hx hb dX5_changeRefusal_10 rfl (lv_at hl 2 rfl) ?_
    refine bd_i hf (fun v3 S3 hq3 hf => ?_)
    refine goI (runV (rest := []) (mX1_hasCar l Γ hN2 hq3) C hP hl.1 (by have := hN2; omega) (cE1 hN2) rfl k2_69 qX1_hasCar.1 qX1_hasCar.2.1 qX1_hasCar.2.2.1 qX1_hasCar.2.2.2.1 rfl qX1_hasCar.2.2.2.2 ⟨Nat.le_of_ble_eq_true rfl, Nat.le_of_ble_eq_true rfl⟩ ⟨Nat.le_refl 0, Nat.le_refl 0⟩ (Nat.le_of_ble_eq_true rfl) dX5_changeRefusal_11) hP (fun H locs hP => ?_)
    refine lv_if_eq (tgt := 33) hx hb dX5_changeRefusal_14 (by decide) (fun hc4 => ?_) (fun hc4 => ?_)
    · have hf := if_t hc4 hf
      refine lv_ldc (v := -1000000001) hx hb hown (hts _ k2_153) dX5_changeRefusal_33 ?_
      exact r_iret (X := cE Γ) C hP hf dX5_changeRefusal_35
    · have hf := if_f hc4 hf
      refine lv_aload_n hx hb dX5_changeRefusal_17 rfl (lv_at hl 0 rfl) ?_
      refine gn_i hf (fun hN5 hf => ?_)
      refine c0_get C hP 0 (by decide) k1_127 rfl (v := .ref (Γ.2.2 (S3.2.1))) rfl dX5_changeRefusal_18 ?_
      refine lv_iload_n hx hb dX5_changeRefusal_21 rfl (lv_at hl 3 rfl) ?_
      refine bd_i hf (fun v6 S6 hq6 hf => ?_)
      refine goI (runV (rest := []) (mX1_has l Γ hN5 hq6) C hP hl.1 (by have := hN5; omega) (cE1 hN5) rfl k2_29 qX1_has.1 qX1_has.2.1 qX1_has.2.2.1 qX1_has.2.2.2.1 rfl qX1_has.2.2.2.2 ⟨Nat.le_of_ble_eq_true rfl, Nat.le_of_ble_eq_true rfl⟩ ⟨Nat.le_refl 0, Nat.le_refl 0⟩ (Nat.le_of_ble_eq_true rfl) dX5_changeRefusal_22) hP (fun H locs hP => ?_)
      refine lv_if_eq (tgt := 33) hx hb dX5_changeRefusal_25 (by decide) (fun hc7 => ?_) (fun hc7 => ?_)
      · have hf := if_t hc7 hf
        refine lv_ldc (v := -1000000001) hx hb hown (hts _ k2_153) dX5_changeRefusal_33 ?_
        exact r_iret (X := cE Γ) C hP hf dX5_changeRefusal_35
      · have hf := if_f hc7 hf
        refine lv_iload_n hx hb dX5_changeRefusal_28 rfl (lv_at hl 1 rfl) ?_
        refine lv_iload_n hx hb dX5_changeRefusal_29 rfl (lv_at hl 3 rfl) ?_
        refine lv_icmp_ne (tgt := 36) hx hb dX5_changeRefusal_30 (by decide) (fun hc8 => ?_) (fun hc8 => ?_)
        · have hf := if_f hc8 hf
          refine lv_aload_n hx hb dX5_changeRefusal_36 rfl (lv_at hl 0 rfl) ?_
          refine gn_i hf (fun hN9 hf => ?_)
          refine c0_get C hP 0 (by decide) k1_127 rfl (v := .ref (Γ.2.2 (S6.2.1))) rfl dX5_changeRefusal_37 ?_
          refine c1_get C hP hN9 0 (by decide) k1_71 rfl (v := .ref (Γ.2.2 (S6.2.1 + 3))) rfl dX5_changeRefusal_40 ?_
          refine lv_iload_n hx hb dX5_changeRefusal_43 rfl (lv_at hl 3 rfl) ?_
          refine gi_i hf (fun hi10 hj11 hf => ?_)
          refine c_aldQ (q := S6.2.1) C hP hN9 hi10 dX5_changeRefusal_44 ?_
          refine bd_i hf (fun v12 S12 hq12 hf => ?_)
          refine goI (runV (rest := []) (mX3_hasRoom l Γ (by omega) hq12) C hP hl.1 (by have := (show 7 ≤ 5 * S6.2.1 + 2 + (x3).toNatClampNeg ∧ 5 * S6.2.1 + 2 + (x3).toNatClampNeg ≤ 21 by omega); omega) (cE3 (by omega)) rfl k2_84 qX3_hasRoom.1 qX3_hasRoom.2.1 qX3_hasRoom.2.2.1 qX3_hasRoom.2.2.2.1 rfl qX3_hasRoom.2.2.2.2 ⟨Nat.le_of_ble_eq_true rfl, Nat.le_of_ble_eq_true rfl⟩ ⟨Nat.le_refl 0, Nat.le_refl 0⟩ (Nat.le_of_ble_eq_true rfl) dX5_changeRefusal_45) hP (fun H locs hP => ?_)
          refine lv_if_ne (tgt := 55) hx hb dX5_changeRefusal_48 (by decide) (fun hc13 => ?_) (fun hc13 => ?_)
          · have hf := if_f hc13 hf
            refine lv_aload_n hx hb dX5_changeRefusal_55 rfl (lv_at hl 0 rfl) ?_
            refine gn_i hf (fun hN14 hf => ?_)
            refine c0_get C hP 0 (by decide) k1_127 rfl (v := .ref (Γ.2.2 (S12.2.1))) rfl dX5_changeRefusal_56 ?_
            refine c1_get C hP hN14 0 (by decide) k1_71 rfl (v := .ref (Γ.2.2 (S12.2.1 + 3))) rfl dX5_changeRefusal_59 ?_
            refine lv_iload_n hx hb dX5_changeRefusal_62 rfl (lv_at hl 3 rfl) ?_
            refine gi_i hf (fun hi15 hj16 hf => ?_)
            refine c_aldQ (q := S12.2.1) C hP hN14 hi15 dX5_changeRefusal_63 ?_
            refine bd_i hf (fun v17 S17 hq17 hf => ?_)
            refine goI (runV (rest := []) (mX3_isOpen l Γ (by omega) hq17) C hP hl.1 (by have := (show 7 ≤ 5 * S12.2.1 + 2 + (x3).toNatClampNeg ∧ 5 * S12.2.1 + 2 + (x3).toNatClampNeg ≤ 21 by omega); omega) (cE3 (by omega)) rfl k2_58 qX3_isOpen.1 qX3_isOpen.2.1 qX3_isOpen.2.2.1 qX3_isOpen.2.2.2.1 rfl qX3_isOpen.2.2.2.2 ⟨Nat.le_of_ble_eq_true rfl, Nat.le_of_ble_eq_true rfl⟩ ⟨Nat.le_refl 0, Nat.le_refl 0⟩ (Nat.le_of_ble_eq_true rfl) dX5_changeRefusal_64) hP (fun H locs hP => ?_)
            refine lv_if_eq (tgt := 74) hx hb dX5_changeRefusal_67 (by decide) (fun hc18 => ?_) (fun hc18 => ?_)
            · have hf := if_t hc18 hf
              refine lv_ldcw (v := -1000000003) hx hb hown (hts _ k2_159) dX5_changeRefusal_74 ?_
              exact r_iret (X := cE Γ) C hP hf dX5_changeRefusal_77
            · have hf := if_f hc18 hf
              refine lv_iconst (v := nI 0) hx hb dX5_changeRefusal_70 rfl ?_
              refine lv_goto (tgt := 77) hx hb dX5_changeRefusal_71 (by decide) ?_
              exact r_iret (X := cE Γ) C hP hf dX5_changeRefusal_77
          · have hf := if_t hc13 hf
            refine lv_ldcw (v := -1000000002) hx hb hown (hts _ k2_158) dX5_changeRefusal_51 ?_
            exact r_iret (X := cE Γ) C hP hf dX5_changeRefusal_54
        · have hf := if_t hc8 hf
          refine lv_ldc (v := -1000000001) hx hb hown (hts _ k2_153) dX5_changeRefusal_33 ?_
          exact r_iret (X := cE Γ) C hP hf dX5_changeRefusal_35
-- X5_brings
theorem qX5_brings : Cond.instanceMethod yX5_brings ∈ Ub ∧ Cond.selects RX5 yX5_brings yX5_brings ∈ Ub ∧ Cond.initialized RX5 ∈ Ub ∧ Cond.code yX5_brings cX5_brings 4 (some FieldType.int) ∈ Ub ∧ (yX5_brings.cls = RX5 ∧ yX5_brings.cls ≠ "java/lang/invoke/MethodHandle" ∧ yX5_brings.cls ≠ "java/lang/invoke/VarHandle" ∧ (parseMethodDescriptor yX5_brings.desc).map (fun d => d.parameters.length) = some 3) := ⟨k2_167, ks_6, k1_1, k2_168, by decide +kernel⟩
def fX5_brings  (S : cM) (x1 : Int32) (x2 : Int32) (x3 : Int32) : Option (Int32 × cM) :=
  gn S.2.2 1 3 (gn S.2.1 1 3 (bv (fX1_becomeLike S.2.2 S.2.1 S) fun S3 => ( gn S3.2.2 1 3 (bv (fX1_move S3.2.2 S3 x1 x2 x3) fun S5 => ( gn S5.2.1 1 3 (bd (fX1_timesTogether S5.2.1 S5) fun v7 S7 => ( gn S7.2.2 1 3 (bd (fX1_timesTogether S7.2.2 S7) fun v9 S9 => ( some (v7 - v9, S9))))))))))
set_option maxHeartbeats 4000000 in
set_option maxRecDepth 100000 in
theorem mX5_brings (l : Launch) (Γ : gG)   {S : cM} {x1 : Int32} {x2 : Int32} {x3 : Int32} {rz : Int32} {Sz : cM} (hf : fX5_brings S x1 x2 x3 = some (rz, Sz)) : CtI l Γ 74 yX5_brings cX5_brings 4 .int 3 69 [.ref (Γ.2.2 (0)), .int x1, .int x2, .int x3] (cE Γ S) rz (cE Γ Sz) := by
  refine met_body (Γ := Γ) (lv := [(0, .ref (Γ.2.2 (0))), (1, .int x1), (2, .int x2), (3, .int x3)]) RX5 (by decide) rfl rfl rfl ?_
  intro p e s m below meth c H locs ls C hP hl
  obtain ⟨hx, hb, -, -, hown, hts, -, hwx, -⟩ := id C
  unfold fX5_brings at hf
  refine lv_aload_n hx hb dX5_brings_0 rfl (lv_at hl 0 rfl) ?_
  refine gn_i hf (fun hN1 hf => ?_)
  refine c0_get C hP 1 (by decide) k1_128 rfl (v := .ref (Γ.2.2 (S.2.2))) rfl dX5_brings_1 ?_
  refine lv_aload_n hx hb dX5_brings_4 rfl (lv_at hl 0 rfl) ?_
  refine gn_i hf (fun hN2 hf => ?_)
  refine c0_get C hP 0 (by decide) k1_127 rfl (v := .ref (Γ.2.2 (S.2.1))) rfl dX5_brings_5 ?_
  refine bv_i hf (fun S3 hq3 hf => ?_)
  refine goV (runV (rest := []) (mX1_becomeLike l Γ hN1 hN2 hq3) C hP hl.1 (by have := hN1; omega) (cE1 hN1) rfl k1_189 qX1_becomeLike.1 qX1_becomeLike.2.1 qX1_becomeLike.2.2.1 qX1_becomeLike.2.2.2.1 rfl qX1_becomeLike.2.2.2.2 ⟨Nat.le_of_ble_eq_true rfl, Nat.le_of_ble_eq_true rfl⟩ ⟨Nat.le_refl 0, Nat.le_refl 0⟩ (Nat.le_of_ble_eq_true rfl) dX5_brings_8) hP (fun H locs hP => ?_)
  refine lv_aload_n hx hb dX5_brings_11 rfl (lv_at hl 0 rfl) ?_
  refine gn_i hf (fun hN4 hf => ?_)
  refine c0_get C hP 1 (by decide) k1_128 rfl (v := .ref (Γ.2.2 (S3.2.2))) rfl dX5_brings_12 ?_
  refine lv_iload_n hx hb dX5_brings_15 rfl (lv_at hl 1 rfl) ?_
  refine lv_iload_n hx hb dX5_brings_16 rfl (lv_at hl 2 rfl) ?_
  refine lv_iload_n hx hb dX5_brings_17 rfl (lv_at hl 3 rfl) ?_
  refine bv_i hf (fun S5 hq5 hf => ?_)
  refine goV (runV (rest := []) (mX1_move l Γ hN4 hq5) C hP hl.1 (by have := hN4; omega) (cE1 hN4) rfl k2_169 qX1_move.1 qX1_move.2.1 qX1_move.2.2.1 qX1_move.2.2.2.1 rfl qX1_move.2.2.2.2 ⟨Nat.le_of_ble_eq_true rfl, Nat.le_of_ble_eq_true rfl⟩ ⟨Nat.le_refl 0, Nat.le_refl 0⟩ (Nat.le_of_ble_eq_true rfl) dX5_brings_18) hP (fun H locs hP => ?_)
  refine lv_aload_n hx hb dX5_brings_21 rfl (lv_at hl 0 rfl) ?_
  refine gn_i hf (fun hN6 hf => ?_)
  refine c0_get C hP 0 (by decide) k1_127 rfl (v := .ref (Γ.2.2 (S5.2.1))) rfl dX5_brings_22 ?_
  refine bd_i hf (fun v7 S7 hq7 hf => ?_)
  refine goI (runV (rest := []) (mX1_timesTogether l Γ hN6 hq7) C hP hl.1 (by have := hN6; omega) (cE1 hN6) rfl k2_141 qX1_timesTogether.1 qX1_timesTogether.2.1 qX1_timesTogether.2.2.1 qX1_timesTogether.2.2.2.1 rfl qX1_timesTogether.2.2.2.2 ⟨Nat.le_of_ble_eq_true rfl, Nat.le_of_ble_eq_true rfl⟩ ⟨Nat.le_refl 0, Nat.le_refl 0⟩ (Nat.le_of_ble_eq_true rfl) dX5_brings_25) hP (fun H locs hP => ?_)
  refine lv_aload_n hx hb dX5_brings_28 rfl (lv_at hl 0 rfl) ?_
  refine gn_i hf (fun hN8 hf => ?_)
  refine c0_get C hP 1 (by decide) k1_128 rfl (v := .ref (Γ.2.2 (S7.2.2))) rfl dX5_brings_29 ?_
  refine bd_i hf (fun v9 S9 hq9 hf => ?_)
  refine goI (runV (rest := [.int v7]) (mX1_timesTogether l Γ hN8 hq9) C hP hl.1 (by have := hN8; omega) (cE1 hN8) rfl k2_141 qX1_timesTogether.1 qX1_timesTogether.2.1 qX1_timesTogether.2.2.1 qX1_timesTogether.2.2.2.1 rfl qX1_timesTogether.2.2.2.2 ⟨Nat.le_of_ble_eq_true rfl, Nat.le_of_ble_eq_true rfl⟩ ⟨Nat.le_refl 0, Nat.le_refl 0⟩ (Nat.le_of_ble_eq_true rfl) dX5_brings_32) hP (fun H locs hP => ?_)
  refine lv_isub hx hb dX5_brings_35 ?_
  exact r_iret (X := cE Γ) C hP hf dX5_brings_36
