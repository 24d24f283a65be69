-- X6_isSort
theorem qX6_isSort : Cond.static yX6_isSort ∈ Ub ∧ Cond.initialized RX6 ∈ Ub ∧ Cond.code yX6_isSort cX6_isSort 1 (some FieldType.boolean) ∈ Ub ∧ (yX6_isSort.cls = RX6 ∧ yX6_isSort.cls ≠ "java/lang/invoke/MethodHandle" ∧ yX6_isSort.cls ≠ "java/lang/invoke/VarHandle" ∧ (parseMethodDescriptor yX6_isSort.desc).map (fun d => d.parameters.length) = some 1) := ⟨k5_72, k1_5, k5_73, by decide +kernel⟩
def fX6_isSort  (S : mM) (x0 : Int32) : Option (Int32 × mM) :=
  bd (fX6_in S x0.toInt64 0 3) fun v1 S1 => ( gb v1 (some (v1, S1)))
set_option maxHeartbeats 4000000 in
set_option maxRecDepth 100000 in
theorem mX6_isSort (l : Launch) (Γ : gG)   {S : mM} {x0 : Int32} {rz : Int32} {Sz : mM} (hf : fX6_isSort S x0 = some (rz, Sz)) : CtI l Γ 28 yX6_isSort cX6_isSort 1 .boolean 1 25 [.int x0] (mE Γ S) rz (mE Γ Sz) := by
  refine met_body (Γ := Γ) (lv := [(0, .int x0)]) RX6 (by decide) rfl rfl rfl ?_
  intro p e s m below meth c H locs ls C hP hl
  obtain ⟨hx, hb, -, -, hown, hts, -, hwx, -⟩ := id C
  unfold fX6_isSort at hf
  refine lv_iload_n hx hb dX6_isSort_0 rfl (lv_at hl 0 rfl) ?_
  refine lv_i2l (v := x0.toInt64) hx hb dX6_isSort_1 rfl ?_
  refine lv_lconst (v := 0) hx hb dX6_isSort_2 (by decide) ?_
  refine lv_ldc2 (v := 3) hx hb hown (hts _ k5_74) dX6_isSort_3 ?_
  refine bd_i hf (fun v1 S1 hq1 hf => ?_)
  refine goI (runS (rest := []) (mX6_in l Γ  hq1) C hP hl.1 k4_215 qX6_in.1 qX6_in.2.1 qX6_in.2.2.1 rfl qX6_in.2.2.2 ⟨Nat.le_of_ble_eq_true rfl, Nat.le_of_ble_eq_true rfl⟩ ⟨Nat.le_refl 0, Nat.le_refl 0⟩ (Nat.le_of_ble_eq_true rfl) dX6_isSort_6) hP (fun H locs hP => ?_)
  refine gb_i hf (fun hz2 hf => ?_)
  exact r_zret (X := mE Γ) C hP hz2 hf dX6_isSort_9
-- X6_takes
theorem qX6_takes : Cond.instanceMethod yX6_takes ∈ Ub ∧ Cond.selects RX6 yX6_takes yX6_takes ∈ Ub ∧ Cond.initialized RX6 ∈ Ub ∧ Cond.code yX6_takes cX6_takes 3 (some FieldType.int) ∈ Ub ∧ (yX6_takes.cls = RX6 ∧ yX6_takes.cls ≠ "java/lang/invoke/MethodHandle" ∧ yX6_takes.cls ≠ "java/lang/invoke/VarHandle" ∧ (parseMethodDescriptor yX6_takes.desc).map (fun d => d.parameters.length) = some 2) := ⟨k5_68, k5_69, k1_5, k5_70, by decide +kernel⟩
def fX6_takes  (S : mM) (x1 : Int32) (x2 : Int32) : Option (Int32 × mM) :=
  sv (mS S 0 9 (nI 0)) fun S1 => ( bd (fX6_isLane S1 x1) fun v2 S2 => ( if v2 = 0 then some ((-1), S2) else bd (fX6_isSort S2 x2) fun v4 S4 => ( if v4 = 0 then some ((-1), S4) else bd (fX6_takesIn S4 x1 x2) fun v6 S6 => ( some (v6, S6)))))
set_option maxHeartbeats 4000000 in
set_option maxRecDepth 100000 in
theorem mX6_takes (l : Launch) (Γ : gG)   {S : mM} {x1 : Int32} {x2 : Int32} {rz : Int32} {Sz : mM} (hf : fX6_takes S x1 x2 = some (rz, Sz)) : CtI l Γ 28 yX6_takes cX6_takes 3 .int 3 65 [.ref (Γ.2.2 (0)), .int x1, .int x2] (mE Γ S) rz (mE Γ Sz) := by
  refine met_body (Γ := Γ) (lv := [(0, .ref (Γ.2.2 (0))), (1, .int x1), (2, .int x2)]) RX6 (by decide) rfl rfl rfl ?_
  intro p e s m below meth c H locs ls C hP hl
  obtain ⟨hx, hb, -, -, hown, hts, -, hwx, -⟩ := id C
  unfold fX6_takes at hf
  refine lv_aload_n hx hb dX6_takes_0 rfl (lv_at hl 0 rfl) ?_
  refine lv_iconst (v := nI 0) hx hb dX6_takes_1 rfl ?_
  refine m_put C hP 9 (by decide) k4_62 dX6_takes_2 (fun H locs hP => ?_)
  refine sv_i hf (fun S1 e1 hf => ?_)
  rw [← e1] at hP
  refine lv_aload_n hx hb dX6_takes_5 rfl (lv_at hl 0 rfl) ?_
  refine lv_iload_n hx hb dX6_takes_6 rfl (lv_at hl 1 rfl) ?_
  refine bd_i hf (fun v2 S2 hq2 hf => ?_)
  refine goI (runV (rest := []) (b := 0) (mX6_isLane l Γ  hq2) C hP hl.1 (by decide) mE0 rfl k5_30 qX6_isLane.1 qX6_isLane.2.1 qX6_isLane.2.2.1 qX6_isLane.2.2.2.1 rfl qX6_isLane.2.2.2.2 ⟨Nat.le_of_ble_eq_true rfl, Nat.le_of_ble_eq_true rfl⟩ ⟨Nat.le_refl 0, Nat.le_refl 0⟩ (Nat.le_of_ble_eq_true rfl) dX6_takes_7) hP (fun H locs hP => ?_)
  refine lv_if_eq (tgt := 29) hx hb dX6_takes_10 (by decide) (fun hc3 => ?_) (fun hc3 => ?_)
  · have hf := if_t hc3 hf
    refine lv_iconst (v := (-1)) hx hb dX6_takes_29 rfl ?_
    exact r_iret (X := mE Γ) C hP hf dX6_takes_30
  · have hf := if_f hc3 hf
    refine lv_iload_n hx hb dX6_takes_13 rfl (lv_at hl 2 rfl) ?_
    refine bd_i hf (fun v4 S4 hq4 hf => ?_)
    refine goI (runS (rest := []) (mX6_isSort l Γ  hq4) C hP hl.1 k5_71 qX6_isSort.1 qX6_isSort.2.1 qX6_isSort.2.2.1 rfl qX6_isSort.2.2.2 ⟨Nat.le_of_ble_eq_true rfl, Nat.le_of_ble_eq_true rfl⟩ ⟨Nat.le_refl 0, Nat.le_refl 0⟩ (Nat.le_of_ble_eq_true rfl) dX6_takes_14) hP (fun H locs hP => ?_)
    refine lv_if_eq (tgt := 29) hx hb dX6_takes_17 (by decide) (fun hc5 => ?_) (fun hc5 => ?_)
    · have hf := if_t hc5 hf
      refine lv_iconst (v := (-1)) hx hb dX6_takes_29 rfl ?_
      exact r_iret (X := mE Γ) C hP hf dX6_takes_30
    · have hf := if_f hc5 hf
      refine lv_aload_n hx hb dX6_takes_20 rfl (lv_at hl 0 rfl) ?_
      refine lv_iload_n hx hb dX6_takes_21 rfl (lv_at hl 1 rfl) ?_
      refine lv_iload_n hx hb dX6_takes_22 rfl (lv_at hl 2 rfl) ?_
      refine bd_i hf (fun v6 S6 hq6 hf => ?_)
      refine goI (runV (rest := []) (b := 0) (mX6_takesIn l Γ  hq6) C hP hl.1 (by decide) mE0 rfl k5_8 qX6_takesIn.1 qX6_takesIn.2.1 qX6_takesIn.2.2.1 qX6_takesIn.2.2.2.1 rfl qX6_takesIn.2.2.2.2 ⟨Nat.le_of_ble_eq_true rfl, Nat.le_of_ble_eq_true rfl⟩ ⟨Nat.le_refl 0, Nat.le_refl 0⟩ (Nat.le_of_ble_eq_true rfl) dX6_takes_23) hP (fun H locs hP => ?_)
      refine lv_goto (tgt := 30) hx hb dX6_takes_26 (by decide) ?_
      exact r_iret (X := mE Γ) C hP hf dX6_takes_30
-- X6_comes
theorem qX6_comes : Cond.instanceMethod yX6_comes ∈ Ub ∧ Cond.selects RX6 yX6_comes yX6_comes ∈ Ub ∧ Cond.initialized RX6 ∈ Ub ∧ Cond.code yX6_comes cX6_comes 4 (some FieldType.int) ∈ Ub ∧ (yX6_comes.cls = RX6 ∧ yX6_comes.cls ≠ "java/lang/invoke/MethodHandle" ∧ yX6_comes.cls ≠ "java/lang/invoke/VarHandle" ∧ (parseMethodDescriptor yX6_comes.desc).map (fun d => d.parameters.length) = some 2) := ⟨k5_76, k5_77, k1_5, k5_78, by decide +kernel⟩
def fX6_comes  (S : mM) (x1 : Int32) (x2 : Int32) : Option (Int32 × mM) :=
  sv (mS S 0 9 (nI 0)) fun S1 => ( bd (fX6_isLane S1 x1) fun v2 S2 => ( if v2 = 0 then some ((-1), S2) else bd (fX6_isSort S2 x2) fun v4 S4 => ( if v4 = 0 then some ((-1), S4) else bd (fX6_isOpen S4 x1) fun v6 S6 => ( if v6 = 0 then some ((-3), S6) else gi x1 5 (if (S6.1 3 (x1).toNatClampNeg) = (nI 8) then some ((-2), S6) else bd (fX6_timeIn S6 x1 x2) fun v11 S11 => ( bv (fX6_comeIn S11 x1 x2) fun S12 => ( some (v11, S12))))))))
set_option maxHeartbeats 4000000 in
set_option maxRecDepth 100000 in
theorem mX6_comes (l : Launch) (Γ : gG)   {S : mM} {x1 : Int32} {x2 : Int32} {rz : Int32} {Sz : mM} (hf : fX6_comes S x1 x2 = some (rz, Sz)) : CtI l Γ 28 yX6_comes cX6_comes 4 .int 5 110 [.ref (Γ.2.2 (0)), .int x1, .int x2] (mE Γ S) rz (mE Γ Sz) := by
  refine met_body (Γ := Γ) (lv := [(0, .ref (Γ.2.2 (0))), (1, .int x1), (2, .int x2)]) RX6 (by decide) rfl rfl rfl ?_
  intro p e s m below meth c H locs ls C hP hl
  obtain ⟨hx, hb, -, -, hown, hts, -, hwx, -⟩ := id C
  unfold fX6_comes at hf
  refine lv_aload_n hx hb dX6_comes_0 rfl (lv_at hl 0 rfl) ?_
  refine lv_iconst (v := nI 0) hx hb dX6_comes_1 rfl ?_
  refine m_put C hP 9 (by decide) k4_62 dX6_comes_2 (fun H locs hP => ?_)
  refine sv_i hf (fun S1 e1 hf => ?_)
  rw [← e1] at hP
  refine lv_aload_n hx hb dX6_comes_5 rfl (lv_at hl 0 rfl) ?_
  refine lv_iload_n hx hb dX6_comes_6 rfl (lv_at hl 1 rfl) ?_
  refine bd_i hf (fun v2 S2 hq2 hf => ?_)
  refine goI (runV (rest := []) (b := 0) (mX6_isLane l Γ  hq2) C hP hl.1 (by decide) mE0 rfl k5_30 qX6_isLane.1 qX6_isLane.2.1 qX6_isLane.2.2.1 qX6_isLane.2.2.2.1 rfl qX6_isLane.2.2.2.2 ⟨Nat.le_of_ble_eq_true rfl, Nat.le_of_ble_eq_true rfl⟩ ⟨Nat.le_refl 0, Nat.le_refl 0⟩ (Nat.le_of_ble_eq_true rfl) dX6_comes_7) hP (fun H locs hP => ?_)
  refine lv_if_eq (tgt := 20) hx hb dX6_comes_10 (by decide) (fun hc3 => ?_) (fun hc3 => ?_)
  · have hf := if_t hc3 hf
    refine lv_iconst (v := (-1)) hx hb dX6_comes_20 rfl ?_
    exact r_iret (X := mE Γ) C hP hf dX6_comes_21
  · have hf := if_f hc3 hf
    refine lv_iload_n hx hb dX6_comes_13 rfl (lv_at hl 2 rfl) ?_
    refine bd_i hf (fun v4 S4 hq4 hf => ?_)
    refine goI (runS (rest := []) (mX6_isSort l Γ  hq4) C hP hl.1 k5_71 qX6_isSort.1 qX6_isSort.2.1 qX6_isSort.2.2.1 rfl qX6_isSort.2.2.2 ⟨Nat.le_of_ble_eq_true rfl, Nat.le_of_ble_eq_true rfl⟩ ⟨Nat.le_refl 0, Nat.le_refl 0⟩ (Nat.le_of_ble_eq_true rfl) dX6_comes_14) hP (fun H locs hP => ?_)
    refine lv_if_ne (tgt := 22) hx hb dX6_comes_17 (by decide) (fun hc5 => ?_) (fun hc5 => ?_)
    · have hf := if_f hc5 hf
      refine lv_aload_n hx hb dX6_comes_22 rfl (lv_at hl 0 rfl) ?_
      refine lv_iload_n hx hb dX6_comes_23 rfl (lv_at hl 1 rfl) ?_
      refine bd_i hf (fun v6 S6 hq6 hf => ?_)
      refine goI (runV (rest := []) (b := 0) (mX6_isOpen l Γ  hq6) C hP hl.1 (by decide) mE0 rfl k5_55 qX6_isOpen.1 qX6_isOpen.2.1 qX6_isOpen.2.2.1 qX6_isOpen.2.2.2.1 rfl qX6_isOpen.2.2.2.2 ⟨Nat.le_of_ble_eq_true rfl, Nat.le_of_ble_eq_true rfl⟩ ⟨Nat.le_refl 0, Nat.le_refl 0⟩ (Nat.le_of_ble_eq_true rfl) dX6_comes_24) hP (fun H locs hP => ?_)
      refine lv_if_ne (tgt := 33) hx hb dX6_comes_27 (by decide) (fun hc7 => ?_) (fun hc7 => ?_)
      · have hf := if_f hc7 hf
        refine lv_aload_n hx hb dX6_comes_33 rfl (lv_at hl 0 rfl) ?_
        refine m_get C hP 5 (by decide) k4_58 rfl (v := .ref (Γ.2.2 (3))) rfl dX6_comes_34 ?_
        refine lv_iload_n hx hb dX6_comes_37 rfl (lv_at hl 1 rfl) ?_
        refine gi_i hf (fun hi8 hj9 hf => ?_)
        refine m_ild C hP mA_3 hi8 dX6_comes_38 ?_
        refine lv_bipush (v := nI 8) hx hb dX6_comes_39 rfl ?_
        refine lv_icmp_ne (tgt := 47) hx hb dX6_comes_41 (by decide) (fun hc10 => ?_) (fun hc10 => ?_)
        · have hf := if_f hc10 hf
          refine lv_aload_n hx hb dX6_comes_47 rfl (lv_at hl 0 rfl) ?_
          refine lv_iload_n hx hb dX6_comes_48 rfl (lv_at hl 1 rfl) ?_
          refine lv_iload_n hx hb dX6_comes_49 rfl (lv_at hl 2 rfl) ?_
          refine bd_i hf (fun v11 S11 hq11 hf => ?_)
          refine goI (runV (rest := []) (b := 0) (mX6_timeIn l Γ  hq11) C hP hl.1 (by decide) mE0 rfl k5_79 qX6_timeIn.1 qX6_timeIn.2.1 qX6_timeIn.2.2.1 qX6_timeIn.2.2.2.1 rfl qX6_timeIn.2.2.2.2 ⟨Nat.le_of_ble_eq_true rfl, Nat.le_of_ble_eq_true rfl⟩ ⟨Nat.le_refl 0, Nat.le_refl 0⟩ (Nat.le_of_ble_eq_true rfl) dX6_comes_50) hP (fun H locs hP => ?_)
          refine lv_istore_n (lv' := [(3, .int v11), (0, .ref (Γ.2.2 (0))), (1, .int x1), (2, .int x2)]) hx hb dX6_comes_53 rfl hl (by decide) rfl (fun ls hl => ?_)
          refine lv_aload_n hx hb dX6_comes_54 rfl (lv_at hl 1 rfl) ?_
          refine lv_iload_n hx hb dX6_comes_55 rfl (lv_at hl 2 rfl) ?_
          refine lv_iload_n hx hb dX6_comes_56 rfl (lv_at hl 3 rfl) ?_
          refine bv_i hf (fun S12 hq12 hf => ?_)
          refine goV (runV (rest := []) (b := 0) (mX6_comeIn l Γ  hq12) C hP hl.1 (by decide) mE0 rfl k5_4 qX6_comeIn.1 qX6_comeIn.2.1 qX6_comeIn.2.2.1 qX6_comeIn.2.2.2.1 rfl qX6_comeIn.2.2.2.2 ⟨Nat.le_of_ble_eq_true rfl, Nat.le_of_ble_eq_true rfl⟩ ⟨Nat.le_refl 0, Nat.le_refl 0⟩ (Nat.le_of_ble_eq_true rfl) dX6_comes_57) hP (fun H locs hP => ?_)
          refine lv_iload_n hx hb dX6_comes_60 rfl (lv_at hl 0 rfl) ?_
          exact r_iret (X := mE Γ) C hP hf dX6_comes_61
        · have hf := if_t hc10 hf
          refine lv_bipush (v := (-2)) hx hb dX6_comes_44 rfl ?_
          exact r_iret (X := mE Γ) C hP hf dX6_comes_46
      · have hf := if_t hc7 hf
        refine lv_bipush (v := (-3)) hx hb dX6_comes_30 rfl ?_
        exact r_iret (X := mE Γ) C hP hf dX6_comes_32
    · have hf := if_t hc5 hf
      refine lv_iconst (v := (-1)) hx hb dX6_comes_20 rfl ?_
      exact r_iret (X := mE Γ) C hP hf dX6_comes_21
-- X6_minutes
theorem qX6_minutes : Cond.instanceMethod yX6_minutes ∈ Ub ∧ Cond.selects RX6 yX6_minutes yX6_minutes ∈ Ub ∧ Cond.initialized RX6 ∈ Ub ∧ Cond.code yX6_minutes cX6_minutes 2 (some FieldType.int) ∈ Ub ∧ (yX6_minutes.cls = RX6 ∧ yX6_minutes.cls ≠ "java/lang/invoke/MethodHandle" ∧ yX6_minutes.cls ≠ "java/lang/invoke/VarHandle" ∧ (parseMethodDescriptor yX6_minutes.desc).map (fun d => d.parameters.length) = some 1) := ⟨k5_84, k5_85, k1_5, k5_86, by decide +kernel⟩
def fX6_minutes  (S : mM) (x1 : Int32) : Option (Int32 × mM) :=
  sv (mS S 0 9 (nI 0)) fun S1 => ( bd (fX6_in S1 x1.toInt64 1 60) fun v2 S2 => ( if v2 = 0 then some ((-1), S2) else bd (fX6_goBy S2 x1) fun v4 S4 => ( some (v4, S4))))
set_option maxHeartbeats 4000000 in
set_option maxRecDepth 100000 in
theorem mX6_minutes (l : Launch) (Γ : gG)   {S : mM} {x1 : Int32} {rz : Int32} {Sz : mM} (hf : fX6_minutes S x1 = some (rz, Sz)) : CtI l Γ 28 yX6_minutes cX6_minutes 2 .int 5 110 [.ref (Γ.2.2 (0)), .int x1] (mE Γ S) rz (mE Γ Sz) := by
  refine met_body (Γ := Γ) (lv := [(0, .ref (Γ.2.2 (0))), (1, .int x1)]) RX6 (by decide) rfl rfl rfl ?_
  intro p e s m below meth c H locs ls C hP hl
  obtain ⟨hx, hb, -, -, hown, hts, -, hwx, -⟩ := id C
  unfold fX6_minutes at hf
  refine lv_aload_n hx hb dX6_minutes_0 rfl (lv_at hl 0 rfl) ?_
  refine lv_iconst (v := nI 0) hx hb dX6_minutes_1 rfl ?_
  refine m_put C hP 9 (by decide) k4_62 dX6_minutes_2 (fun H locs hP => ?_)
  refine sv_i hf (fun S1 e1 hf => ?_)
  rw [← e1] at hP
  refine lv_iload_n hx hb dX6_minutes_5 rfl (lv_at hl 1 rfl) ?_
  refine lv_i2l (v := x1.toInt64) hx hb dX6_minutes_6 rfl ?_
  refine lv_lconst (v := 1) hx hb dX6_minutes_7 (by decide) ?_
  refine lv_ldc2 (v := 60) hx hb hown (hts _ k5_87) dX6_minutes_8 ?_
  refine bd_i hf (fun v2 S2 hq2 hf => ?_)
  refine goI (runS (rest := []) (mX6_in l Γ  hq2) C hP hl.1 k4_215 qX6_in.1 qX6_in.2.1 qX6_in.2.2.1 rfl qX6_in.2.2.2 ⟨Nat.le_of_ble_eq_true rfl, Nat.le_of_ble_eq_true rfl⟩ ⟨Nat.le_refl 0, Nat.le_refl 0⟩ (Nat.le_of_ble_eq_true rfl) dX6_minutes_11) hP (fun H locs hP => ?_)
  refine lv_if_eq (tgt := 25) hx hb dX6_minutes_14 (by decide) (fun hc3 => ?_) (fun hc3 => ?_)
  · have hf := if_t hc3 hf
    refine lv_iconst (v := (-1)) hx hb dX6_minutes_25 rfl ?_
    exact r_iret (X := mE Γ) C hP hf dX6_minutes_26
  · have hf := if_f hc3 hf
    refine lv_aload_n hx hb dX6_minutes_17 rfl (lv_at hl 0 rfl) ?_
    refine lv_iload_n hx hb dX6_minutes_18 rfl (lv_at hl 1 rfl) ?_
    refine bd_i hf (fun v4 S4 hq4 hf => ?_)
    refine goI (runV (rest := []) (b := 0) (mX6_goBy l Γ  hq4) C hP hl.1 (by decide) mE0 rfl k5_18 qX6_goBy.1 qX6_goBy.2.1 qX6_goBy.2.2.1 qX6_goBy.2.2.2.1 rfl qX6_goBy.2.2.2.2 ⟨Nat.le_of_ble_eq_true rfl, Nat.le_of_ble_eq_true rfl⟩ ⟨Nat.le_refl 0, Nat.le_refl 0⟩ (Nat.le_of_ble_eq_true rfl) dX6_minutes_19) hP (fun H locs hP => ?_)
    refine lv_goto (tgt := 26) hx hb dX6_minutes_22 (by decide) ?_
    exact r_iret (X := mE Γ) C hP hf dX6_minutes_26
-- X6_whichLane
theorem qX6_whichLane : Cond.instanceMethod yX6_whichLane ∈ Ub ∧ Cond.selects RX6 yX6_whichLane yX6_whichLane ∈ Ub ∧ Cond.initialized RX6 ∈ Ub ∧ Cond.code yX6_whichLane cX6_whichLane 3 (some FieldType.int) ∈ Ub ∧ (yX6_whichLane.cls = RX6 ∧ yX6_whichLane.cls ≠ "java/lang/invoke/MethodHandle" ∧ yX6_whichLane.cls ≠ "java/lang/invoke/VarHandle" ∧ (parseMethodDescriptor yX6_whichLane.desc).map (fun d => d.parameters.length) = some 0) := ⟨k5_94, ks_46, k1_5, k5_95, by decide +kernel⟩
def fX6_whichLane_43  (K5 : mM → Int32 → Int32 → Option (Int32 × mM)) (S : mM) (x2 : Int32) (y0 : Int32) : Option (Int32 × mM) :=
  K5 S y0 (x2 + (nI 1))
set_option maxHeartbeats 4000000 in
set_option maxRecDepth 100000 in
theorem wX6_whichLane_43 {p : Program} {l : Launch} {e : Env} {s : State} {m : MethodId} {args : Array Value} {below : List Frame} {meth : Method} {c : Code} {Γ : gG} {rz : Int32} {Sz : mM} (C : Cx Γ 28 p s m args meth c RX6 cX6_whichLane 3 (some .int))  {K5 : mM → Int32 → Int32 → Option (Int32 × mM)} (hK5 : ∀ (S : mM) (x1 : Int32) (x2 : Int32) , K5 S x1 x2 = some (rz, Sz) → ∀ (H : Heap) (locs : List Loc) (ls : Array Slot), St Γ 28 (mE Γ S) s.heap H locs → lv_has ls 3 [(0, .ref (Γ.2.2 (0))), (1, .int x1), (2, .int x2)] → W p l e { frames := 2, cells := 0, slots := 0, locals := 47 } s m args below meth c H locs 0 0 (MQ below (gQi Γ 28 rz (mE Γ Sz)) args s 0 0 (wA Γ 28)) (F0 m 5 ls [])) : ∀ (S : mM) (x2 : Int32) (y0 : Int32) , fX6_whichLane_43  K5 S x2 y0 = some (rz, Sz) → ∀ (H : Heap) (locs : List Loc) (ls : Array Slot), St Γ 28 (mE Γ S) s.heap H locs → lv_has ls 3 [(0, .ref (Γ.2.2 (0))), (2, .int x2)] → W p l e { frames := 2, cells := 0, slots := 0, locals := 47 } s m args below meth c H locs 0 0 (MQ below (gQi Γ 28 rz (mE Γ Sz)) args s 0 0 (wA Γ 28)) (F0 m 43 ls [.int y0]) := by
  obtain ⟨hx, hb, -, -, hown, hts, -, hwx, -⟩ := id C
  intro S x2 y0 hf H locs ls hP hl
  unfold fX6_whichLane_43 at hf
  refine lv_istore_n (lv' := [(1, .int y0), (0, .ref (Γ.2.2 (0))), (2, .int x2)]) hx hb dX6_whichLane_43 rfl hl (by decide) rfl (fun ls hl => ?_)
  refine lv_iinc (v := x2 + (nI 1)) (lv' := [(2, .int (x2 + (nI 1))), (1, .int y0), (0, .ref (Γ.2.2 (0)))]) hx hb dX6_whichLane_44 hl (k := 2) rfl rfl (by decide) rfl (fun ls hl => ?_)
  refine lv_goto (tgt := 5) hx hb dX6_whichLane_47 (by decide) ?_
  exact hK5 S y0 (x2 + (nI 1))  hf _ _ _ hP (lv_sub hl [2, 1, 0] rfl)
def fX6_whichLane_42  (K5 : mM → Int32 → Int32 → Option (Int32 × mM)) (S : mM) (x1 : Int32) (x2 : Int32) : Option (Int32 × mM) :=
  fX6_whichLane_43  K5  S x2 x1
set_option maxHeartbeats 4000000 in
set_option maxRecDepth 100000 in
theorem wX6_whichLane_42 {p : Program} {l : Launch} {e : Env} {s : State} {m : MethodId} {args : Array Value} {below : List Frame} {meth : Method} {c : Code} {Γ : gG} {rz : Int32} {Sz : mM} (C : Cx Γ 28 p s m args meth c RX6 cX6_whichLane 3 (some .int))  {K5 : mM → Int32 → Int32 → Option (Int32 × mM)} (hK5 : ∀ (S : mM) (x1 : Int32) (x2 : Int32) , K5 S x1 x2 = some (rz, Sz) → ∀ (H : Heap) (locs : List Loc) (ls : Array Slot), St Γ 28 (mE Γ S) s.heap H locs → lv_has ls 3 [(0, .ref (Γ.2.2 (0))), (1, .int x1), (2, .int x2)] → W p l e { frames := 2, cells := 0, slots := 0, locals := 47 } s m args below meth c H locs 0 0 (MQ below (gQi Γ 28 rz (mE Γ Sz)) args s 0 0 (wA Γ 28)) (F0 m 5 ls [])) : ∀ (S : mM) (x1 : Int32) (x2 : Int32) , fX6_whichLane_42  K5 S x1 x2 = some (rz, Sz) → ∀ (H : Heap) (locs : List Loc) (ls : Array Slot), St Γ 28 (mE Γ S) s.heap H locs → lv_has ls 3 [(0, .ref (Γ.2.2 (0))), (1, .int x1), (2, .int x2)] → W p l e { frames := 2, cells := 0, slots := 0, locals := 47 } s m args below meth c H locs 0 0 (MQ below (gQi Γ 28 rz (mE Γ Sz)) args s 0 0 (wA Γ 28)) (F0 m 42 ls []) := by
  obtain ⟨hx, hb, -, -, hown, hts, -, hwx, -⟩ := id C
  intro S x1 x2 hf H locs ls hP hl
  unfold fX6_whichLane_42 at hf
  refine lv_iload_n hx hb dX6_whichLane_42 rfl (lv_at hl 1 rfl) ?_
  exact wX6_whichLane_43 C  hK5  S x2 x1  hf _ _ _ hP (lv_sub hl [0, 2] rfl)
def fX6_whichLane_38  (K5 : mM → Int32 → Int32 → Option (Int32 × mM)) (S : mM) (x2 : Int32) : Option (Int32 × mM) :=
  fX6_whichLane_43  K5  S x2 x2
set_option maxHeartbeats 4000000 in
set_option maxRecDepth 100000 in
theorem wX6_whichLane_38 {p : Program} {l : Launch} {e : Env} {s : State} {m : MethodId} {args : Array Value} {below : List Frame} {meth : Method} {c : Code} {Γ : gG} {rz : Int32} {Sz : mM} (C : Cx Γ 28 p s m args meth c RX6 cX6_whichLane 3 (some .int))  {K5 : mM → Int32 → Int32 → Option (Int32 × mM)} (hK5 : ∀ (S : mM) (x1 : Int32) (x2 : Int32) , K5 S x1 x2 = some (rz, Sz) → ∀ (H : Heap) (locs : List Loc) (ls : Array Slot), St Γ 28 (mE Γ S) s.heap H locs → lv_has ls 3 [(0, .ref (Γ.2.2 (0))), (1, .int x1), (2, .int x2)] → W p l e { frames := 2, cells := 0, slots := 0, locals := 47 } s m args below meth c H locs 0 0 (MQ below (gQi Γ 28 rz (mE Γ Sz)) args s 0 0 (wA Γ 28)) (F0 m 5 ls [])) : ∀ (S : mM) (x2 : Int32) , fX6_whichLane_38  K5 S x2 = some (rz, Sz) → ∀ (H : Heap) (locs : List Loc) (ls : Array Slot), St Γ 28 (mE Γ S) s.heap H locs → lv_has ls 3 [(0, .ref (Γ.2.2 (0))), (2, .int x2)] → W p l e { frames := 2, cells := 0, slots := 0, locals := 47 } s m args below meth c H locs 0 0 (MQ below (gQi Γ 28 rz (mE Γ Sz)) args s 0 0 (wA Γ 28)) (F0 m 38 ls []) := by
  obtain ⟨hx, hb, -, -, hown, hts, -, hwx, -⟩ := id C
  intro S x2 hf H locs ls hP hl
  unfold fX6_whichLane_38 at hf
  refine lv_iload_n hx hb dX6_whichLane_38 rfl (lv_at hl 1 rfl) ?_
  refine lv_goto (tgt := 43) hx hb dX6_whichLane_39 (by decide) ?_
  exact wX6_whichLane_43 C  hK5  S x2 x2  hf _ _ _ hP (lv_sub hl [0, 1] rfl)
def fX6_whichLane_5   : Nat → mM → Int32 → Int32 → Option (Int32 × mM)
  | 0, _, _, _ => none
  | n + 1, S, x1, x2 =>
    if (S.1 0 0) ≤ x2 then some (x1, S) else bd (fX6_mayCome S x2) fun v2 S2 => ( if v2 = 0 then fX6_whichLane_42  (fX6_whichLane_5   n)  S2 x1 x2 else if x1 < 0 then fX6_whichLane_38  (fX6_whichLane_5   n)  S2 x2 else bd (fX6_seemsIn S2 x2) fun v5 S5 => ( bd (fX6_seemsIn S5 x1) fun v6 S6 => ( if v6 ≤ v5 then fX6_whichLane_42  (fX6_whichLane_5   n)  S6 x1 x2 else fX6_whichLane_38  (fX6_whichLane_5   n)  S6 x2)))
set_option maxHeartbeats 4000000 in
set_option maxRecDepth 100000 in
theorem wX6_whichLane_5 {p : Program} {l : Launch} {e : Env} {s : State} {m : MethodId} {args : Array Value} {below : List Frame} {meth : Method} {c : Code} {Γ : gG} {rz : Int32} {Sz : mM} (C : Cx Γ 28 p s m args meth c RX6 cX6_whichLane 3 (some .int))   : ∀ n : Nat, ∀ (S : mM) (x1 : Int32) (x2 : Int32) , fX6_whichLane_5   n S x1 x2 = some (rz, Sz) → ∀ (H : Heap) (locs : List Loc) (ls : Array Slot), St Γ 28 (mE Γ S) s.heap H locs → lv_has ls 3 [(0, .ref (Γ.2.2 (0))), (1, .int x1), (2, .int x2)] → W p l e { frames := 2, cells := 0, slots := 0, locals := 47 } s m args below meth c H locs 0 0 (MQ below (gQi Γ 28 rz (mE Γ Sz)) args s 0 0 (wA Γ 28)) (F0 m 5 ls []) := by
  obtain ⟨hx, hb, -, -, hown, hts, -, hwx, -⟩ := id C
  intro n
  induction n with
  | zero =>
    intro S x1 x2 hf
    unfold fX6_whichLane_5 at hf
    cases hf
  | succ n ih =>
    intro S x1 x2 hf H locs ls hP hl
    unfold fX6_whichLane_5 at hf
    refine lv_iload_n hx hb dX6_whichLane_5 rfl (lv_at hl 2 rfl) ?_
    refine lv_aload_n hx hb dX6_whichLane_6 rfl (lv_at hl 0 rfl) ?_
    refine m_get C hP 0 (by decide) k4_53 rfl (v := .int (S.1 0 0)) rfl dX6_whichLane_7 ?_
    refine lv_icmp_ge (tgt := 50) hx hb dX6_whichLane_10 (by decide) (fun hc1 => ?_) (fun hc1 => ?_)
    · have hf := if_t hc1 hf
      refine lv_iload_n hx hb dX6_whichLane_50 rfl (lv_at hl 1 rfl) ?_
      exact r_iret (X := mE Γ) C hP hf dX6_whichLane_51
    · have hf := if_f hc1 hf
      refine lv_aload_n hx hb dX6_whichLane_13 rfl (lv_at hl 0 rfl) ?_
      refine lv_iload_n hx hb dX6_whichLane_14 rfl (lv_at hl 2 rfl) ?_
      refine bd_i hf (fun v2 S2 hq2 hf => ?_)
      refine goI (runV (rest := []) (b := 0) (mX6_mayCome l Γ  hq2) C hP hl.1 (by decide) mE0 rfl k5_96 qX6_mayCome.1 qX6_mayCome.2.1 qX6_mayCome.2.2.1 qX6_mayCome.2.2.2.1 rfl qX6_mayCome.2.2.2.2 ⟨Nat.le_of_ble_eq_true rfl, Nat.le_of_ble_eq_true rfl⟩ ⟨Nat.le_refl 0, Nat.le_refl 0⟩ (Nat.le_of_ble_eq_true rfl) dX6_whichLane_15) hP (fun H locs hP => ?_)
      refine lv_if_eq (tgt := 42) hx hb dX6_whichLane_18 (by decide) (fun hc3 => ?_) (fun hc3 => ?_)
      · have hf := if_t hc3 hf
        exact wX6_whichLane_42 C  ih  S2 x1 x2  hf _ _ _ hP (lv_sub hl [0, 1, 2] rfl)
      · have hf := if_f hc3 hf
        refine lv_iload_n hx hb dX6_whichLane_21 rfl (lv_at hl 1 rfl) ?_
        refine lv_if_lt (tgt := 38) hx hb dX6_whichLane_22 (by decide) (fun hc4 => ?_) (fun hc4 => ?_)
        · have hf := if_t hc4 hf
          exact wX6_whichLane_38 C  ih  S2 x2  hf _ _ _ hP (lv_sub hl [0, 2] rfl)
        · have hf := if_f hc4 hf
          refine lv_aload_n hx hb dX6_whichLane_25 rfl (lv_at hl 0 rfl) ?_
          refine lv_iload_n hx hb dX6_whichLane_26 rfl (lv_at hl 2 rfl) ?_
          refine bd_i hf (fun v5 S5 hq5 hf => ?_)
          refine goI (runV (rest := []) (b := 0) (mX6_seemsIn l Γ  hq5) C hP hl.1 (by decide) mE0 rfl k5_51 qX6_seemsIn.1 qX6_seemsIn.2.1 qX6_seemsIn.2.2.1 qX6_seemsIn.2.2.2.1 rfl qX6_seemsIn.2.2.2.2 ⟨Nat.le_of_ble_eq_true rfl, Nat.le_of_ble_eq_true rfl⟩ ⟨Nat.le_refl 0, Nat.le_refl 0⟩ (Nat.le_of_ble_eq_true rfl) dX6_whichLane_27) hP (fun H locs hP => ?_)
          refine lv_aload_n hx hb dX6_whichLane_30 rfl (lv_at hl 0 rfl) ?_
          refine lv_iload_n hx hb dX6_whichLane_31 rfl (lv_at hl 1 rfl) ?_
          refine bd_i hf (fun v6 S6 hq6 hf => ?_)
          refine goI (runV (rest := [.int v5]) (b := 0) (mX6_seemsIn l Γ  hq6) C hP hl.1 (by decide) mE0 rfl k5_51 qX6_seemsIn.1 qX6_seemsIn.2.1 qX6_seemsIn.2.2.1 qX6_seemsIn.2.2.2.1 rfl qX6_seemsIn.2.2.2.2 ⟨Nat.le_of_ble_eq_true rfl, Nat.le_of_ble_eq_true rfl⟩ ⟨Nat.le_refl 0, Nat.le_refl 0⟩ (Nat.le_of_ble_eq_true rfl) dX6_whichLane_32) hP (fun H locs hP => ?_)
          refine lv_icmp_ge (tgt := 42) hx hb dX6_whichLane_35 (by decide) (fun hc7 => ?_) (fun hc7 => ?_)
          · have hf := if_t hc7 hf
            exact wX6_whichLane_42 C  ih  S6 x1 x2  hf _ _ _ hP (lv_sub hl [0, 1, 2] rfl)
          · have hf := if_f hc7 hf
            exact wX6_whichLane_38 C  ih  S6 x2  hf _ _ _ hP (lv_sub hl [0, 2] rfl)
def fX6_whichLane  (S : mM)  : Option (Int32 × mM) :=
  fX6_whichLane_5   lF S (-4) (nI 0)
set_option maxHeartbeats 4000000 in
set_option maxRecDepth 100000 in
theorem mX6_whichLane (l : Launch) (Γ : gG)   {S : mM}  {rz : Int32} {Sz : mM} (hf : fX6_whichLane S = some (rz, Sz)) : CtI l Γ 28 yX6_whichLane cX6_whichLane 3 .int 2 47 [.ref (Γ.2.2 (0))] (mE Γ S) rz (mE Γ Sz) := by
  refine met_body (Γ := Γ) (lv := [(0, .ref (Γ.2.2 (0)))]) RX6 (by decide) rfl rfl rfl ?_
  intro p e s m below meth c H locs ls C hP hl
  obtain ⟨hx, hb, -, -, hown, hts, -, hwx, -⟩ := id C
  unfold fX6_whichLane at hf
  refine lv_bipush (v := (-4)) hx hb dX6_whichLane_0 rfl ?_
  refine lv_istore_n (lv' := [(1, .int ((-4))), (0, .ref (Γ.2.2 (0)))]) hx hb dX6_whichLane_2 rfl hl (by decide) rfl (fun ls hl => ?_)
  refine lv_iconst (v := nI 0) hx hb dX6_whichLane_3 rfl ?_
  refine lv_istore_n (lv' := [(2, .int (nI 0)), (1, .int ((-4))), (0, .ref (Γ.2.2 (0)))]) hx hb dX6_whichLane_4 rfl hl (by decide) rfl (fun ls hl => ?_)
  exact wX6_whichLane_5 C   lF S (-4) (nI 0)  hf _ _ _ hP (lv_sub hl [2, 1, 0] rfl)
-- X6_bestLane
theorem qX6_bestLane : Cond.instanceMethod yX6_bestLane ∈ Ub ∧ Cond.selects RX6 yX6_bestLane yX6_bestLane ∈ Ub ∧ Cond.initialized RX6 ∈ Ub ∧ Cond.code yX6_bestLane cX6_bestLane 4 (some FieldType.int) ∈ Ub ∧ (yX6_bestLane.cls = RX6 ∧ yX6_bestLane.cls ≠ "java/lang/invoke/MethodHandle" ∧ yX6_bestLane.cls ≠ "java/lang/invoke/VarHandle" ∧ (parseMethodDescriptor yX6_bestLane.desc).map (fun d => d.parameters.length) = some 1) := ⟨k5_106, ks_48, k1_5, k5_107, by decide +kernel⟩
def fX6_bestLane_45  (K5 : mM → Int32 → Int32 → Int32 → Option (Int32 × mM)) (S : mM) (x1 : Int32) (x3 : Int32) (y0 : Int32) : Option (Int32 × mM) :=
  K5 S x1 y0 (x3 + (nI 1))
set_option maxHeartbeats 4000000 in
set_option maxRecDepth 100000 in
theorem wX6_bestLane_45 {p : Program} {l : Launch} {e : Env} {s : State} {m : MethodId} {args : Array Value} {below : List Frame} {meth : Method} {c : Code} {Γ : gG} {rz : Int32} {Sz : mM} (C : Cx Γ 28 p s m args meth c RX6 cX6_bestLane 4 (some .int))  {K5 : mM → Int32 → Int32 → Int32 → Option (Int32 × mM)} (hK5 : ∀ (S : mM) (x1 : Int32) (x2 : Int32) (x3 : Int32) , K5 S x1 x2 x3 = some (rz, Sz) → ∀ (H : Heap) (locs : List Loc) (ls : Array Slot), St Γ 28 (mE Γ S) s.heap H locs → lv_has ls 4 [(0, .ref (Γ.2.2 (0))), (1, .int x1), (2, .int x2), (3, .int x3)] → W p l e { frames := 5, cells := 0, slots := 0, locals := 110 } s m args below meth c H locs 0 0 (MQ below (gQi Γ 28 rz (mE Γ Sz)) args s 0 0 (wA Γ 28)) (F0 m 5 ls [])) : ∀ (S : mM) (x1 : Int32) (x3 : Int32) (y0 : Int32) , fX6_bestLane_45  K5 S x1 x3 y0 = some (rz, Sz) → ∀ (H : Heap) (locs : List Loc) (ls : Array Slot), St Γ 28 (mE Γ S) s.heap H locs → lv_has ls 4 [(0, .ref (Γ.2.2 (0))), (1, .int x1), (3, .int x3)] → W p l e { frames := 5, cells := 0, slots := 0, locals := 110 } s m args below meth c H locs 0 0 (MQ below (gQi Γ 28 rz (mE Γ Sz)) args s 0 0 (wA Γ 28)) (F0 m 45 ls [.int y0]) := by
  obtain ⟨hx, hb, -, -, hown, hts, -, hwx, -⟩ := id C
  intro S x1 x3 y0 hf H locs ls hP hl
  unfold fX6_bestLane_45 at hf
  refine lv_istore_n (lv' := [(2, .int y0), (0, .ref (Γ.2.2 (0))), (1, .int x1), (3, .int x3)]) hx hb dX6_bestLane_45 rfl hl (by decide) rfl (fun ls hl => ?_)
  refine lv_iinc (v := x3 + (nI 1)) (lv' := [(3, .int (x3 + (nI 1))), (2, .int y0), (0, .ref (Γ.2.2 (0))), (1, .int x1)]) hx hb dX6_bestLane_46 hl (k := 3) rfl rfl (by decide) rfl (fun ls hl => ?_)
  refine lv_goto (tgt := 5) hx hb dX6_bestLane_49 (by decide) ?_
  exact hK5 S x1 y0 (x3 + (nI 1))  hf _ _ _ hP (lv_sub hl [2, 3, 1, 0] rfl)
def fX6_bestLane_44  (K5 : mM → Int32 → Int32 → Int32 → Option (Int32 × mM)) (S : mM) (x1 : Int32) (x2 : Int32) (x3 : Int32) : Option (Int32 × mM) :=
  fX6_bestLane_45  K5  S x1 x3 x2
set_option maxHeartbeats 4000000 in
set_option maxRecDepth 100000 in
theorem wX6_bestLane_44 {p : Program} {l : Launch} {e : Env} {s : State} {m : MethodId} {args : Array Value} {below : List Frame} {meth : Method} {c : Code} {Γ : gG} {rz : Int32} {Sz : mM} (C : Cx Γ 28 p s m args meth c RX6 cX6_bestLane 4 (some .int))  {K5 : mM → Int32 → Int32 → Int32 → Option (Int32 × mM)} (hK5 : ∀ (S : mM) (x1 : Int32) (x2 : Int32) (x3 : Int32) , K5 S x1 x2 x3 = some (rz, Sz) → ∀ (H : Heap) (locs : List Loc) (ls : Array Slot), St Γ 28 (mE Γ S) s.heap H locs → lv_has ls 4 [(0, .ref (Γ.2.2 (0))), (1, .int x1), (2, .int x2), (3, .int x3)] → W p l e { frames := 5, cells := 0, slots := 0, locals := 110 } s m args below meth c H locs 0 0 (MQ below (gQi Γ 28 rz (mE Γ Sz)) args s 0 0 (wA Γ 28)) (F0 m 5 ls [])) : ∀ (S : mM) (x1 : Int32) (x2 : Int32) (x3 : Int32) , fX6_bestLane_44  K5 S x1 x2 x3 = some (rz, Sz) → ∀ (H : Heap) (locs : List Loc) (ls : Array Slot), St Γ 28 (mE Γ S) s.heap H locs → lv_has ls 4 [(0, .ref (Γ.2.2 (0))), (1, .int x1), (2, .int x2), (3, .int x3)] → W p l e { frames := 5, cells := 0, slots := 0, locals := 110 } s m args below meth c H locs 0 0 (MQ below (gQi Γ 28 rz (mE Γ Sz)) args s 0 0 (wA Γ 28)) (F0 m 44 ls []) := by
  obtain ⟨hx, hb, -, -, hown, hts, -, hwx, -⟩ := id C
  intro S x1 x2 x3 hf H locs ls hP hl
  unfold fX6_bestLane_44 at hf
  refine lv_iload_n hx hb dX6_bestLane_44 rfl (lv_at hl 2 rfl) ?_
  exact wX6_bestLane_45 C  hK5  S x1 x3 x2  hf _ _ _ hP (lv_sub hl [0, 1, 3] rfl)
def fX6_bestLane_40  (K5 : mM → Int32 → Int32 → Int32 → Option (Int32 × mM)) (S : mM) (x1 : Int32) (x3 : Int32) : Option (Int32 × mM) :=
  fX6_bestLane_45  K5  S x1 x3 x3
set_option maxHeartbeats 4000000 in
set_option maxRecDepth 100000 in
theorem wX6_bestLane_40 {p : Program} {l : Launch} {e : Env} {s : State} {m : MethodId} {args : Array Value} {below : List Frame} {meth : Method} {c : Code} {Γ : gG} {rz : Int32} {Sz : mM} (C : Cx Γ 28 p s m args meth c RX6 cX6_bestLane 4 (some .int))  {K5 : mM → Int32 → Int32 → Int32 → Option (Int32 × mM)} (hK5 : ∀ (S : mM) (x1 : Int32) (x2 : Int32) (x3 : Int32) , K5 S x1 x2 x3 = some (rz, Sz) → ∀ (H : Heap) (locs : List Loc) (ls : Array Slot), St Γ 28 (mE Γ S) s.heap H locs → lv_has ls 4 [(0, .ref (Γ.2.2 (0))), (1, .int x1), (2, .int x2), (3, .int x3)] → W p l e { frames := 5, cells := 0, slots := 0, locals := 110 } s m args below meth c H locs 0 0 (MQ below (gQi Γ 28 rz (mE Γ Sz)) args s 0 0 (wA Γ 28)) (F0 m 5 ls [])) : ∀ (S : mM) (x1 : Int32) (x3 : Int32) , fX6_bestLane_40  K5 S x1 x3 = some (rz, Sz) → ∀ (H : Heap) (locs : List Loc) (ls : Array Slot), St Γ 28 (mE Γ S) s.heap H locs → lv_has ls 4 [(0, .ref (Γ.2.2 (0))), (1, .int x1), (3, .int x3)] → W p l e { frames := 5, cells := 0, slots := 0, locals := 110 } s m args below meth c H locs 0 0 (MQ below (gQi Γ 28 rz (mE Γ Sz)) args s 0 0 (wA Γ 28)) (F0 m 40 ls []) := by
  obtain ⟨hx, hb, -, -, hown, hts, -, hwx, -⟩ := id C
  intro S x1 x3 hf H locs ls hP hl
  unfold fX6_bestLane_40 at hf
  refine lv_iload_n hx hb dX6_bestLane_40 rfl (lv_at hl 2 rfl) ?_
  refine lv_goto (tgt := 45) hx hb dX6_bestLane_41 (by decide) ?_
  exact wX6_bestLane_45 C  hK5  S x1 x3 x3  hf _ _ _ hP (lv_sub hl [0, 1, 2] rfl)
def fX6_bestLane_5   : Nat → mM → Int32 → Int32 → Int32 → Option (Int32 × mM)
  | 0, _, _, _, _ => none
  | n + 1, S, x1, x2, x3 =>
    if (S.1 0 0) ≤ x3 then some (x2, S) else bd (fX6_mayCome S x3) fun v2 S2 => ( if v2 = 0 then fX6_bestLane_44  (fX6_bestLane_5   n)  S2 x1 x2 x3 else if x2 < 0 then fX6_bestLane_40  (fX6_bestLane_5   n)  S2 x1 x3 else bd (fX6_timeIn S2 x3 x1) fun v5 S5 => ( bd (fX6_timeIn S5 x2 x1) fun v6 S6 => ( if v6 ≤ v5 then fX6_bestLane_44  (fX6_bestLane_5   n)  S6 x1 x2 x3 else fX6_bestLane_40  (fX6_bestLane_5   n)  S6 x1 x3)))
set_option maxHeartbeats 4000000 in
set_option maxRecDepth 100000 in
theorem wX6_bestLane_5 {p : Program} {l : Launch} {e : Env} {s : State} {m : MethodId} {args : Array Value} {below : List Frame} {meth : Method} {c : Code} {Γ : gG} {rz : Int32} {Sz : mM} (C : Cx Γ 28 p s m args meth c RX6 cX6_bestLane 4 (some .int))   : ∀ n : Nat, ∀ (S : mM) (x1 : Int32) (x2 : Int32) (x3 : Int32) , fX6_bestLane_5   n S x1 x2 x3 = some (rz, Sz) → ∀ (H : Heap) (locs : List Loc) (ls : Array Slot), St Γ 28 (mE Γ S) s.heap H locs → lv_has ls 4 [(0, .ref (Γ.2.2 (0))), (1, .int x1), (2, .int x2), (3, .int x3)] → W p l e { frames := 5, cells := 0, slots := 0, locals := 110 } s m args below meth c H locs 0 0 (MQ below (gQi Γ 28 rz (mE Γ Sz)) args s 0 0 (wA Γ 28)) (F0 m 5 ls []) := by
  obtain ⟨hx, hb, -, -, hown, hts, -, hwx, -⟩ := id C
  intro n
  induction n with
  | zero =>
    intro S x1 x2 x3 hf
    unfold fX6_bestLane_5 at hf
    cases hf
  | succ n ih =>
    intro S x1 x2 x3 hf H locs ls hP hl
    unfold fX6_bestLane_5 at hf
    refine lv_iload_n hx hb dX6_bestLane_5 rfl (lv_at hl 3 rfl) ?_
    refine lv_aload_n hx hb dX6_bestLane_6 rfl (lv_at hl 0 rfl) ?_
    refine m_get C hP 0 (by decide) k4_53 rfl (v := .int (S.1 0 0)) rfl dX6_bestLane_7 ?_
    refine lv_icmp_ge (tgt := 52) hx hb dX6_bestLane_10 (by decide) (fun hc1 => ?_) (fun hc1 => ?_)
    · have hf := if_t hc1 hf
      refine lv_iload_n hx hb dX6_bestLane_52 rfl (lv_at hl 2 rfl) ?_
      exact r_iret (X := mE Γ) C hP hf dX6_bestLane_53
    · have hf := if_f hc1 hf
      refine lv_aload_n hx hb dX6_bestLane_13 rfl (lv_at hl 0 rfl) ?_
      refine lv_iload_n hx hb dX6_bestLane_14 rfl (lv_at hl 3 rfl) ?_
      refine bd_i hf (fun v2 S2 hq2 hf => ?_)
      refine goI (runV (rest := []) (b := 0) (mX6_mayCome l Γ  hq2) C hP hl.1 (by decide) mE0 rfl k5_96 qX6_mayCome.1 qX6_mayCome.2.1 qX6_mayCome.2.2.1 qX6_mayCome.2.2.2.1 rfl qX6_mayCome.2.2.2.2 ⟨Nat.le_of_ble_eq_true rfl, Nat.le_of_ble_eq_true rfl⟩ ⟨Nat.le_refl 0, Nat.le_refl 0⟩ (Nat.le_of_ble_eq_true rfl) dX6_bestLane_15) hP (fun H locs hP => ?_)
      refine lv_if_eq (tgt := 44) hx hb dX6_bestLane_18 (by decide) (fun hc3 => ?_) (fun hc3 => ?_)
      · have hf := if_t hc3 hf
        exact wX6_bestLane_44 C  ih  S2 x1 x2 x3  hf _ _ _ hP (lv_sub hl [0, 1, 2, 3] rfl)
      · have hf := if_f hc3 hf
        refine lv_iload_n hx hb dX6_bestLane_21 rfl (lv_at hl 2 rfl) ?_
        refine lv_if_lt (tgt := 40) hx hb dX6_bestLane_22 (by decide) (fun hc4 => ?_) (fun hc4 => ?_)
        · have hf := if_t hc4 hf
          exact wX6_bestLane_40 C  ih  S2 x1 x3  hf _ _ _ hP (lv_sub hl [0, 1, 3] rfl)
        · have hf := if_f hc4 hf
          refine lv_aload_n hx hb dX6_bestLane_25 rfl (lv_at hl 0 rfl) ?_
          refine lv_iload_n hx hb dX6_bestLane_26 rfl (lv_at hl 3 rfl) ?_
          refine lv_iload_n hx hb dX6_bestLane_27 rfl (lv_at hl 1 rfl) ?_
          refine bd_i hf (fun v5 S5 hq5 hf => ?_)
          refine goI (runV (rest := []) (b := 0) (mX6_timeIn l Γ  hq5) C hP hl.1 (by decide) mE0 rfl k5_79 qX6_timeIn.1 qX6_timeIn.2.1 qX6_timeIn.2.2.1 qX6_timeIn.2.2.2.1 rfl qX6_timeIn.2.2.2.2 ⟨Nat.le_of_ble_eq_true rfl, Nat.le_of_ble_eq_true rfl⟩ ⟨Nat.le_refl 0, Nat.le_refl 0⟩ (Nat.le_of_ble_eq_true rfl) dX6_bestLane_28) hP (fun H locs hP => ?_)
          refine lv_aload_n hx hb dX6_bestLane_31 rfl (lv_at hl 0 rfl) ?_
          refine lv_iload_n hx hb dX6_bestLane_32 rfl (lv_at hl 2 rfl) ?_
          refine lv_iload_n hx hb dX6_bestLane_33 rfl (lv_at hl 1 rfl) ?_
          refine bd_i hf (fun v6 S6 hq6 hf => ?_)
          refine goI (runV (rest := [.int v5]) (b := 0) (mX6_timeIn l Γ  hq6) C hP hl.1 (by decide) mE0 rfl k5_79 qX6_timeIn.1 qX6_timeIn.2.1 qX6_timeIn.2.2.1 qX6_timeIn.2.2.2.1 rfl qX6_timeIn.2.2.2.2 ⟨Nat.le_of_ble_eq_true rfl, Nat.le_of_ble_eq_true rfl⟩ ⟨Nat.le_refl 0, Nat.le_refl 0⟩ (Nat.le_of_ble_eq_true rfl) dX6_bestLane_34) hP (fun H locs hP => ?_)
          refine lv_icmp_ge (tgt := 44) hx hb dX6_bestLane_37 (by decide) (fun hc7 => ?_) (fun hc7 => ?_)
          · have hf := if_t hc7 hf
            exact wX6_bestLane_44 C  ih  S6 x1 x2 x3  hf _ _ _ hP (lv_sub hl [0, 1, 2, 3] rfl)
          · have hf := if_f hc7 hf
            exact wX6_bestLane_40 C  ih  S6 x1 x3  hf _ _ _ hP (lv_sub hl [0, 1, 3] rfl)
def fX6_bestLane  (S : mM) (x1 : Int32) : Option (Int32 × mM) :=
  fX6_bestLane_5   lF S x1 (-4) (nI 0)
set_option maxHeartbeats 4000000 in
set_option maxRecDepth 100000 in
theorem mX6_bestLane (l : Launch) (Γ : gG)   {S : mM} {x1 : Int32} {rz : Int32} {Sz : mM} (hf : fX6_bestLane S x1 = some (rz, Sz)) : CtI l Γ 28 yX6_bestLane cX6_bestLane 4 .int 5 110 [.ref (Γ.2.2 (0)), .int x1] (mE Γ S) rz (mE Γ Sz) := by
  refine met_body (Γ := Γ) (lv := [(0, .ref (Γ.2.2 (0))), (1, .int x1)]) RX6 (by decide) rfl rfl rfl ?_
  intro p e s m below meth c H locs ls C hP hl
  obtain ⟨hx, hb, -, -, hown, hts, -, hwx, -⟩ := id C
  unfold fX6_bestLane at hf
  refine lv_bipush (v := (-4)) hx hb dX6_bestLane_0 rfl ?_
  refine lv_istore_n (lv' := [(2, .int ((-4))), (0, .ref (Γ.2.2 (0))), (1, .int x1)]) hx hb dX6_bestLane_2 rfl hl (by decide) rfl (fun ls hl => ?_)
  refine lv_iconst (v := nI 0) hx hb dX6_bestLane_3 rfl ?_
  refine lv_istore_n (lv' := [(3, .int (nI 0)), (2, .int ((-4))), (0, .ref (Γ.2.2 (0))), (1, .int x1)]) hx hb dX6_bestLane_4 rfl hl (by decide) rfl (fun ls hl => ?_)
  exact wX6_bestLane_5 C   lF S x1 (-4) (nI 0)  hf _ _ _ hP (lv_sub hl [2, 3, 1, 0] rfl)
-- X6_which
theorem qX6_which : Cond.instanceMethod yX6_which ∈ Ub ∧ Cond.selects RX6 yX6_which yX6_which ∈ Ub ∧ Cond.initialized RX6 ∈ Ub ∧ Cond.code yX6_which cX6_which 2 (some FieldType.int) ∈ Ub ∧ (yX6_which.cls = RX6 ∧ yX6_which.cls ≠ "java/lang/invoke/MethodHandle" ∧ yX6_which.cls ≠ "java/lang/invoke/VarHandle" ∧ (parseMethodDescriptor yX6_which.desc).map (fun d => d.parameters.length) = some 1) := ⟨k5_89, k5_90, k1_5, k5_91, by decide +kernel⟩
def fX6_which  (S : mM) (x1 : Int32) : Option (Int32 × mM) :=
  sv (mS S 0 9 (nI 0)) fun S1 => ( bd (fX6_isSort S1 x1) fun v2 S2 => ( if v2 = 0 then some ((-1), S2) else bd (fX6_whichLane S2) fun v4 S4 => ( some (v4, S4))))
set_option maxHeartbeats 4000000 in
set_option maxRecDepth 100000 in
theorem mX6_which (l : Launch) (Γ : gG)   {S : mM} {x1 : Int32} {rz : Int32} {Sz : mM} (hf : fX6_which S x1 = some (rz, Sz)) : CtI l Γ 28 yX6_which cX6_which 2 .int 3 69 [.ref (Γ.2.2 (0)), .int x1] (mE Γ S) rz (mE Γ Sz) := by
  refine met_body (Γ := Γ) (lv := [(0, .ref (Γ.2.2 (0))), (1, .int x1)]) RX6 (by decide) rfl rfl rfl ?_
  intro p e s m below meth c H locs ls C hP hl
  obtain ⟨hx, hb, -, -, hown, hts, -, hwx, -⟩ := id C
  unfold fX6_which at hf
  refine lv_aload_n hx hb dX6_which_0 rfl (lv_at hl 0 rfl) ?_
  refine lv_iconst (v := nI 0) hx hb dX6_which_1 rfl ?_
  refine m_put C hP 9 (by decide) k4_62 dX6_which_2 (fun H locs hP => ?_)
  refine sv_i hf (fun S1 e1 hf => ?_)
  rw [← e1] at hP
  refine lv_iload_n hx hb dX6_which_5 rfl (lv_at hl 1 rfl) ?_
  refine bd_i hf (fun v2 S2 hq2 hf => ?_)
  refine goI (runS (rest := []) (mX6_isSort l Γ  hq2) C hP hl.1 k5_71 qX6_isSort.1 qX6_isSort.2.1 qX6_isSort.2.2.1 rfl qX6_isSort.2.2.2 ⟨Nat.le_of_ble_eq_true rfl, Nat.le_of_ble_eq_true rfl⟩ ⟨Nat.le_refl 0, Nat.le_refl 0⟩ (Nat.le_of_ble_eq_true rfl) dX6_which_6) hP (fun H locs hP => ?_)
  refine lv_if_eq (tgt := 19) hx hb dX6_which_9 (by decide) (fun hc3 => ?_) (fun hc3 => ?_)
  · have hf := if_t hc3 hf
    refine lv_iconst (v := (-1)) hx hb dX6_which_19 rfl ?_
    exact r_iret (X := mE Γ) C hP hf dX6_which_20
  · have hf := if_f hc3 hf
    refine lv_aload_n hx hb dX6_which_12 rfl (lv_at hl 0 rfl) ?_
    refine bd_i hf (fun v4 S4 hq4 hf => ?_)
    refine goI (runV (rest := []) (b := 0) (mX6_whichLane l Γ  hq4) C hP hl.1 (by decide) mE0 rfl k5_92 qX6_whichLane.1 qX6_whichLane.2.1 qX6_whichLane.2.2.1 qX6_whichLane.2.2.2.1 rfl qX6_whichLane.2.2.2.2 ⟨Nat.le_of_ble_eq_true rfl, Nat.le_of_ble_eq_true rfl⟩ ⟨Nat.le_refl 0, Nat.le_refl 0⟩ (Nat.le_of_ble_eq_true rfl) dX6_which_13) hP (fun H locs hP => ?_)
    refine lv_goto (tgt := 20) hx hb dX6_which_16 (by decide) ?_
    exact r_iret (X := mE Γ) C hP hf dX6_which_20
-- X6_best
theorem qX6_best : Cond.instanceMethod yX6_best ∈ Ub ∧ Cond.selects RX6 yX6_best yX6_best ∈ Ub ∧ Cond.initialized RX6 ∈ Ub ∧ Cond.code yX6_best cX6_best 2 (some FieldType.int) ∈ Ub ∧ (yX6_best.cls = RX6 ∧ yX6_best.cls ≠ "java/lang/invoke/MethodHandle" ∧ yX6_best.cls ≠ "java/lang/invoke/VarHandle" ∧ (parseMethodDescriptor yX6_best.desc).map (fun d => d.parameters.length) = some 1) := ⟨k5_101, k5_102, k1_5, k5_103, by decide +kernel⟩
def fX6_best  (S : mM) (x1 : Int32) : Option (Int32 × mM) :=
  sv (mS S 0 9 (nI 0)) fun S1 => ( bd (fX6_isSort S1 x1) fun v2 S2 => ( if v2 = 0 then some ((-1), S2) else bd (fX6_bestLane S2 x1) fun v4 S4 => ( some (v4, S4))))
set_option maxHeartbeats 4000000 in
set_option maxRecDepth 100000 in
theorem mX6_best (l : Launch) (Γ : gG)   {S : mM} {x1 : Int32} {rz : Int32} {Sz : mM} (hf : fX6_best S x1 = some (rz, Sz)) : CtI l Γ 28 yX6_best cX6_best 2 .int 6 133 [.ref (Γ.2.2 (0)), .int x1] (mE Γ S) rz (mE Γ Sz) := by
  refine met_body (Γ := Γ) (lv := [(0, .ref (Γ.2.2 (0))), (1, .int x1)]) RX6 (by decide) rfl rfl rfl ?_
  intro p e s m below meth c H locs ls C hP hl
  obtain ⟨hx, hb, -, -, hown, hts, -, hwx, -⟩ := id C
  unfold fX6_best at hf
  refine lv_aload_n hx hb dX6_best_0 rfl (lv_at hl 0 rfl) ?_
  refine lv_iconst (v := nI 0) hx hb dX6_best_1 rfl ?_
  refine m_put C hP 9 (by decide) k4_62 dX6_best_2 (fun H locs hP => ?_)
  refine sv_i hf (fun S1 e1 hf => ?_)
  rw [← e1] at hP
  refine lv_iload_n hx hb dX6_best_5 rfl (lv_at hl 1 rfl) ?_
  refine bd_i hf (fun v2 S2 hq2 hf => ?_)
  refine goI (runS (rest := []) (mX6_isSort l Γ  hq2) C hP hl.1 k5_71 qX6_isSort.1 qX6_isSort.2.1 qX6_isSort.2.2.1 rfl qX6_isSort.2.2.2 ⟨Nat.le_of_ble_eq_true rfl, Nat.le_of_ble_eq_true rfl⟩ ⟨Nat.le_refl 0, Nat.le_refl 0⟩ (Nat.le_of_ble_eq_true rfl) dX6_best_6) hP (fun H locs hP => ?_)
  refine lv_if_eq (tgt := 20) hx hb dX6_best_9 (by decide) (fun hc3 => ?_) (fun hc3 => ?_)
  · have hf := if_t hc3 hf
    refine lv_iconst (v := (-1)) hx hb dX6_best_20 rfl ?_
    exact r_iret (X := mE Γ) C hP hf dX6_best_21
  · have hf := if_f hc3 hf
    refine lv_aload_n hx hb dX6_best_12 rfl (lv_at hl 0 rfl) ?_
    refine lv_iload_n hx hb dX6_best_13 rfl (lv_at hl 1 rfl) ?_
    refine bd_i hf (fun v4 S4 hq4 hf => ?_)
    refine goI (runV (rest := []) (b := 0) (mX6_bestLane l Γ  hq4) C hP hl.1 (by decide) mE0 rfl k5_104 qX6_bestLane.1 qX6_bestLane.2.1 qX6_bestLane.2.2.1 qX6_bestLane.2.2.2.1 rfl qX6_bestLane.2.2.2.2 ⟨Nat.le_of_ble_eq_true rfl, Nat.le_of_ble_eq_true rfl⟩ ⟨Nat.le_refl 0, Nat.le_refl 0⟩ (Nat.le_of_ble_eq_true rfl) dX6_best_14) hP (fun H locs hP => ?_)
    refine lv_goto (tgt := 21) hx hb dX6_best_17 (by decide) ?_
    exact r_iret (X := mE Γ) C hP hf dX6_best_21
-- X6_regretOf
theorem qX6_regretOf : Cond.instanceMethod yX6_regretOf ∈ Ub ∧ Cond.selects RX6 yX6_regretOf yX6_regretOf ∈ Ub ∧ Cond.initialized RX6 ∈ Ub ∧ Cond.code yX6_regretOf cX6_regretOf 3 (some FieldType.int) ∈ Ub ∧ (yX6_regretOf.cls = RX6 ∧ yX6_regretOf.cls ≠ "java/lang/invoke/MethodHandle" ∧ yX6_regretOf.cls ≠ "java/lang/invoke/VarHandle" ∧ (parseMethodDescriptor yX6_regretOf.desc).map (fun d => d.parameters.length) = some 1) := ⟨k5_114, ks_49, k1_5, k5_115, by decide +kernel⟩
def fX6_regretOf  (S : mM) (x1 : Int32) : Option (Int32 × mM) :=
  bd (fX6_whichLane S) fun v1 S1 => ( if (0 : Int32) ≤ v1 then bd (fX6_timeIn S1 v1 x1) fun v3 S3 => ( bd (fX6_bestLane S3 x1) fun v4 S4 => ( bd (fX6_timeIn S4 v4 x1) fun v5 S5 => ( some (v3 - v5, S5)))) else some ((-4), S1))
set_option maxHeartbeats 4000000 in
set_option maxRecDepth 100000 in
theorem mX6_regretOf (l : Launch) (Γ : gG)   {S : mM} {x1 : Int32} {rz : Int32} {Sz : mM} (hf : fX6_regretOf S x1 = some (rz, Sz)) : CtI l Γ 28 yX6_regretOf cX6_regretOf 3 .int 6 133 [.ref (Γ.2.2 (0)), .int x1] (mE Γ S) rz (mE Γ Sz) := by
  refine met_body (Γ := Γ) (lv := [(0, .ref (Γ.2.2 (0))), (1, .int x1)]) RX6 (by decide) rfl rfl rfl ?_
  intro p e s m below meth c H locs ls C hP hl
  obtain ⟨hx, hb, -, -, hown, hts, -, hwx, -⟩ := id C
  unfold fX6_regretOf at hf
  refine lv_aload_n hx hb dX6_regretOf_0 rfl (lv_at hl 0 rfl) ?_
  refine bd_i hf (fun v1 S1 hq1 hf => ?_)
  refine goI (runV (rest := []) (b := 0) (mX6_whichLane l Γ  hq1) C hP hl.1 (by decide) mE0 rfl k5_92 qX6_whichLane.1 qX6_whichLane.2.1 qX6_whichLane.2.2.1 qX6_whichLane.2.2.2.1 rfl qX6_whichLane.2.2.2.2 ⟨Nat.le_of_ble_eq_true rfl, Nat.le_of_ble_eq_true rfl⟩ ⟨Nat.le_refl 0, Nat.le_refl 0⟩ (Nat.le_of_ble_eq_true rfl) dX6_regretOf_1) hP (fun H locs hP => ?_)
  refine lv_istore_n (lv' := [(2, .int v1), (0, .ref (Γ.2.2 (0))), (1, .int x1)]) hx hb dX6_regretOf_4 rfl hl (by decide) rfl (fun ls hl => ?_)
  refine lv_iload_n hx hb dX6_regretOf_5 rfl (lv_at hl 0 rfl) ?_
  refine lv_if_ge (tgt := 14) hx hb dX6_regretOf_6 (by decide) (fun hc2 => ?_) (fun hc2 => ?_)
  · have hf := if_t hc2 hf
    refine lv_aload_n hx hb dX6_regretOf_14 rfl (lv_at hl 1 rfl) ?_
    refine lv_iload_n hx hb dX6_regretOf_15 rfl (lv_at hl 0 rfl) ?_
    refine lv_iload_n hx hb dX6_regretOf_16 rfl (lv_at hl 2 rfl) ?_
    refine bd_i hf (fun v3 S3 hq3 hf => ?_)
    refine goI (runV (rest := []) (b := 0) (mX6_timeIn l Γ  hq3) C hP hl.1 (by decide) mE0 rfl k5_79 qX6_timeIn.1 qX6_timeIn.2.1 qX6_timeIn.2.2.1 qX6_timeIn.2.2.2.1 rfl qX6_timeIn.2.2.2.2 ⟨Nat.le_of_ble_eq_true rfl, Nat.le_of_ble_eq_true rfl⟩ ⟨Nat.le_refl 0, Nat.le_refl 0⟩ (Nat.le_of_ble_eq_true rfl) dX6_regretOf_17) hP (fun H locs hP => ?_)
    refine lv_aload_n hx hb dX6_regretOf_20 rfl (lv_at hl 1 rfl) ?_
    refine lv_aload_n hx hb dX6_regretOf_21 rfl (lv_at hl 1 rfl) ?_
    refine lv_iload_n hx hb dX6_regretOf_22 rfl (lv_at hl 2 rfl) ?_
    refine bd_i hf (fun v4 S4 hq4 hf => ?_)
    refine goI (runV (rest := [.ref (Γ.2.2 (0)), .int v3]) (b := 0) (mX6_bestLane l Γ  hq4) C hP hl.1 (by decide) mE0 rfl k5_104 qX6_bestLane.1 qX6_bestLane.2.1 qX6_bestLane.2.2.1 qX6_bestLane.2.2.2.1 rfl qX6_bestLane.2.2.2.2 ⟨Nat.le_of_ble_eq_true rfl, Nat.le_of_ble_eq_true rfl⟩ ⟨Nat.le_refl 0, Nat.le_refl 0⟩ (Nat.le_of_ble_eq_true rfl) dX6_regretOf_23) hP (fun H locs hP => ?_)
    refine lv_iload_n hx hb dX6_regretOf_26 rfl (lv_at hl 2 rfl) ?_
    refine bd_i hf (fun v5 S5 hq5 hf => ?_)
    refine goI (runV (rest := [.int v3]) (b := 0) (mX6_timeIn l Γ  hq5) C hP hl.1 (by decide) mE0 rfl k5_79 qX6_timeIn.1 qX6_timeIn.2.1 qX6_timeIn.2.2.1 qX6_timeIn.2.2.2.1 rfl qX6_timeIn.2.2.2.2 ⟨Nat.le_of_ble_eq_true rfl, Nat.le_of_ble_eq_true rfl⟩ ⟨Nat.le_refl 0, Nat.le_refl 0⟩ (Nat.le_of_ble_eq_true rfl) dX6_regretOf_27) hP (fun H locs hP => ?_)
    refine lv_isub hx hb dX6_regretOf_30 ?_
    exact r_iret (X := mE Γ) C hP hf dX6_regretOf_31
  · have hf := if_f hc2 hf
    refine lv_bipush (v := (-4)) hx hb dX6_regretOf_9 rfl ?_
    refine lv_goto (tgt := 31) hx hb dX6_regretOf_11 (by decide) ?_
    exact r_iret (X := mE Γ) C hP hf dX6_regretOf_31
-- X6_regret
theorem qX6_regret : Cond.instanceMethod yX6_regret ∈ Ub ∧ Cond.selects RX6 yX6_regret yX6_regret ∈ Ub ∧ Cond.initialized RX6 ∈ Ub ∧ Cond.code yX6_regret cX6_regret 2 (some FieldType.int) ∈ Ub ∧ (yX6_regret.cls = RX6 ∧ yX6_regret.cls ≠ "java/lang/invoke/MethodHandle" ∧ yX6_regret.cls ≠ "java/lang/invoke/VarHandle" ∧ (parseMethodDescriptor yX6_regret.desc).map (fun d => d.parameters.length) = some 1) := ⟨k5_109, k5_110, k1_5, k5_111, by decide +kernel⟩
def fX6_regret  (S : mM) (x1 : Int32) : Option (Int32 × mM) :=
  sv (mS S 0 9 (nI 0)) fun S1 => ( bd (fX6_isSort S1 x1) fun v2 S2 => ( if v2 = 0 then some ((-1), S2) else bd (fX6_regretOf S2 x1) fun v4 S4 => ( some (v4, S4))))
set_option maxHeartbeats 4000000 in
set_option maxRecDepth 100000 in
theorem mX6_regret (l : Launch) (Γ : gG)   {S : mM} {x1 : Int32} {rz : Int32} {Sz : mM} (hf : fX6_regret S x1 = some (rz, Sz)) : CtI l Γ 28 yX6_regret cX6_regret 2 .int 7 155 [.ref (Γ.2.2 (0)), .int x1] (mE Γ S) rz (mE Γ Sz) := by
  refine met_body (Γ := Γ) (lv := [(0, .ref (Γ.2.2 (0))), (1, .int x1)]) RX6 (by decide) rfl rfl rfl ?_
  intro p e s m below meth c H locs ls C hP hl
  obtain ⟨hx, hb, -, -, hown, hts, -, hwx, -⟩ := id C
  unfold fX6_regret at hf
  refine lv_aload_n hx hb dX6_regret_0 rfl (lv_at hl 0 rfl) ?_
  refine lv_iconst (v := nI 0) hx hb dX6_regret_1 rfl ?_
  refine m_put C hP 9 (by decide) k4_62 dX6_regret_2 (fun H locs hP => ?_)
  refine sv_i hf (fun S1 e1 hf => ?_)
  rw [← e1] at hP
  refine lv_iload_n hx hb dX6_regret_5 rfl (lv_at hl 1 rfl) ?_
  refine bd_i hf (fun v2 S2 hq2 hf => ?_)
  refine goI (runS (rest := []) (mX6_isSort l Γ  hq2) C hP hl.1 k5_71 qX6_isSort.1 qX6_isSort.2.1 qX6_isSort.2.2.1 rfl qX6_isSort.2.2.2 ⟨Nat.le_of_ble_eq_true rfl, Nat.le_of_ble_eq_true rfl⟩ ⟨Nat.le_refl 0, Nat.le_refl 0⟩ (Nat.le_of_ble_eq_true rfl) dX6_regret_6) hP (fun H locs hP => ?_)
  refine lv_if_eq (tgt := 20) hx hb dX6_regret_9 (by decide) (fun hc3 => ?_) (fun hc3 => ?_)
  · have hf := if_t hc3 hf
    refine lv_iconst (v := (-1)) hx hb dX6_regret_20 rfl ?_
    exact r_iret (X := mE Γ) C hP hf dX6_regret_21
  · have hf := if_f hc3 hf
    refine lv_aload_n hx hb dX6_regret_12 rfl (lv_at hl 0 rfl) ?_
    refine lv_iload_n hx hb dX6_regret_13 rfl (lv_at hl 1 rfl) ?_
    refine bd_i hf (fun v4 S4 hq4 hf => ?_)
    refine goI (runV (rest := []) (b := 0) (mX6_regretOf l Γ  hq4) C hP hl.1 (by decide) mE0 rfl k5_112 qX6_regretOf.1 qX6_regretOf.2.1 qX6_regretOf.2.2.1 qX6_regretOf.2.2.2.1 rfl qX6_regretOf.2.2.2.2 ⟨Nat.le_of_ble_eq_true rfl, Nat.le_of_ble_eq_true rfl⟩ ⟨Nat.le_refl 0, Nat.le_refl 0⟩ (Nat.le_of_ble_eq_true rfl) dX6_regret_14) hP (fun H locs hP => ?_)
    refine lv_goto (tgt := 21) hx hb dX6_regret_17 (by decide) ?_
    exact r_iret (X := mE Γ) C hP hf dX6_regret_21
-- X6_timeAt
theorem qX6_timeAt : Cond.instanceMethod yX6_timeAt ∈ Ub ∧ Cond.selects RX6 yX6_timeAt yX6_timeAt ∈ Ub ∧ Cond.initialized RX6 ∈ Ub ∧ Cond.code yX6_timeAt cX6_timeAt 5 (some FieldType.int) ∈ Ub ∧ (yX6_timeAt.cls = RX6 ∧ yX6_timeAt.cls ≠ "java/lang/invoke/MethodHandle" ∧ yX6_timeAt.cls ≠ "java/lang/invoke/VarHandle" ∧ (parseMethodDescriptor yX6_timeAt.desc).map (fun d => d.parameters.length) = some 2) := ⟨k5_122, ks_50, k1_5, k5_123, by decide +kernel⟩
def fX6_timeAt_10   : Nat → mM → Int32 → Int32 → Int32 → Int32 → Option (Int32 × mM)
  | 0, _, _, _, _, _ => none
  | n + 1, S, x1, x2, x3, x4 =>
    if x2 < x4 then some (x3, S) else gi (((nI 8) * x1) + x4) 40 (bd (fX6_takesIn S x1 (S.1 6 (((nI 8) * x1) + x4).toNatClampNeg)) fun v6 S6 => ( (fX6_timeAt_10   n) S6 x1 x2 (x3 + v6) (x4 + (nI 1))))
set_option maxHeartbeats 4000000 in
set_option maxRecDepth 100000 in
theorem wX6_timeAt_10 {p : Program} {l : Launch} {e : Env} {s : State} {m : MethodId} {args : Array Value} {below : List Frame} {meth : Method} {c : Code} {Γ : gG} {rz : Int32} {Sz : mM} (C : Cx Γ 28 p s m args meth c RX6 cX6_timeAt 5 (some .int))   : ∀ n : Nat, ∀ (S : mM) (x1 : Int32) (x2 : Int32) (x3 : Int32) (x4 : Int32) , fX6_timeAt_10   n S x1 x2 x3 x4 = some (rz, Sz) → ∀ (H : Heap) (locs : List Loc) (ls : Array Slot), St Γ 28 (mE Γ S) s.heap H locs → lv_has ls 5 [(0, .ref (Γ.2.2 (0))), (1, .int x1), (2, .int x2), (3, .int x3), (4, .int x4)] → W p l e { frames := 3, cells := 0, slots := 0, locals := 65 } s m args below meth c H locs 0 0 (MQ below (gQi Γ 28 rz (mE Γ Sz)) args s 0 0 (wA Γ 28)) (F0 m 10 ls []) := by
  obtain ⟨hx, hb, -, -, hown, hts, -, hwx, -⟩ := id C
  intro n
  induction n with
  | zero =>
    intro S x1 x2 x3 x4 hf
    unfold fX6_timeAt_10 at hf
    cases hf
  | succ n ih =>
    intro S x1 x2 x3 x4 hf H locs ls hP hl
    unfold fX6_timeAt_10 at hf
    refine lv_iload hx hb dX6_timeAt_10 (lv_at hl 4 rfl) ?_
    refine lv_iload_n hx hb dX6_timeAt_12 rfl (lv_at hl 2 rfl) ?_
    refine lv_icmp_gt (tgt := 42) hx hb dX6_timeAt_13 (by decide) (fun hc3 => ?_) (fun hc3 => ?_)
    · have hf := if_t hc3 hf
      refine lv_iload_n hx hb dX6_timeAt_42 rfl (lv_at hl 3 rfl) ?_
      exact r_iret (X := mE Γ) C hP hf dX6_timeAt_43
    · have hf := if_f hc3 hf
      refine lv_iload_n hx hb dX6_timeAt_16 rfl (lv_at hl 3 rfl) ?_
      refine lv_aload_n hx hb dX6_timeAt_17 rfl (lv_at hl 0 rfl) ?_
      refine lv_iload_n hx hb dX6_timeAt_18 rfl (lv_at hl 1 rfl) ?_
      refine lv_aload_n hx hb dX6_timeAt_19 rfl (lv_at hl 0 rfl) ?_
      refine m_get C hP 8 (by decide) k4_61 rfl (v := .ref (Γ.2.2 (6))) rfl dX6_timeAt_20 ?_
      refine lv_bipush (v := nI 8) hx hb dX6_timeAt_23 rfl ?_
      refine lv_iload_n hx hb dX6_timeAt_25 rfl (lv_at hl 1 rfl) ?_
      refine lv_imul hx hb dX6_timeAt_26 ?_
      refine lv_iload hx hb dX6_timeAt_27 (lv_at hl 4 rfl) ?_
      refine lv_iadd hx hb dX6_timeAt_29 ?_
      refine gi_i hf (fun hi4 hj5 hf => ?_)
      refine m_ild C hP mA_6 hi4 dX6_timeAt_30 ?_
      refine bd_i hf (fun v6 S6 hq6 hf => ?_)
      refine goI (runV (rest := [.int x3]) (b := 0) (mX6_takesIn l Γ  hq6) C hP hl.1 (by decide) mE0 rfl k5_8 qX6_takesIn.1 qX6_takesIn.2.1 qX6_takesIn.2.2.1 qX6_takesIn.2.2.2.1 rfl qX6_takesIn.2.2.2.2 ⟨Nat.le_of_ble_eq_true rfl, Nat.le_of_ble_eq_true rfl⟩ ⟨Nat.le_refl 0, Nat.le_refl 0⟩ (Nat.le_of_ble_eq_true rfl) dX6_timeAt_31) hP (fun H locs hP => ?_)
      refine lv_iadd hx hb dX6_timeAt_34 ?_
      refine lv_istore_n (lv' := [(3, .int (x3 + v6)), (0, .ref (Γ.2.2 (0))), (1, .int x1), (2, .int x2), (4, .int x4)]) hx hb dX6_timeAt_35 rfl hl (by decide) rfl (fun ls hl => ?_)
      refine lv_iinc (v := x4 + (nI 1)) (lv' := [(4, .int (x4 + (nI 1))), (3, .int (x3 + v6)), (0, .ref (Γ.2.2 (0))), (1, .int x1), (2, .int x2)]) hx hb dX6_timeAt_36 hl (k := 4) rfl rfl (by decide) rfl (fun ls hl => ?_)
      refine lv_goto (tgt := 10) hx hb dX6_timeAt_39 (by decide) ?_
      exact ih S6 x1 x2 (x3 + v6) (x4 + (nI 1))  hf _ _ _ hP (lv_sub hl [2, 3, 4, 1, 0] rfl)
def fX6_timeAt  (S : mM) (x1 : Int32) (x2 : Int32) : Option (Int32 × mM) :=
  gi x1 5 (fX6_timeAt_10   lF S x1 x2 (S.1 4 (x1).toNatClampNeg) (nI 1))
set_option maxHeartbeats 4000000 in
set_option maxRecDepth 100000 in
theorem mX6_timeAt (l : Launch) (Γ : gG)   {S : mM} {x1 : Int32} {x2 : Int32} {rz : Int32} {Sz : mM} (hf : fX6_timeAt S x1 x2 = some (rz, Sz)) : CtI l Γ 28 yX6_timeAt cX6_timeAt 5 .int 3 65 [.ref (Γ.2.2 (0)), .int x1, .int x2] (mE Γ S) rz (mE Γ Sz) := by
  refine met_body (Γ := Γ) (lv := [(0, .ref (Γ.2.2 (0))), (1, .int x1), (2, .int x2)]) RX6 (by decide) rfl rfl rfl ?_
  intro p e s m below meth c H locs ls C hP hl
  obtain ⟨hx, hb, -, -, hown, hts, -, hwx, -⟩ := id C
  unfold fX6_timeAt at hf
  refine lv_aload_n hx hb dX6_timeAt_0 rfl (lv_at hl 0 rfl) ?_
  refine m_get C hP 6 (by decide) k4_59 rfl (v := .ref (Γ.2.2 (4))) rfl dX6_timeAt_1 ?_
  refine lv_iload_n hx hb dX6_timeAt_4 rfl (lv_at hl 1 rfl) ?_
  refine gi_i hf (fun hi1 hj2 hf => ?_)
  refine m_ild C hP mA_4 hi1 dX6_timeAt_5 ?_
  refine lv_istore_n (lv' := [(3, .int (S.1 4 (x1).toNatClampNeg)), (0, .ref (Γ.2.2 (0))), (1, .int x1), (2, .int x2)]) hx hb dX6_timeAt_6 rfl hl (by decide) rfl (fun ls hl => ?_)
  refine lv_iconst (v := nI 1) hx hb dX6_timeAt_7 rfl ?_
  refine lv_istore (lv' := [(4, .int (nI 1)), (3, .int (S.1 4 (x1).toNatClampNeg)), (0, .ref (Γ.2.2 (0))), (1, .int x1), (2, .int x2)]) hx hb dX6_timeAt_8 hl (by decide) rfl (fun ls hl => ?_)
  exact wX6_timeAt_10 C   lF S x1 x2 (S.1 4 (x1).toNatClampNeg) (nI 1)  hf _ _ _ hP (lv_sub hl [2, 3, 4, 1, 0] rfl)
-- X6_time
theorem qX6_time : Cond.instanceMethod yX6_time ∈ Ub ∧ Cond.selects RX6 yX6_time yX6_time ∈ Ub ∧ Cond.initialized RX6 ∈ Ub ∧ Cond.code yX6_time cX6_time 3 (some FieldType.int) ∈ Ub ∧ (yX6_time.cls = RX6 ∧ yX6_time.cls ≠ "java/lang/invoke/MethodHandle" ∧ yX6_time.cls ≠ "java/lang/invoke/VarHandle" ∧ (parseMethodDescriptor yX6_time.desc).map (fun d => d.parameters.length) = some 2) := ⟨k5_117, k5_118, k1_5, k5_119, by decide +kernel⟩
def fX6_time  (S : mM) (x1 : Int32) (x2 : Int32) : Option (Int32 × mM) :=
  sv (mS S 0 9 (nI 0)) fun S1 => ( bd (fX6_isCar S1 x1 x2) fun v2 S2 => ( if v2 = 0 then some ((-1), S2) else bd (fX6_timeAt S2 x1 x2) fun v4 S4 => ( some (v4, S4))))
set_option maxHeartbeats 4000000 in
set_option maxRecDepth 100000 in
theorem mX6_time (l : Launch) (Γ : gG)   {S : mM} {x1 : Int32} {x2 : Int32} {rz : Int32} {Sz : mM} (hf : fX6_time S x1 x2 = some (rz, Sz)) : CtI l Γ 28 yX6_time cX6_time 3 .int 4 89 [.ref (Γ.2.2 (0)), .int x1, .int x2] (mE Γ S) rz (mE Γ Sz) := by
  refine met_body (Γ := Γ) (lv := [(0, .ref (Γ.2.2 (0))), (1, .int x1), (2, .int x2)]) RX6 (by decide) rfl rfl rfl ?_
  intro p e s m below meth c H locs ls C hP hl
  obtain ⟨hx, hb, -, -, hown, hts, -, hwx, -⟩ := id C
  unfold fX6_time at hf
  refine lv_aload_n hx hb dX6_time_0 rfl (lv_at hl 0 rfl) ?_
  refine lv_iconst (v := nI 0) hx hb dX6_time_1 rfl ?_
  refine m_put C hP 9 (by decide) k4_62 dX6_time_2 (fun H locs hP => ?_)
  refine sv_i hf (fun S1 e1 hf => ?_)
  rw [← e1] at hP
  refine lv_aload_n hx hb dX6_time_5 rfl (lv_at hl 0 rfl) ?_
  refine lv_iload_n hx hb dX6_time_6 rfl (lv_at hl 1 rfl) ?_
  refine lv_iload_n hx hb dX6_time_7 rfl (lv_at hl 2 rfl) ?_
  refine bd_i hf (fun v2 S2 hq2 hf => ?_)
  refine goI (runV (rest := []) (b := 0) (mX6_isCar l Γ  hq2) C hP hl.1 (by decide) mE0 rfl k5_63 qX6_isCar.1 qX6_isCar.2.1 qX6_isCar.2.2.1 qX6_isCar.2.2.2.1 rfl qX6_isCar.2.2.2.2 ⟨Nat.le_of_ble_eq_true rfl, Nat.le_of_ble_eq_true rfl⟩ ⟨Nat.le_refl 0, Nat.le_refl 0⟩ (Nat.le_of_ble_eq_true rfl) dX6_time_8) hP (fun H locs hP => ?_)
  refine lv_if_eq (tgt := 23) hx hb dX6_time_11 (by decide) (fun hc3 => ?_) (fun hc3 => ?_)
  · have hf := if_t hc3 hf
    refine lv_iconst (v := (-1)) hx hb dX6_time_23 rfl ?_
    exact r_iret (X := mE Γ) C hP hf dX6_time_24
  · have hf := if_f hc3 hf
    refine lv_aload_n hx hb dX6_time_14 rfl (lv_at hl 0 rfl) ?_
    refine lv_iload_n hx hb dX6_time_15 rfl (lv_at hl 1 rfl) ?_
    refine lv_iload_n hx hb dX6_time_16 rfl (lv_at hl 2 rfl) ?_
    refine bd_i hf (fun v4 S4 hq4 hf => ?_)
    refine goI (runV (rest := []) (b := 0) (mX6_timeAt l Γ  hq4) C hP hl.1 (by decide) mE0 rfl k5_120 qX6_timeAt.1 qX6_timeAt.2.1 qX6_timeAt.2.2.1 qX6_timeAt.2.2.2.1 rfl qX6_timeAt.2.2.2.2 ⟨Nat.le_of_ble_eq_true rfl, Nat.le_of_ble_eq_true rfl⟩ ⟨Nat.le_refl 0, Nat.le_refl 0⟩ (Nat.le_of_ble_eq_true rfl) dX6_time_17) hP (fun H locs hP => ?_)
    refine lv_goto (tgt := 24) hx hb dX6_time_20 (by decide) ?_
    exact r_iret (X := mE Γ) C hP hf dX6_time_24
-- X6_allTimes
theorem qX6_allTimes : Cond.instanceMethod yX6_allTimes ∈ Ub ∧ Cond.selects RX6 yX6_allTimes yX6_allTimes ∈ Ub ∧ Cond.initialized RX6 ∈ Ub ∧ Cond.code yX6_allTimes cX6_allTimes 4 (some FieldType.int) ∈ Ub ∧ (yX6_allTimes.cls = RX6 ∧ yX6_allTimes.cls ≠ "java/lang/invoke/MethodHandle" ∧ yX6_allTimes.cls ≠ "java/lang/invoke/VarHandle" ∧ (parseMethodDescriptor yX6_allTimes.desc).map (fun d => d.parameters.length) = some 0) := ⟨k5_130, ks_51, k1_5, k5_131, by decide +kernel⟩
def fX6_allTimes_14  (K4 : mM → Int32 → Int32 → Option (Int32 × mM)) : Nat → mM → Int32 → Int32 → Int32 → Option (Int32 × mM)
  | 0, _, _, _, _ => none
  | n + 1, S, x1, x2, x3 =>
    gi x2 5 (if (S.1 3 (x2).toNatClampNeg) ≤ x3 then K4 S x1 (x2 + (nI 1)) else bd (fX6_timeAt S x2 x3) fun v5 S5 => ( (fX6_allTimes_14  K4 n) S5 (x1 + v5) x2 (x3 + (nI 1))))
set_option maxHeartbeats 4000000 in
set_option maxRecDepth 100000 in
theorem wX6_allTimes_14 {p : Program} {l : Launch} {e : Env} {s : State} {m : MethodId} {args : Array Value} {below : List Frame} {meth : Method} {c : Code} {Γ : gG} {rz : Int32} {Sz : mM} (C : Cx Γ 28 p s m args meth c RX6 cX6_allTimes 4 (some .int))  {K4 : mM → Int32 → Int32 → Option (Int32 × mM)} (hK4 : ∀ (S : mM) (x1 : Int32) (x2 : Int32) , K4 S x1 x2 = some (rz, Sz) → ∀ (H : Heap) (locs : List Loc) (ls : Array Slot), St Γ 28 (mE Γ S) s.heap H locs → lv_has ls 4 [(0, .ref (Γ.2.2 (0))), (1, .int x1), (2, .int x2)] → W p l e { frames := 4, cells := 0, slots := 0, locals := 89 } s m args below meth c H locs 0 0 (MQ below (gQi Γ 28 rz (mE Γ Sz)) args s 0 0 (wA Γ 28)) (F0 m 4 ls [])) : ∀ n : Nat, ∀ (S : mM) (x1 : Int32) (x2 : Int32) (x3 : Int32) , fX6_allTimes_14  K4 n S x1 x2 x3 = some (rz, Sz) → ∀ (H : Heap) (locs : List Loc) (ls : Array Slot), St Γ 28 (mE Γ S) s.heap H locs → lv_has ls 4 [(0, .ref (Γ.2.2 (0))), (1, .int x1), (2, .int x2), (3, .int x3)] → W p l e { frames := 4, cells := 0, slots := 0, locals := 89 } s m args below meth c H locs 0 0 (MQ below (gQi Γ 28 rz (mE Γ Sz)) args s 0 0 (wA Γ 28)) (F0 m 14 ls []) := by
  obtain ⟨hx, hb, -, -, hown, hts, -, hwx, -⟩ := id C
  intro n
  induction n with
  | zero =>
    intro S x1 x2 x3 hf
    unfold fX6_allTimes_14 at hf
    cases hf
  | succ n ih =>
    intro S x1 x2 x3 hf H locs ls hP hl
    unfold fX6_allTimes_14 at hf
    refine lv_iload_n hx hb dX6_allTimes_14 rfl (lv_at hl 3 rfl) ?_
    refine lv_aload_n hx hb dX6_allTimes_15 rfl (lv_at hl 0 rfl) ?_
    refine m_get C hP 5 (by decide) k4_58 rfl (v := .ref (Γ.2.2 (3))) rfl dX6_allTimes_16 ?_
    refine lv_iload_n hx hb dX6_allTimes_19 rfl (lv_at hl 2 rfl) ?_
    refine gi_i hf (fun hi2 hj3 hf => ?_)
    refine m_ild C hP mA_3 hi2 dX6_allTimes_20 ?_
    refine lv_icmp_ge (tgt := 39) hx hb dX6_allTimes_21 (by decide) (fun hc4 => ?_) (fun hc4 => ?_)
    · have hf := if_t hc4 hf
      refine lv_iinc (v := x2 + (nI 1)) (lv' := [(2, .int (x2 + (nI 1))), (0, .ref (Γ.2.2 (0))), (1, .int x1), (3, .int x3)]) hx hb dX6_allTimes_39 hl (k := 2) rfl rfl (by decide) rfl (fun ls hl => ?_)
      refine lv_goto (tgt := 4) hx hb dX6_allTimes_42 (by decide) ?_
      exact hK4 S x1 (x2 + (nI 1))  hf _ _ _ hP (lv_sub hl [1, 2, 0] rfl)
    · have hf := if_f hc4 hf
      refine lv_iload_n hx hb dX6_allTimes_24 rfl (lv_at hl 1 rfl) ?_
      refine lv_aload_n hx hb dX6_allTimes_25 rfl (lv_at hl 0 rfl) ?_
      refine lv_iload_n hx hb dX6_allTimes_26 rfl (lv_at hl 2 rfl) ?_
      refine lv_iload_n hx hb dX6_allTimes_27 rfl (lv_at hl 3 rfl) ?_
      refine bd_i hf (fun v5 S5 hq5 hf => ?_)
      refine goI (runV (rest := [.int x1]) (b := 0) (mX6_timeAt l Γ  hq5) C hP hl.1 (by decide) mE0 rfl k5_120 qX6_timeAt.1 qX6_timeAt.2.1 qX6_timeAt.2.2.1 qX6_timeAt.2.2.2.1 rfl qX6_timeAt.2.2.2.2 ⟨Nat.le_of_ble_eq_true rfl, Nat.le_of_ble_eq_true rfl⟩ ⟨Nat.le_refl 0, Nat.le_refl 0⟩ (Nat.le_of_ble_eq_true rfl) dX6_allTimes_28) hP (fun H locs hP => ?_)
      refine lv_iadd hx hb dX6_allTimes_31 ?_
      refine lv_istore_n (lv' := [(1, .int (x1 + v5)), (0, .ref (Γ.2.2 (0))), (2, .int x2), (3, .int x3)]) hx hb dX6_allTimes_32 rfl hl (by decide) rfl (fun ls hl => ?_)
      refine lv_iinc (v := x3 + (nI 1)) (lv' := [(3, .int (x3 + (nI 1))), (1, .int (x1 + v5)), (0, .ref (Γ.2.2 (0))), (2, .int x2)]) hx hb dX6_allTimes_33 hl (k := 3) rfl rfl (by decide) rfl (fun ls hl => ?_)
      refine lv_goto (tgt := 14) hx hb dX6_allTimes_36 (by decide) ?_
      exact ih S5 (x1 + v5) x2 (x3 + (nI 1))  hf _ _ _ hP (lv_sub hl [2, 1, 3, 0] rfl)
def fX6_allTimes_4   : Nat → mM → Int32 → Int32 → Option (Int32 × mM)
  | 0, _, _, _ => none
  | n + 1, S, x1, x2 =>
    if (S.1 0 0) ≤ x2 then some (x1, S) else fX6_allTimes_14  (fX6_allTimes_4   n) lF S x1 x2 (nI 0)
set_option maxHeartbeats 4000000 in
set_option maxRecDepth 100000 in
theorem wX6_allTimes_4 {p : Program} {l : Launch} {e : Env} {s : State} {m : MethodId} {args : Array Value} {below : List Frame} {meth : Method} {c : Code} {Γ : gG} {rz : Int32} {Sz : mM} (C : Cx Γ 28 p s m args meth c RX6 cX6_allTimes 4 (some .int))   : ∀ n : Nat, ∀ (S : mM) (x1 : Int32) (x2 : Int32) , fX6_allTimes_4   n S x1 x2 = some (rz, Sz) → ∀ (H : Heap) (locs : List Loc) (ls : Array Slot), St Γ 28 (mE Γ S) s.heap H locs → lv_has ls 4 [(0, .ref (Γ.2.2 (0))), (1, .int x1), (2, .int x2)] → W p l e { frames := 4, cells := 0, slots := 0, locals := 89 } s m args below meth c H locs 0 0 (MQ below (gQi Γ 28 rz (mE Γ Sz)) args s 0 0 (wA Γ 28)) (F0 m 4 ls []) := by
  obtain ⟨hx, hb, -, -, hown, hts, -, hwx, -⟩ := id C
  intro n
  induction n with
  | zero =>
    intro S x1 x2 hf
    unfold fX6_allTimes_4 at hf
    cases hf
  | succ n ih =>
    intro S x1 x2 hf H locs ls hP hl
    unfold fX6_allTimes_4 at hf
    refine lv_iload_n hx hb dX6_allTimes_4 rfl (lv_at hl 2 rfl) ?_
    refine lv_aload_n hx hb dX6_allTimes_5 rfl (lv_at hl 0 rfl) ?_
    refine m_get C hP 0 (by decide) k4_53 rfl (v := .int (S.1 0 0)) rfl dX6_allTimes_6 ?_
    refine lv_icmp_ge (tgt := 45) hx hb dX6_allTimes_9 (by decide) (fun hc1 => ?_) (fun hc1 => ?_)
    · have hf := if_t hc1 hf
      refine lv_iload_n hx hb dX6_allTimes_45 rfl (lv_at hl 1 rfl) ?_
      exact r_iret (X := mE Γ) C hP hf dX6_allTimes_46
    · have hf := if_f hc1 hf
      refine lv_iconst (v := nI 0) hx hb dX6_allTimes_12 rfl ?_
      refine lv_istore_n (lv' := [(3, .int (nI 0)), (0, .ref (Γ.2.2 (0))), (1, .int x1), (2, .int x2)]) hx hb dX6_allTimes_13 rfl hl (by decide) rfl (fun ls hl => ?_)
      exact wX6_allTimes_14 C  ih lF S x1 x2 (nI 0)  hf _ _ _ hP (lv_sub hl [1, 2, 3, 0] rfl)
def fX6_allTimes  (S : mM)  : Option (Int32 × mM) :=
  fX6_allTimes_4   lF S (nI 0) (nI 0)
set_option maxHeartbeats 4000000 in
set_option maxRecDepth 100000 in
theorem mX6_allTimes (l : Launch) (Γ : gG)   {S : mM}  {rz : Int32} {Sz : mM} (hf : fX6_allTimes S = some (rz, Sz)) : CtI l Γ 28 yX6_allTimes cX6_allTimes 4 .int 4 89 [.ref (Γ.2.2 (0))] (mE Γ S) rz (mE Γ Sz) := by
  refine met_body (Γ := Γ) (lv := [(0, .ref (Γ.2.2 (0)))]) RX6 (by decide) rfl rfl rfl ?_
  intro p e s m below meth c H locs ls C hP hl
  obtain ⟨hx, hb, -, -, hown, hts, -, hwx, -⟩ := id C
  unfold fX6_allTimes at hf
  refine lv_iconst (v := nI 0) hx hb dX6_allTimes_0 rfl ?_
  refine lv_istore_n (lv' := [(1, .int (nI 0)), (0, .ref (Γ.2.2 (0)))]) hx hb dX6_allTimes_1 rfl hl (by decide) rfl (fun ls hl => ?_)
  refine lv_iconst (v := nI 0) hx hb dX6_allTimes_2 rfl ?_
  refine lv_istore_n (lv' := [(2, .int (nI 0)), (1, .int (nI 0)), (0, .ref (Γ.2.2 (0)))]) hx hb dX6_allTimes_3 rfl hl (by decide) rfl (fun ls hl => ?_)
  exact wX6_allTimes_4 C   lF S (nI 0) (nI 0)  hf _ _ _ hP (lv_sub hl [2, 1, 0] rfl)
-- X6_all
theorem qX6_all : Cond.instanceMethod yX6_all ∈ Ub ∧ Cond.selects RX6 yX6_all yX6_all ∈ Ub ∧ Cond.initialized RX6 ∈ Ub ∧ Cond.code yX6_all cX6_all 1 (some FieldType.int) ∈ Ub ∧ (yX6_all.cls = RX6 ∧ yX6_all.cls ≠ "java/lang/invoke/MethodHandle" ∧ yX6_all.cls ≠ "java/lang/invoke/VarHandle" ∧ (parseMethodDescriptor yX6_all.desc).map (fun d => d.parameters.length) = some 0) := ⟨k5_125, k5_126, k1_5, k5_127, by decide +kernel⟩
def fX6_all  (S : mM)  : Option (Int32 × mM) :=
  sv (mS S 0 9 (nI 0)) fun S1 => ( bd (fX6_allTimes S1) fun v2 S2 => ( some (v2, S2)))
set_option maxHeartbeats 4000000 in
set_option maxRecDepth 100000 in
theorem mX6_all (l : Launch) (Γ : gG)   {S : mM}  {rz : Int32} {Sz : mM} (hf : fX6_all S = some (rz, Sz)) : CtI l Γ 28 yX6_all cX6_all 1 .int 5 112 [.ref (Γ.2.2 (0))] (mE Γ S) rz (mE Γ Sz) := by
  refine met_body (Γ := Γ) (lv := [(0, .ref (Γ.2.2 (0)))]) RX6 (by decide) rfl rfl rfl ?_
  intro p e s m below meth c H locs ls C hP hl
  obtain ⟨hx, hb, -, -, hown, hts, -, hwx, -⟩ := id C
  unfold fX6_all at hf
  refine lv_aload_n hx hb dX6_all_0 rfl (lv_at hl 0 rfl) ?_
  refine lv_iconst (v := nI 0) hx hb dX6_all_1 rfl ?_
  refine m_put C hP 9 (by decide) k4_62 dX6_all_2 (fun H locs hP => ?_)
  refine sv_i hf (fun S1 e1 hf => ?_)
  rw [← e1] at hP
  refine lv_aload_n hx hb dX6_all_5 rfl (lv_at hl 0 rfl) ?_
  refine bd_i hf (fun v2 S2 hq2 hf => ?_)
  refine goI (runV (rest := []) (b := 0) (mX6_allTimes l Γ  hq2) C hP hl.1 (by decide) mE0 rfl k5_128 qX6_allTimes.1 qX6_allTimes.2.1 qX6_allTimes.2.2.1 qX6_allTimes.2.2.2.1 rfl qX6_allTimes.2.2.2.2 ⟨Nat.le_of_ble_eq_true rfl, Nat.le_of_ble_eq_true rfl⟩ ⟨Nat.le_refl 0, Nat.le_refl 0⟩ (Nat.le_of_ble_eq_true rfl) dX6_all_6) hP (fun H locs hP => ?_)
  exact r_iret (X := mE Γ) C hP hf dX6_all_9
-- X6_wrongChange
theorem qX6_wrongChange : Cond.instanceMethod yX6_wrongChange ∈ Ub ∧ Cond.selects RX6 yX6_wrongChange yX6_wrongChange ∈ Ub ∧ Cond.initialized RX6 ∈ Ub ∧ Cond.code yX6_wrongChange cX6_wrongChange 4 (some FieldType.int) ∈ Ub ∧ (yX6_wrongChange.cls = RX6 ∧ yX6_wrongChange.cls ≠ "java/lang/invoke/MethodHandle" ∧ yX6_wrongChange.cls ≠ "java/lang/invoke/VarHandle" ∧ (parseMethodDescriptor yX6_wrongChange.desc).map (fun d => d.parameters.length) = some 3) := ⟨k5_138, ks_52, k1_5, k5_139, by decide +kernel⟩
def fX6_wrongChange  (S : mM) (x1 : Int32) (x2 : Int32) (x3 : Int32) : Option (Int32 × mM) :=
  bd (fX6_isCar S x1 x2) fun v1 S1 => ( if v1 = 0 then some ((-1), S1) else if x2 = 0 then some ((-1), S1) else bd (fX6_isLane S1 x3) fun v4 S4 => ( if v4 = 0 then some ((-1), S4) else if x1 = x3 then some ((-1), S4) else gi x3 5 (if (S4.1 3 (x3).toNatClampNeg) = (nI 8) then some ((-2), S4) else bd (fX6_isOpen S4 x3) fun v10 S10 => ( if v10 = 0 then some ((-3), S10) else some (nI 0, S10)))))
set_option maxHeartbeats 4000000 in
set_option maxRecDepth 100000 in
theorem mX6_wrongChange (l : Launch) (Γ : gG)   {S : mM} {x1 : Int32} {x2 : Int32} {x3 : Int32} {rz : Int32} {Sz : mM} (hf : fX6_wrongChange S x1 x2 x3 = some (rz, Sz)) : CtI l Γ 28 yX6_wrongChange cX6_wrongChange 4 .int 3 68 [.ref (Γ.2.2 (0)), .int x1, .int x2, .int x3] (mE Γ S) rz (mE Γ Sz) := by
  refine met_body (Γ := Γ) (lv := [(0, .ref (Γ.2.2 (0))), (1, .int x1), (2, .int x2), (3, .int x3)]) RX6 (by decide) rfl rfl rfl ?_
  intro p e s m below meth c H locs ls C hP hl
  obtain ⟨hx, hb, -, -, hown, hts, -, hwx, -⟩ := id C
  unfold fX6_wrongChange at hf
  refine lv_aload_n hx hb dX6_wrongChange_0 rfl (lv_at hl 0 rfl) ?_
  refine lv_iload_n hx hb dX6_wrongChange_1 rfl (lv_at hl 1 rfl) ?_
  refine lv_iload_n hx hb dX6_wrongChange_2 rfl (lv_at hl 2 rfl) ?_
  refine bd_i hf (fun v1 S1 hq1 hf => ?_)
  refine goI (runV (rest := []) (b := 0) (mX6_isCar l Γ  hq1) C hP hl.1 (by decide) mE0 rfl k5_63 qX6_isCar.1 qX6_isCar.2.1 qX6_isCar.2.2.1 qX6_isCar.2.2.2.1 rfl qX6_isCar.2.2.2.2 ⟨Nat.le_of_ble_eq_true rfl, Nat.le_of_ble_eq_true rfl⟩ ⟨Nat.le_refl 0, Nat.le_refl 0⟩ (Nat.le_of_ble_eq_true rfl) dX6_wrongChange_3) hP (fun H locs hP => ?_)
  refine lv_if_eq (tgt := 26) hx hb dX6_wrongChange_6 (by decide) (fun hc2 => ?_) (fun hc2 => ?_)
  · have hf := if_t hc2 hf
    refine lv_iconst (v := (-1)) hx hb dX6_wrongChange_26 rfl ?_
    exact r_iret (X := mE Γ) C hP hf dX6_wrongChange_27
  · have hf := if_f hc2 hf
    refine lv_iload_n hx hb dX6_wrongChange_9 rfl (lv_at hl 2 rfl) ?_
    refine lv_if_eq (tgt := 26) hx hb dX6_wrongChange_10 (by decide) (fun hc3 => ?_) (fun hc3 => ?_)
    · have hf := if_t hc3 hf
      refine lv_iconst (v := (-1)) hx hb dX6_wrongChange_26 rfl ?_
      exact r_iret (X := mE Γ) C hP hf dX6_wrongChange_27
    · have hf := if_f hc3 hf
      refine lv_aload_n hx hb dX6_wrongChange_13 rfl (lv_at hl 0 rfl) ?_
      refine lv_iload_n hx hb dX6_wrongChange_14 rfl (lv_at hl 3 rfl) ?_
      refine bd_i hf (fun v4 S4 hq4 hf => ?_)
      refine goI (runV (rest := []) (b := 0) (mX6_isLane l Γ  hq4) C hP hl.1 (by decide) mE0 rfl k5_30 qX6_isLane.1 qX6_isLane.2.1 qX6_isLane.2.2.1 qX6_isLane.2.2.2.1 rfl qX6_isLane.2.2.2.2 ⟨Nat.le_of_ble_eq_true rfl, Nat.le_of_ble_eq_true rfl⟩ ⟨Nat.le_refl 0, Nat.le_refl 0⟩ (Nat.le_of_ble_eq_true rfl) dX6_wrongChange_15) hP (fun H locs hP => ?_)
      refine lv_if_eq (tgt := 26) hx hb dX6_wrongChange_18 (by decide) (fun hc5 => ?_) (fun hc5 => ?_)
      · have hf := if_t hc5 hf
        refine lv_iconst (v := (-1)) hx hb dX6_wrongChange_26 rfl ?_
        exact r_iret (X := mE Γ) C hP hf dX6_wrongChange_27
      · have hf := if_f hc5 hf
        refine lv_iload_n hx hb dX6_wrongChange_21 rfl (lv_at hl 1 rfl) ?_
        refine lv_iload_n hx hb dX6_wrongChange_22 rfl (lv_at hl 3 rfl) ?_
        refine lv_icmp_ne (tgt := 28) hx hb dX6_wrongChange_23 (by decide) (fun hc6 => ?_) (fun hc6 => ?_)
        · have hf := if_f hc6 hf
          refine lv_aload_n hx hb dX6_wrongChange_28 rfl (lv_at hl 0 rfl) ?_
          refine m_get C hP 5 (by decide) k4_58 rfl (v := .ref (Γ.2.2 (3))) rfl dX6_wrongChange_29 ?_
          refine lv_iload_n hx hb dX6_wrongChange_32 rfl (lv_at hl 3 rfl) ?_
          refine gi_i hf (fun hi7 hj8 hf => ?_)
          refine m_ild C hP mA_3 hi7 dX6_wrongChange_33 ?_
          refine lv_bipush (v := nI 8) hx hb dX6_wrongChange_34 rfl ?_
          refine lv_icmp_ne (tgt := 44) hx hb dX6_wrongChange_36 (by decide) (fun hc9 => ?_) (fun hc9 => ?_)
          · have hf := if_f hc9 hf
            refine lv_aload_n hx hb dX6_wrongChange_44 rfl (lv_at hl 0 rfl) ?_
            refine lv_iload_n hx hb dX6_wrongChange_45 rfl (lv_at hl 3 rfl) ?_
            refine bd_i hf (fun v10 S10 hq10 hf => ?_)
            refine goI (runV (rest := []) (b := 0) (mX6_isOpen l Γ  hq10) C hP hl.1 (by decide) mE0 rfl k5_55 qX6_isOpen.1 qX6_isOpen.2.1 qX6_isOpen.2.2.1 qX6_isOpen.2.2.2.1 rfl qX6_isOpen.2.2.2.2 ⟨Nat.le_of_ble_eq_true rfl, Nat.le_of_ble_eq_true rfl⟩ ⟨Nat.le_refl 0, Nat.le_refl 0⟩ (Nat.le_of_ble_eq_true rfl) dX6_wrongChange_46) hP (fun H locs hP => ?_)
            refine lv_if_eq (tgt := 56) hx hb dX6_wrongChange_49 (by decide) (fun hc11 => ?_) (fun hc11 => ?_)
            · have hf := if_t hc11 hf
              refine lv_bipush (v := (-3)) hx hb dX6_wrongChange_56 rfl ?_
              exact r_iret (X := mE Γ) C hP hf dX6_wrongChange_58
            · have hf := if_f hc11 hf
              refine lv_iconst (v := nI 0) hx hb dX6_wrongChange_52 rfl ?_
              refine lv_goto (tgt := 58) hx hb dX6_wrongChange_53 (by decide) ?_
              exact r_iret (X := mE Γ) C hP hf dX6_wrongChange_58
          · have hf := if_t hc9 hf
            refine lv_bipush (v := (-2)) hx hb dX6_wrongChange_39 rfl ?_
            refine lv_goto (tgt := 58) hx hb dX6_wrongChange_41 (by decide) ?_
            exact r_iret (X := mE Γ) C hP hf dX6_wrongChange_58
        · have hf := if_t hc6 hf
          refine lv_iconst (v := (-1)) hx hb dX6_wrongChange_26 rfl ?_
          exact r_iret (X := mE Γ) C hP hf dX6_wrongChange_27
-- X6_gainOf
theorem qX6_gainOf : Cond.instanceMethod yX6_gainOf ∈ Ub ∧ Cond.selects RX6 yX6_gainOf yX6_gainOf ∈ Ub ∧ Cond.initialized RX6 ∈ Ub ∧ Cond.code yX6_gainOf cX6_gainOf 4 (some FieldType.int) ∈ Ub ∧ (yX6_gainOf.cls = RX6 ∧ yX6_gainOf.cls ≠ "java/lang/invoke/MethodHandle" ∧ yX6_gainOf.cls ≠ "java/lang/invoke/VarHandle" ∧ (parseMethodDescriptor yX6_gainOf.desc).map (fun d => d.parameters.length) = some 3) := ⟨k5_143, ks_53, k1_5, k5_144, by decide +kernel⟩
def fX6_gainOf  (S : mM) (x1 : Int32) (x2 : Int32) (x3 : Int32) : Option (Int32 × mM) :=
  bd (fX6_timeAt S x1 x2) fun v1 S1 => ( gi (((nI 8) * x1) + x2) 40 (bd (fX6_timeIn S1 x3 (S1.1 6 (((nI 8) * x1) + x2).toNatClampNeg)) fun v4 S4 => ( some (v1 - v4, S4))))
set_option maxHeartbeats 4000000 in
set_option maxRecDepth 100000 in
theorem mX6_gainOf (l : Launch) (Γ : gG)   {S : mM} {x1 : Int32} {x2 : Int32} {x3 : Int32} {rz : Int32} {Sz : mM} (hf : fX6_gainOf S x1 x2 x3 = some (rz, Sz)) : CtI l Γ 28 yX6_gainOf cX6_gainOf 4 .int 5 110 [.ref (Γ.2.2 (0)), .int x1, .int x2, .int x3] (mE Γ S) rz (mE Γ Sz) := by
  refine met_body (Γ := Γ) (lv := [(0, .ref (Γ.2.2 (0))), (1, .int x1), (2, .int x2), (3, .int x3)]) RX6 (by decide) rfl rfl rfl ?_
  intro p e s m below meth c H locs ls C hP hl
  obtain ⟨hx, hb, -, -, hown, hts, -, hwx, -⟩ := id C
  unfold fX6_gainOf at hf
  refine lv_aload_n hx hb dX6_gainOf_0 rfl (lv_at hl 0 rfl) ?_
  refine lv_iload_n hx hb dX6_gainOf_1 rfl (lv_at hl 1 rfl) ?_
  refine lv_iload_n hx hb dX6_gainOf_2 rfl (lv_at hl 2 rfl) ?_
  refine bd_i hf (fun v1 S1 hq1 hf => ?_)
  refine goI (runV (rest := []) (b := 0) (mX6_timeAt l Γ  hq1) C hP hl.1 (by decide) mE0 rfl k5_120 qX6_timeAt.1 qX6_timeAt.2.1 qX6_timeAt.2.2.1 qX6_timeAt.2.2.2.1 rfl qX6_timeAt.2.2.2.2 ⟨Nat.le_of_ble_eq_true rfl, Nat.le_of_ble_eq_true rfl⟩ ⟨Nat.le_refl 0, Nat.le_refl 0⟩ (Nat.le_of_ble_eq_true rfl) dX6_gainOf_3) hP (fun H locs hP => ?_)
  refine lv_aload_n hx hb dX6_gainOf_6 rfl (lv_at hl 0 rfl) ?_
  refine lv_iload_n hx hb dX6_gainOf_7 rfl (lv_at hl 3 rfl) ?_
  refine lv_aload_n hx hb dX6_gainOf_8 rfl (lv_at hl 0 rfl) ?_
  refine m_get C hP 8 (by decide) k4_61 rfl (v := .ref (Γ.2.2 (6))) rfl dX6_gainOf_9 ?_
  refine lv_bipush (v := nI 8) hx hb dX6_gainOf_12 rfl ?_
  refine lv_iload_n hx hb dX6_gainOf_14 rfl (lv_at hl 1 rfl) ?_
  refine lv_imul hx hb dX6_gainOf_15 ?_
  refine lv_iload_n hx hb dX6_gainOf_16 rfl (lv_at hl 2 rfl) ?_
  refine lv_iadd hx hb dX6_gainOf_17 ?_
  refine gi_i hf (fun hi2 hj3 hf => ?_)
  refine m_ild C hP mA_6 hi2 dX6_gainOf_18 ?_
  refine bd_i hf (fun v4 S4 hq4 hf => ?_)
  refine goI (runV (rest := [.int v1]) (b := 0) (mX6_timeIn l Γ  hq4) C hP hl.1 (by decide) mE0 rfl k5_79 qX6_timeIn.1 qX6_timeIn.2.1 qX6_timeIn.2.2.1 qX6_timeIn.2.2.2.1 rfl qX6_timeIn.2.2.2.2 ⟨Nat.le_of_ble_eq_true rfl, Nat.le_of_ble_eq_true rfl⟩ ⟨Nat.le_refl 0, Nat.le_refl 0⟩ (Nat.le_of_ble_eq_true rfl) dX6_gainOf_19) hP (fun H locs hP => ?_)
  refine lv_isub hx hb dX6_gainOf_22 ?_
  exact r_iret (X := mE Γ) C hP hf dX6_gainOf_23
-- X6_goOver
theorem qX6_goOver : Cond.instanceMethod yX6_goOver ∈ Ub ∧ Cond.selects RX6 yX6_goOver yX6_goOver ∈ Ub ∧ Cond.initialized RX6 ∈ Ub ∧ Cond.code yX6_goOver cX6_goOver 5 (none : Option Jvm.ClassFile.FieldType) ∈ Ub ∧ (yX6_goOver.cls = RX6 ∧ yX6_goOver.cls ≠ "java/lang/invoke/MethodHandle" ∧ yX6_goOver.cls ≠ "java/lang/invoke/VarHandle" ∧ (parseMethodDescriptor yX6_goOver.desc).map (fun d => d.parameters.length) = some 3) := ⟨k5_151, ks_55, k1_5, k5_152, by decide +kernel⟩
def fX6_goOver  (S : mM) (x1 : Int32) (x2 : Int32) (x3 : Int32) : Option mM :=
  gi (((nI 8) * x1) + x2) 40 (bv (fX6_drop S x1 x2) fun S3 => ( bv (fX6_comeIn S3 x3 (S.1 6 (((nI 8) * x1) + x2).toNatClampNeg)) fun S4 => ( some S4)))
set_option maxHeartbeats 4000000 in
set_option maxRecDepth 100000 in
theorem mX6_goOver (l : Launch) (Γ : gG)   {S : mM} {x1 : Int32} {x2 : Int32} {x3 : Int32} {Sz : mM} (hf : fX6_goOver S x1 x2 x3 = some Sz) : CtV l Γ 28 yX6_goOver cX6_goOver 5 4 87 [.ref (Γ.2.2 (0)), .int x1, .int x2, .int x3] (mE Γ S) (mE Γ Sz) := by
  refine met_body (Γ := Γ) (lv := [(0, .ref (Γ.2.2 (0))), (1, .int x1), (2, .int x2), (3, .int x3)]) RX6 (by decide) rfl rfl rfl ?_
  intro p e s m below meth c H locs ls C hP hl
  obtain ⟨hx, hb, -, -, hown, hts, -, hwx, -⟩ := id C
  unfold fX6_goOver at hf
  refine lv_aload_n hx hb dX6_goOver_0 rfl (lv_at hl 0 rfl) ?_
  refine m_get C hP 8 (by decide) k4_61 rfl (v := .ref (Γ.2.2 (6))) rfl dX6_goOver_1 ?_
  refine lv_bipush (v := nI 8) hx hb dX6_goOver_4 rfl ?_
  refine lv_iload_n hx hb dX6_goOver_6 rfl (lv_at hl 1 rfl) ?_
  refine lv_imul hx hb dX6_goOver_7 ?_
  refine lv_iload_n hx hb dX6_goOver_8 rfl (lv_at hl 2 rfl) ?_
  refine lv_iadd hx hb dX6_goOver_9 ?_
  refine gi_i hf (fun hi1 hj2 hf => ?_)
  refine m_ild C hP mA_6 hi1 dX6_goOver_10 ?_
  refine lv_istore (lv' := [(4, .int (S.1 6 (((nI 8) * x1) + x2).toNatClampNeg)), (0, .ref (Γ.2.2 (0))), (1, .int x1), (2, .int x2), (3, .int x3)]) hx hb dX6_goOver_11 hl (by decide) rfl (fun ls hl => ?_)
  refine lv_aload_n hx hb dX6_goOver_13 rfl (lv_at hl 1 rfl) ?_
  refine lv_iload_n hx hb dX6_goOver_14 rfl (lv_at hl 2 rfl) ?_
  refine lv_iload_n hx hb dX6_goOver_15 rfl (lv_at hl 3 rfl) ?_
  refine bv_i hf (fun S3 hq3 hf => ?_)
  refine goV (runV (rest := []) (b := 0) (mX6_drop l Γ  hq3) C hP hl.1 (by decide) mE0 rfl k5_26 qX6_drop.1 qX6_drop.2.1 qX6_drop.2.2.1 qX6_drop.2.2.2.1 rfl qX6_drop.2.2.2.2 ⟨Nat.le_of_ble_eq_true rfl, Nat.le_of_ble_eq_true rfl⟩ ⟨Nat.le_refl 0, Nat.le_refl 0⟩ (Nat.le_of_ble_eq_true rfl) dX6_goOver_16) hP (fun H locs hP => ?_)
  refine lv_aload_n hx hb dX6_goOver_19 rfl (lv_at hl 1 rfl) ?_
  refine lv_iload_n hx hb dX6_goOver_20 rfl (lv_at hl 4 rfl) ?_
  refine lv_iload hx hb dX6_goOver_21 (lv_at hl 0 rfl) ?_
  refine bv_i hf (fun S4 hq4 hf => ?_)
  refine goV (runV (rest := []) (b := 0) (mX6_comeIn l Γ  hq4) C hP hl.1 (by decide) mE0 rfl k5_4 qX6_comeIn.1 qX6_comeIn.2.1 qX6_comeIn.2.2.1 qX6_comeIn.2.2.2.1 rfl qX6_comeIn.2.2.2.2 ⟨Nat.le_of_ble_eq_true rfl, Nat.le_of_ble_eq_true rfl⟩ ⟨Nat.le_refl 0, Nat.le_refl 0⟩ (Nat.le_of_ble_eq_true rfl) dX6_goOver_23) hP (fun H locs hP => ?_)
  exact r_vret (X := mE Γ) C hP hf dX6_goOver_26
-- X6_bringsOf
theorem qX6_bringsOf : Cond.instanceMethod yX6_bringsOf ∈ Ub ∧ Cond.selects RX6 yX6_bringsOf yX6_bringsOf ∈ Ub ∧ Cond.initialized RX6 ∈ Ub ∧ Cond.code yX6_bringsOf cX6_bringsOf 6 (some FieldType.int) ∈ Ub ∧ (yX6_bringsOf.cls = RX6 ∧ yX6_bringsOf.cls ≠ "java/lang/invoke/MethodHandle" ∧ yX6_bringsOf.cls ≠ "java/lang/invoke/VarHandle" ∧ (parseMethodDescriptor yX6_bringsOf.desc).map (fun d => d.parameters.length) = some 3) := ⟨k5_147, ks_54, k1_5, k5_148, by decide +kernel⟩
def fX6_bringsOf  (S : mM) (x1 : Int32) (x2 : Int32) (x3 : Int32) : Option (Int32 × mM) :=
  bd (fX6_allTimes S) fun v1 S1 => ( bv (fX6_open S1) fun S2 => ( bv (fX6_goOver S2 x1 x2 x3) fun S3 => ( bd (fX6_allTimes S3) fun v4 S4 => ( bv (fX6_close S4) fun S5 => ( some (v1 - v4, S5))))))
set_option maxHeartbeats 4000000 in
set_option maxRecDepth 100000 in
theorem mX6_bringsOf (l : Launch) (Γ : gG)   {S : mM} {x1 : Int32} {x2 : Int32} {x3 : Int32} {rz : Int32} {Sz : mM} (hf : fX6_bringsOf S x1 x2 x3 = some (rz, Sz)) : CtI l Γ 28 yX6_bringsOf cX6_bringsOf 6 .int 5 112 [.ref (Γ.2.2 (0)), .int x1, .int x2, .int x3] (mE Γ S) rz (mE Γ Sz) := by
  refine met_body (Γ := Γ) (lv := [(0, .ref (Γ.2.2 (0))), (1, .int x1), (2, .int x2), (3, .int x3)]) RX6 (by decide) rfl rfl rfl ?_
  intro p e s m below meth c H locs ls C hP hl
  obtain ⟨hx, hb, -, -, hown, hts, -, hwx, -⟩ := id C
  unfold fX6_bringsOf at hf
  refine lv_aload_n hx hb dX6_bringsOf_0 rfl (lv_at hl 0 rfl) ?_
  refine bd_i hf (fun v1 S1 hq1 hf => ?_)
  refine goI (runV (rest := []) (b := 0) (mX6_allTimes l Γ  hq1) C hP hl.1 (by decide) mE0 rfl k5_128 qX6_allTimes.1 qX6_allTimes.2.1 qX6_allTimes.2.2.1 qX6_allTimes.2.2.2.1 rfl qX6_allTimes.2.2.2.2 ⟨Nat.le_of_ble_eq_true rfl, Nat.le_of_ble_eq_true rfl⟩ ⟨Nat.le_refl 0, Nat.le_refl 0⟩ (Nat.le_of_ble_eq_true rfl) dX6_bringsOf_1) hP (fun H locs hP => ?_)
  refine lv_istore (lv' := [(4, .int v1), (0, .ref (Γ.2.2 (0))), (1, .int x1), (2, .int x2), (3, .int x3)]) hx hb dX6_bringsOf_4 hl (by decide) rfl (fun ls hl => ?_)
  refine lv_aload_n hx hb dX6_bringsOf_6 rfl (lv_at hl 1 rfl) ?_
  refine bv_i hf (fun S2 hq2 hf => ?_)
  refine goV (runV (rest := []) (b := 0) (mX6_open l Γ  hq2) C hP hl.1 (by decide) mE0 rfl k4_232 qX6_open.1 qX6_open.2.1 qX6_open.2.2.1 qX6_open.2.2.2.1 rfl qX6_open.2.2.2.2 ⟨Nat.le_of_ble_eq_true rfl, Nat.le_of_ble_eq_true rfl⟩ ⟨Nat.le_refl 0, Nat.le_refl 0⟩ (Nat.le_of_ble_eq_true rfl) dX6_bringsOf_7) hP (fun H locs hP => ?_)
  refine lv_aload_n hx hb dX6_bringsOf_10 rfl (lv_at hl 1 rfl) ?_
  refine lv_iload_n hx hb dX6_bringsOf_11 rfl (lv_at hl 2 rfl) ?_
  refine lv_iload_n hx hb dX6_bringsOf_12 rfl (lv_at hl 3 rfl) ?_
  refine lv_iload_n hx hb dX6_bringsOf_13 rfl (lv_at hl 4 rfl) ?_
  refine bv_i hf (fun S3 hq3 hf => ?_)
  refine goV (runV (rest := []) (b := 0) (mX6_goOver l Γ  hq3) C hP hl.1 (by decide) mE0 rfl k5_149 qX6_goOver.1 qX6_goOver.2.1 qX6_goOver.2.2.1 qX6_goOver.2.2.2.1 rfl qX6_goOver.2.2.2.2 ⟨Nat.le_of_ble_eq_true rfl, Nat.le_of_ble_eq_true rfl⟩ ⟨Nat.le_refl 0, Nat.le_refl 0⟩ (Nat.le_of_ble_eq_true rfl) dX6_bringsOf_14) hP (fun H locs hP => ?_)
  refine lv_aload_n hx hb dX6_bringsOf_17 rfl (lv_at hl 1 rfl) ?_
  refine bd_i hf (fun v4 S4 hq4 hf => ?_)
  refine goI (runV (rest := []) (b := 0) (mX6_allTimes l Γ  hq4) C hP hl.1 (by decide) mE0 rfl k5_128 qX6_allTimes.1 qX6_allTimes.2.1 qX6_allTimes.2.2.1 qX6_allTimes.2.2.2.1 rfl qX6_allTimes.2.2.2.2 ⟨Nat.le_of_ble_eq_true rfl, Nat.le_of_ble_eq_true rfl⟩ ⟨Nat.le_refl 0, Nat.le_refl 0⟩ (Nat.le_of_ble_eq_true rfl) dX6_bringsOf_18) hP (fun H locs hP => ?_)
  refine lv_istore (lv' := [(5, .int v4), (4, .int v1), (0, .ref (Γ.2.2 (0))), (1, .int x1), (2, .int x2), (3, .int x3)]) hx hb dX6_bringsOf_21 hl (by decide) rfl (fun ls hl => ?_)
  refine lv_aload_n hx hb dX6_bringsOf_23 rfl (lv_at hl 2 rfl) ?_
  refine bv_i hf (fun S5 hq5 hf => ?_)
  refine goV (runV (rest := []) (b := 0) (mX6_close l Γ  hq5) C hP hl.1 (by decide) mE0 rfl k5_34 qX6_close.1 qX6_close.2.1 qX6_close.2.2.1 qX6_close.2.2.2.1 rfl qX6_close.2.2.2.2 ⟨Nat.le_of_ble_eq_true rfl, Nat.le_of_ble_eq_true rfl⟩ ⟨Nat.le_refl 0, Nat.le_refl 0⟩ (Nat.le_of_ble_eq_true rfl) dX6_bringsOf_24) hP (fun H locs hP => ?_)
  refine lv_iload hx hb dX6_bringsOf_27 (lv_at hl 1 rfl) ?_
  refine lv_iload hx hb dX6_bringsOf_29 (lv_at hl 0 rfl) ?_
  refine lv_isub hx hb dX6_bringsOf_31 ?_
  exact r_iret (X := mE Γ) C hP hf dX6_bringsOf_32
-- X6_change
theorem qX6_change : Cond.instanceMethod yX6_change ∈ Ub ∧ Cond.selects RX6 yX6_change yX6_change ∈ Ub ∧ Cond.initialized RX6 ∈ Ub ∧ Cond.code yX6_change cX6_change 6 (some FieldType.int) ∈ Ub ∧ (yX6_change.cls = RX6 ∧ yX6_change.cls ≠ "java/lang/invoke/MethodHandle" ∧ yX6_change.cls ≠ "java/lang/invoke/VarHandle" ∧ (parseMethodDescriptor yX6_change.desc).map (fun d => d.parameters.length) = some 4) := ⟨k5_133, k5_134, k1_5, k5_135, by decide +kernel⟩
def fX6_change_27   (S : mM) (x1 : Int32) (x2 : Int32) (x3 : Int32) (x4 : Int32) (y0 : Int32) : Option (Int32 × mM) :=
  if (0 : Int32) ≤ y0 then if x4 = 0 then bd (fX6_gainOf S x1 x2 x3) fun v8 S8 => ( some (v8, S8)) else bd (fX6_bringsOf S x1 x2 x3) fun v7 S7 => ( some (v7, S7)) else some (y0 - (nI 1000000000), S)
set_option maxHeartbeats 4000000 in
set_option maxRecDepth 100000 in
theorem wX6_change_27 {p : Program} {l : Launch} {e : Env} {s : State} {m : MethodId} {args : Array Value} {below : List Frame} {meth : Method} {c : Code} {Γ : gG} {rz : Int32} {Sz : mM} (C : Cx Γ 28 p s m args meth c RX6 cX6_change 6 (some .int))   : ∀ (S : mM) (x1 : Int32) (x2 : Int32) (x3 : Int32) (x4 : Int32) (y0 : Int32) , fX6_change_27   S x1 x2 x3 x4 y0 = some (rz, Sz) → ∀ (H : Heap) (locs : List Loc) (ls : Array Slot), St Γ 28 (mE Γ S) s.heap H locs → lv_has ls 6 [(0, .ref (Γ.2.2 (0))), (1, .int x1), (2, .int x2), (3, .int x3), (4, .int x4)] → W p l e { frames := 6, cells := 0, slots := 0, locals := 137 } s m args below meth c H locs 0 0 (MQ below (gQi Γ 28 rz (mE Γ Sz)) args s 0 0 (wA Γ 28)) (F0 m 27 ls [.int y0]) := by
  obtain ⟨hx, hb, -, -, hown, hts, -, hwx, -⟩ := id C
  intro S x1 x2 x3 x4 y0 hf H locs ls hP hl
  unfold fX6_change_27 at hf
  refine lv_istore (lv' := [(5, .int y0), (0, .ref (Γ.2.2 (0))), (1, .int x1), (2, .int x2), (3, .int x3), (4, .int x4)]) hx hb dX6_change_27 hl (by decide) rfl (fun ls hl => ?_)
  refine lv_iload hx hb dX6_change_29 (lv_at hl 0 rfl) ?_
  refine lv_if_ge (tgt := 41) hx hb dX6_change_31 (by decide) (fun hc5 => ?_) (fun hc5 => ?_)
  · have hf := if_t hc5 hf
    refine lv_iload hx hb dX6_change_41 (lv_at hl 5 rfl) ?_
    refine lv_if_ne (tgt := 56) hx hb dX6_change_43 (by decide) (fun hc6 => ?_) (fun hc6 => ?_)
    · have hf := if_f hc6 hf
      refine lv_aload_n hx hb dX6_change_56 rfl (lv_at hl 1 rfl) ?_
      refine lv_iload_n hx hb dX6_change_57 rfl (lv_at hl 2 rfl) ?_
      refine lv_iload_n hx hb dX6_change_58 rfl (lv_at hl 3 rfl) ?_
      refine lv_iload_n hx hb dX6_change_59 rfl (lv_at hl 4 rfl) ?_
      refine bd_i hf (fun v7 S7 hq7 hf => ?_)
      refine goI (runV (rest := []) (b := 0) (mX6_bringsOf l Γ  hq7) C hP hl.1 (by decide) mE0 rfl k5_145 qX6_bringsOf.1 qX6_bringsOf.2.1 qX6_bringsOf.2.2.1 qX6_bringsOf.2.2.2.1 rfl qX6_bringsOf.2.2.2.2 ⟨Nat.le_of_ble_eq_true rfl, Nat.le_of_ble_eq_true rfl⟩ ⟨Nat.le_refl 0, Nat.le_refl 0⟩ (Nat.le_of_ble_eq_true rfl) dX6_change_60) hP (fun H locs hP => ?_)
      exact r_iret (X := mE Γ) C hP hf dX6_change_63
    · have hf := if_t hc6 hf
      refine lv_aload_n hx hb dX6_change_46 rfl (lv_at hl 1 rfl) ?_
      refine lv_iload_n hx hb dX6_change_47 rfl (lv_at hl 2 rfl) ?_
      refine lv_iload_n hx hb dX6_change_48 rfl (lv_at hl 3 rfl) ?_
      refine lv_iload_n hx hb dX6_change_49 rfl (lv_at hl 4 rfl) ?_
      refine bd_i hf (fun v8 S8 hq8 hf => ?_)
      refine goI (runV (rest := []) (b := 0) (mX6_gainOf l Γ  hq8) C hP hl.1 (by decide) mE0 rfl k5_141 qX6_gainOf.1 qX6_gainOf.2.1 qX6_gainOf.2.2.1 qX6_gainOf.2.2.2.1 rfl qX6_gainOf.2.2.2.2 ⟨Nat.le_of_ble_eq_true rfl, Nat.le_of_ble_eq_true rfl⟩ ⟨Nat.le_refl 0, Nat.le_refl 0⟩ (Nat.le_of_ble_eq_true rfl) dX6_change_50) hP (fun H locs hP => ?_)
      refine lv_goto (tgt := 63) hx hb dX6_change_53 (by decide) ?_
      exact r_iret (X := mE Γ) C hP hf dX6_change_63
  · have hf := if_f hc5 hf
    refine lv_iload hx hb dX6_change_34 (lv_at hl 0 rfl) ?_
    refine lv_ldcw (v := 1000000000) hx hb hown (hts _ k5_140) dX6_change_36 ?_
    rw [show (1000000000 : Int32) = nI 1000000000 from rfl]
    refine lv_isub hx hb dX6_change_39 ?_
    exact r_iret (X := mE Γ) C hP hf dX6_change_40
def fX6_change  (S : mM) (x1 : Int32) (x2 : Int32) (x3 : Int32) (x4 : Int32) : Option (Int32 × mM) :=
  sv (mS S 0 9 (nI 0)) fun S1 => ( bd (fX6_in S1 x4.toInt64 0 1) fun v2 S2 => ( if v2 = 0 then fX6_change_27    S2 x1 x2 x3 x4 (-1) else bd (fX6_wrongChange S2 x1 x2 x3) fun v4 S4 => ( fX6_change_27    S4 x1 x2 x3 x4 v4)))
set_option maxHeartbeats 4000000 in
set_option maxRecDepth 100000 in
theorem mX6_change (l : Launch) (Γ : gG)   {S : mM} {x1 : Int32} {x2 : Int32} {x3 : Int32} {x4 : Int32} {rz : Int32} {Sz : mM} (hf : fX6_change S x1 x2 x3 x4 = some (rz, Sz)) : CtI l Γ 28 yX6_change cX6_change 6 .int 6 137 [.ref (Γ.2.2 (0)), .int x1, .int x2, .int x3, .int x4] (mE Γ S) rz (mE Γ Sz) := by
  refine met_body (Γ := Γ) (lv := [(0, .ref (Γ.2.2 (0))), (1, .int x1), (2, .int x2), (3, .int x3), (4, .int x4)]) RX6 (by decide) rfl rfl rfl ?_
  intro p e s m below meth c H locs ls C hP hl
  obtain ⟨hx, hb, -, -, hown, hts, -, hwx, -⟩ := id C
  unfold fX6_change at hf
  refine lv_aload_n hx hb dX6_change_0 rfl (lv_at hl 0 rfl) ?_
  refine lv_iconst (v := nI 0) hx hb dX6_change_1 rfl ?_
  refine m_put C hP 9 (by decide) k4_62 dX6_change_2 (fun H locs hP => ?_)
  refine sv_i hf (fun S1 e1 hf => ?_)
  rw [← e1] at hP
  refine lv_iload hx hb dX6_change_5 (lv_at hl 4 rfl) ?_
  refine lv_i2l (v := x4.toInt64) hx hb dX6_change_7 rfl ?_
  refine lv_lconst (v := 0) hx hb dX6_change_8 (by decide) ?_
  refine lv_lconst (v := 1) hx hb dX6_change_9 (by decide) ?_
  refine bd_i hf (fun v2 S2 hq2 hf => ?_)
  refine goI (runS (rest := []) (mX6_in l Γ  hq2) C hP hl.1 k4_215 qX6_in.1 qX6_in.2.1 qX6_in.2.2.1 rfl qX6_in.2.2.2 ⟨Nat.le_of_ble_eq_true rfl, Nat.le_of_ble_eq_true rfl⟩ ⟨Nat.le_refl 0, Nat.le_refl 0⟩ (Nat.le_of_ble_eq_true rfl) dX6_change_10) hP (fun H locs hP => ?_)
  refine lv_if_ne (tgt := 20) hx hb dX6_change_13 (by decide) (fun hc3 => ?_) (fun hc3 => ?_)
  · have hf := if_f hc3 hf
    refine lv_aload_n hx hb dX6_change_20 rfl (lv_at hl 0 rfl) ?_
    refine lv_iload_n hx hb dX6_change_21 rfl (lv_at hl 1 rfl) ?_
    refine lv_iload_n hx hb dX6_change_22 rfl (lv_at hl 2 rfl) ?_
    refine lv_iload_n hx hb dX6_change_23 rfl (lv_at hl 3 rfl) ?_
    refine bd_i hf (fun v4 S4 hq4 hf => ?_)
    refine goI (runV (rest := []) (b := 0) (mX6_wrongChange l Γ  hq4) C hP hl.1 (by decide) mE0 rfl k5_136 qX6_wrongChange.1 qX6_wrongChange.2.1 qX6_wrongChange.2.2.1 qX6_wrongChange.2.2.2.1 rfl qX6_wrongChange.2.2.2.2 ⟨Nat.le_of_ble_eq_true rfl, Nat.le_of_ble_eq_true rfl⟩ ⟨Nat.le_refl 0, Nat.le_refl 0⟩ (Nat.le_of_ble_eq_true rfl) dX6_change_24) hP (fun H locs hP => ?_)
    exact wX6_change_27 C    S4 x1 x2 x3 x4 v4  hf _ _ _ hP (lv_sub hl [0, 1, 2, 3, 4] rfl)
  · have hf := if_t hc3 hf
    refine lv_iconst (v := (-1)) hx hb dX6_change_16 rfl ?_
    refine lv_goto (tgt := 27) hx hb dX6_change_17 (by decide) ?_
    exact wX6_change_27 C    S2 x1 x2 x3 x4 (-1)  hf _ _ _ hP (lv_sub hl [0, 1, 2, 3, 4] rfl)
-- X6_changes
theorem qX6_changes : Cond.instanceMethod yX6_changes ∈ Ub ∧ Cond.selects RX6 yX6_changes yX6_changes ∈ Ub ∧ Cond.initialized RX6 ∈ Ub ∧ Cond.code yX6_changes cX6_changes 6 (some FieldType.int) ∈ Ub ∧ (yX6_changes.cls = RX6 ∧ yX6_changes.cls ≠ "java/lang/invoke/MethodHandle" ∧ yX6_changes.cls ≠ "java/lang/invoke/VarHandle" ∧ (parseMethodDescriptor yX6_changes.desc).map (fun d => d.parameters.length) = some 3) := ⟨k5_154, k5_155, k1_5, k5_156, by decide +kernel⟩
def fX6_changes  (S : mM) (x1 : Int32) (x2 : Int32) (x3 : Int32) : Option (Int32 × mM) :=
  sv (mS S 0 9 (nI 0)) fun S1 => ( bd (fX6_wrongChange S1 x1 x2 x3) fun v2 S2 => ( if (0 : Int32) ≤ v2 then bd (fX6_allTimes S2) fun v4 S4 => ( bv (fX6_goOver S4 x1 x2 x3) fun S5 => ( bd (fX6_allTimes S5) fun v6 S6 => ( some (v4 - v6, S6)))) else some (v2 - (nI 1000000000), S2)))
set_option maxHeartbeats 4000000 in
set_option maxRecDepth 100000 in
theorem mX6_changes (l : Launch) (Γ : gG)   {S : mM} {x1 : Int32} {x2 : Int32} {x3 : Int32} {rz : Int32} {Sz : mM} (hf : fX6_changes S x1 x2 x3 = some (rz, Sz)) : CtI l Γ 28 yX6_changes cX6_changes 6 .int 5 112 [.ref (Γ.2.2 (0)), .int x1, .int x2, .int x3] (mE Γ S) rz (mE Γ Sz) := by
  refine met_body (Γ := Γ) (lv := [(0, .ref (Γ.2.2 (0))), (1, .int x1), (2, .int x2), (3, .int x3)]) RX6 (by decide) rfl rfl rfl ?_
  intro p e s m below meth c H locs ls C hP hl
  obtain ⟨hx, hb, -, -, hown, hts, -, hwx, -⟩ := id C
  unfold fX6_changes at hf
  refine lv_aload_n hx hb dX6_changes_0 rfl (lv_at hl 0 rfl) ?_
  refine lv_iconst (v := nI 0) hx hb dX6_changes_1 rfl ?_
  refine m_put C hP 9 (by decide) k4_62 dX6_changes_2 (fun H locs hP => ?_)
  refine sv_i hf (fun S1 e1 hf => ?_)
  rw [← e1] at hP
  refine lv_aload_n hx hb dX6_changes_5 rfl (lv_at hl 0 rfl) ?_
  refine lv_iload_n hx hb dX6_changes_6 rfl (lv_at hl 1 rfl) ?_
  refine lv_iload_n hx hb dX6_changes_7 rfl (lv_at hl 2 rfl) ?_
  refine lv_iload_n hx hb dX6_changes_8 rfl (lv_at hl 3 rfl) ?_
  refine bd_i hf (fun v2 S2 hq2 hf => ?_)
  refine goI (runV (rest := []) (b := 0) (mX6_wrongChange l Γ  hq2) C hP hl.1 (by decide) mE0 rfl k5_136 qX6_wrongChange.1 qX6_wrongChange.2.1 qX6_wrongChange.2.2.1 qX6_wrongChange.2.2.2.1 rfl qX6_wrongChange.2.2.2.2 ⟨Nat.le_of_ble_eq_true rfl, Nat.le_of_ble_eq_true rfl⟩ ⟨Nat.le_refl 0, Nat.le_refl 0⟩ (Nat.le_of_ble_eq_true rfl) dX6_changes_9) hP (fun H locs hP => ?_)
  refine lv_istore (lv' := [(4, .int v2), (0, .ref (Γ.2.2 (0))), (1, .int x1), (2, .int x2), (3, .int x3)]) hx hb dX6_changes_12 hl (by decide) rfl (fun ls hl => ?_)
  refine lv_iload hx hb dX6_changes_14 (lv_at hl 0 rfl) ?_
  refine lv_if_ge (tgt := 26) hx hb dX6_changes_16 (by decide) (fun hc3 => ?_) (fun hc3 => ?_)
  · have hf := if_t hc3 hf
    refine lv_aload_n hx hb dX6_changes_26 rfl (lv_at hl 1 rfl) ?_
    refine bd_i hf (fun v4 S4 hq4 hf => ?_)
    refine goI (runV (rest := []) (b := 0) (mX6_allTimes l Γ  hq4) C hP hl.1 (by decide) mE0 rfl k5_128 qX6_allTimes.1 qX6_allTimes.2.1 qX6_allTimes.2.2.1 qX6_allTimes.2.2.2.1 rfl qX6_allTimes.2.2.2.2 ⟨Nat.le_of_ble_eq_true rfl, Nat.le_of_ble_eq_true rfl⟩ ⟨Nat.le_refl 0, Nat.le_refl 0⟩ (Nat.le_of_ble_eq_true rfl) dX6_changes_27) hP (fun H locs hP => ?_)
    refine lv_istore (lv' := [(5, .int v4), (4, .int v2), (0, .ref (Γ.2.2 (0))), (1, .int x1), (2, .int x2), (3, .int x3)]) hx hb dX6_changes_30 hl (by decide) rfl (fun ls hl => ?_)
    refine lv_aload_n hx hb dX6_changes_32 rfl (lv_at hl 2 rfl) ?_
    refine lv_iload_n hx hb dX6_changes_33 rfl (lv_at hl 3 rfl) ?_
    refine lv_iload_n hx hb dX6_changes_34 rfl (lv_at hl 4 rfl) ?_
    refine lv_iload_n hx hb dX6_changes_35 rfl (lv_at hl 5 rfl) ?_
    refine bv_i hf (fun S5 hq5 hf => ?_)
    refine goV (runV (rest := []) (b := 0) (mX6_goOver l Γ  hq5) C hP hl.1 (by decide) mE0 rfl k5_149 qX6_goOver.1 qX6_goOver.2.1 qX6_goOver.2.2.1 qX6_goOver.2.2.2.1 rfl qX6_goOver.2.2.2.2 ⟨Nat.le_of_ble_eq_true rfl, Nat.le_of_ble_eq_true rfl⟩ ⟨Nat.le_refl 0, Nat.le_refl 0⟩ (Nat.le_of_ble_eq_true rfl) dX6_changes_36) hP (fun H locs hP => ?_)
    refine lv_iload hx hb dX6_changes_39 (lv_at hl 0 rfl) ?_
    refine lv_aload_n hx hb dX6_changes_41 rfl (lv_at hl 2 rfl) ?_
    refine bd_i hf (fun v6 S6 hq6 hf => ?_)
    refine goI (runV (rest := [.int v4]) (b := 0) (mX6_allTimes l Γ  hq6) C hP hl.1 (by decide) mE0 rfl k5_128 qX6_allTimes.1 qX6_allTimes.2.1 qX6_allTimes.2.2.1 qX6_allTimes.2.2.2.1 rfl qX6_allTimes.2.2.2.2 ⟨Nat.le_of_ble_eq_true rfl, Nat.le_of_ble_eq_true rfl⟩ ⟨Nat.le_refl 0, Nat.le_refl 0⟩ (Nat.le_of_ble_eq_true rfl) dX6_changes_42) hP (fun H locs hP => ?_)
    refine lv_isub hx hb dX6_changes_45 ?_
    exact r_iret (X := mE Γ) C hP hf dX6_changes_46
  · have hf := if_f hc3 hf
    refine lv_iload hx hb dX6_changes_19 (lv_at hl 0 rfl) ?_
    refine lv_ldcw (v := 1000000000) hx hb hown (hts _ k5_140) dX6_changes_21 ?_
    rw [show (1000000000 : Int32) = nI 1000000000 from rfl]
    refine lv_isub hx hb dX6_changes_24 ?_
    exact r_iret (X := mE Γ) C hP hf dX6_changes_25
-- X6_bestChange
theorem qX6_bestChange : Cond.instanceMethod yX6_bestChange ∈ Ub ∧ Cond.selects RX6 yX6_bestChange yX6_bestChange ∈ Ub ∧ Cond.initialized RX6 ∈ Ub ∧ Cond.code yX6_bestChange cX6_bestChange 7 (some FieldType.int) ∈ Ub ∧ (yX6_bestChange.cls = RX6 ∧ yX6_bestChange.cls ≠ "java/lang/invoke/MethodHandle" ∧ yX6_bestChange.cls ≠ "java/lang/invoke/VarHandle" ∧ (parseMethodDescriptor yX6_bestChange.desc).map (fun d => d.parameters.length) = some 1) := ⟨k5_164, ks_56, k1_5, k5_165, by decide +kernel⟩
def fX6_bestChange_100  (K8 : mM → Int32 → Int32 → Int32 → Option (Int32 × mM)) (K20 : mM → Int32 → Int32 → Int32 → Int32 → Option (Int32 × mM)) (K35 : mM → Int32 → Int32 → Int32 → Int32 → Int32 → Option (Int32 × mM)) (S : mM) (x2 : Int32) (x3 : Int32) (x4 : Int32) (x5 : Int32) (x6 : Int32) : Option (Int32 × mM) :=
  K35 S x2 x3 x4 x5 (x6 + (nI 1))
set_option maxHeartbeats 4000000 in
set_option maxRecDepth 100000 in
theorem wX6_bestChange_100 {p : Program} {l : Launch} {e : Env} {s : State} {m : MethodId} {args : Array Value} {below : List Frame} {meth : Method} {c : Code} {Γ : gG} {rz : Int32} {Sz : mM} (C : Cx Γ 28 p s m args meth c RX6 cX6_bestChange 7 (some .int))  {K8 : mM → Int32 → Int32 → Int32 → Option (Int32 × mM)} (hK8 : ∀ (S : mM) (x2 : Int32) (x3 : Int32) (x4 : Int32) , K8 S x2 x3 x4 = some (rz, Sz) → ∀ (H : Heap) (locs : List Loc) (ls : Array Slot), St Γ 28 (mE Γ S) s.heap H locs → lv_has ls 7 [(0, .ref (Γ.2.2 (0))), (2, .int x2), (3, .int x3), (4, .int x4)] → W p l e { frames := 6, cells := 0, slots := 0, locals := 133 } s m args below meth c H locs 0 0 (MQ below (gQi Γ 28 rz (mE Γ Sz)) args s 0 0 (wA Γ 28)) (F0 m 8 ls [])) {K20 : mM → Int32 → Int32 → Int32 → Int32 → Option (Int32 × mM)} (hK20 : ∀ (S : mM) (x2 : Int32) (x3 : Int32) (x4 : Int32) (x5 : Int32) , K20 S x2 x3 x4 x5 = some (rz, Sz) → ∀ (H : Heap) (locs : List Loc) (ls : Array Slot), St Γ 28 (mE Γ S) s.heap H locs → lv_has ls 7 [(0, .ref (Γ.2.2 (0))), (2, .int x2), (3, .int x3), (4, .int x4), (5, .int x5)] → W p l e { frames := 6, cells := 0, slots := 0, locals := 133 } s m args below meth c H locs 0 0 (MQ below (gQi Γ 28 rz (mE Γ Sz)) args s 0 0 (wA Γ 28)) (F0 m 20 ls [])) {K35 : mM → Int32 → Int32 → Int32 → Int32 → Int32 → Option (Int32 × mM)} (hK35 : ∀ (S : mM) (x2 : Int32) (x3 : Int32) (x4 : Int32) (x5 : Int32) (x6 : Int32) , K35 S x2 x3 x4 x5 x6 = some (rz, Sz) → ∀ (H : Heap) (locs : List Loc) (ls : Array Slot), St Γ 28 (mE Γ S) s.heap H locs → lv_has ls 7 [(0, .ref (Γ.2.2 (0))), (2, .int x2), (3, .int x3), (4, .int x4), (5, .int x5), (6, .int x6)] → W p l e { frames := 6, cells := 0, slots := 0, locals := 133 } s m args below meth c H locs 0 0 (MQ below (gQi Γ 28 rz (mE Γ Sz)) args s 0 0 (wA Γ 28)) (F0 m 35 ls [])) : ∀ (S : mM) (x2 : Int32) (x3 : Int32) (x4 : Int32) (x5 : Int32) (x6 : Int32) , fX6_bestChange_100  K8 K20 K35 S x2 x3 x4 x5 x6 = some (rz, Sz) → ∀ (H : Heap) (locs : List Loc) (ls : Array Slot), St Γ 28 (mE Γ S) s.heap H locs → lv_has ls 7 [(0, .ref (Γ.2.2 (0))), (2, .int x2), (3, .int x3), (4, .int x4), (5, .int x5), (6, .int x6)] → W p l e { frames := 6, cells := 0, slots := 0, locals := 133 } s m args below meth c H locs 0 0 (MQ below (gQi Γ 28 rz (mE Γ Sz)) args s 0 0 (wA Γ 28)) (F0 m 100 ls []) := by
  obtain ⟨hx, hb, -, -, hown, hts, -, hwx, -⟩ := id C
  intro S x2 x3 x4 x5 x6 hf H locs ls hP hl
  unfold fX6_bestChange_100 at hf
  refine lv_iinc (v := x6 + (nI 1)) (lv' := [(6, .int (x6 + (nI 1))), (0, .ref (Γ.2.2 (0))), (2, .int x2), (3, .int x3), (4, .int x4), (5, .int x5)]) hx hb dX6_bestChange_100 hl (k := 5) rfl rfl (by decide) rfl (fun ls hl => ?_)
  refine lv_goto (tgt := 35) hx hb dX6_bestChange_103 (by decide) ?_
  exact hK35 S x2 x3 x4 x5 (x6 + (nI 1))  hf _ _ _ hP (lv_sub hl [1, 2, 3, 4, 5, 0] rfl)
def fX6_bestChange_35  (K8 : mM → Int32 → Int32 → Int32 → Option (Int32 × mM)) (K20 : mM → Int32 → Int32 → Int32 → Int32 → Option (Int32 × mM)) : Nat → mM → Int32 → Int32 → Int32 → Int32 → Int32 → Option (Int32 × mM)
  | 0, _, _, _, _, _, _ => none
  | n + 1, S, x2, x3, x4, x5, x6 =>
    if (S.1 0 0) ≤ x6 then K20 S x2 x3 x4 (x5 + (nI 1)) else if x6 = x4 then fX6_bestChange_100  K8 K20 (fX6_bestChange_35  K8 K20 n)  S x2 x3 x4 x5 x6 else bd (fX6_mayCome S x6) fun v7 S7 => ( if v7 = 0 then fX6_bestChange_100  K8 K20 (fX6_bestChange_35  K8 K20 n)  S7 x2 x3 x4 x5 x6 else bd (fX6_gainOf S7 x4 x5 x6) fun v9 S9 => ( if v9 ≤ x3 then fX6_bestChange_100  K8 K20 (fX6_bestChange_35  K8 K20 n)  S9 x2 x3 x4 x5 x6 else bd (fX6_gainOf S9 x4 x5 x6) fun v11 S11 => ( fX6_bestChange_100  K8 K20 (fX6_bestChange_35  K8 K20 n)  S11 ((((nI 100) * x4) + ((nI 10) * x5)) + x6) v11 x4 x5 x6)))
set_option maxHeartbeats 4000000 in
set_option maxRecDepth 100000 in
theorem wX6_bestChange_35 {p : Program} {l : Launch} {e : Env} {s : State} {m : MethodId} {args : Array Value} {below : List Frame} {meth : Method} {c : Code} {Γ : gG} {rz : Int32} {Sz : mM} (C : Cx Γ 28 p s m args meth c RX6 cX6_bestChange 7 (some .int))  {K8 : mM → Int32 → Int32 → Int32 → Option (Int32 × mM)} (hK8 : ∀ (S : mM) (x2 : Int32) (x3 : Int32) (x4 : Int32) , K8 S x2 x3 x4 = some (rz, Sz) → ∀ (H : Heap) (locs : List Loc) (ls : Array Slot), St Γ 28 (mE Γ S) s.heap H locs → lv_has ls 7 [(0, .ref (Γ.2.2 (0))), (2, .int x2), (3, .int x3), (4, .int x4)] → W p l e { frames := 6, cells := 0, slots := 0, locals := 133 } s m args below meth c H locs 0 0 (MQ below (gQi Γ 28 rz (mE Γ Sz)) args s 0 0 (wA Γ 28)) (F0 m 8 ls [])) {K20 : mM → Int32 → Int32 → Int32 → Int32 → Option (Int32 × mM)} (hK20 : ∀ (S : mM) (x2 : Int32) (x3 : Int32) (x4 : Int32) (x5 : Int32) , K20 S x2 x3 x4 x5 = some (rz, Sz) → ∀ (H : Heap) (locs : List Loc) (ls : Array Slot), St Γ 28 (mE Γ S) s.heap H locs → lv_has ls 7 [(0, .ref (Γ.2.2 (0))), (2, .int x2), (3, .int x3), (4, .int x4), (5, .int x5)] → W p l e { frames := 6, cells := 0, slots := 0, locals := 133 } s m args below meth c H locs 0 0 (MQ below (gQi Γ 28 rz (mE Γ Sz)) args s 0 0 (wA Γ 28)) (F0 m 20 ls [])) : ∀ n : Nat, ∀ (S : mM) (x2 : Int32) (x3 : Int32) (x4 : Int32) (x5 : Int32) (x6 : Int32) , fX6_bestChange_35  K8 K20 n S x2 x3 x4 x5 x6 = some (rz, Sz) → ∀ (H : Heap) (locs : List Loc) (ls : Array Slot), St Γ 28 (mE Γ S) s.heap H locs → lv_has ls 7 [(0, .ref (Γ.2.2 (0))), (2, .int x2), (3, .int x3), (4, .int x4), (5, .int x5), (6, .int x6)] → W p l e { frames := 6, cells := 0, slots := 0, locals := 133 } s m args below meth c H locs 0 0 (MQ below (gQi Γ 28 rz (mE Γ Sz)) args s 0 0 (wA Γ 28)) (F0 m 35 ls []) := by
  obtain ⟨hx, hb, -, -, hown, hts, -, hwx, -⟩ := id C
  intro n
  induction n with
  | zero =>
    intro S x2 x3 x4 x5 x6 hf
    unfold fX6_bestChange_35 at hf
    cases hf
  | succ n ih =>
    intro S x2 x3 x4 x5 x6 hf H locs ls hP hl
    unfold fX6_bestChange_35 at hf
    refine lv_iload hx hb dX6_bestChange_35 (lv_at hl 5 rfl) ?_
    refine lv_aload_n hx hb dX6_bestChange_37 rfl (lv_at hl 0 rfl) ?_
    refine m_get C hP 0 (by decide) k4_53 rfl (v := .int (S.1 0 0)) rfl dX6_bestChange_38 ?_
    refine lv_icmp_ge (tgt := 106) hx hb dX6_bestChange_41 (by decide) (fun hc5 => ?_) (fun hc5 => ?_)
    · have hf := if_t hc5 hf
      refine lv_iinc (v := x5 + (nI 1)) (lv' := [(5, .int (x5 + (nI 1))), (0, .ref (Γ.2.2 (0))), (2, .int x2), (3, .int x3), (4, .int x4), (6, .int x6)]) hx hb dX6_bestChange_106 hl (k := 4) rfl rfl (by decide) rfl (fun ls hl => ?_)
      refine lv_goto (tgt := 20) hx hb dX6_bestChange_109 (by decide) ?_
      exact hK20 S x2 x3 x4 (x5 + (nI 1))  hf _ _ _ hP (lv_sub hl [1, 2, 3, 4, 0] rfl)
    · have hf := if_f hc5 hf
      refine lv_iload hx hb dX6_bestChange_44 (lv_at hl 5 rfl) ?_
      refine lv_iload hx hb dX6_bestChange_46 (lv_at hl 3 rfl) ?_
      refine lv_icmp_eq (tgt := 100) hx hb dX6_bestChange_48 (by decide) (fun hc6 => ?_) (fun hc6 => ?_)
      · have hf := if_t hc6 hf
        exact wX6_bestChange_100 C  hK8 hK20 ih  S x2 x3 x4 x5 x6  hf _ _ _ hP (lv_sub hl [0, 1, 2, 3, 4, 5] rfl)
      · have hf := if_f hc6 hf
        refine lv_aload_n hx hb dX6_bestChange_51 rfl (lv_at hl 0 rfl) ?_
        refine lv_iload hx hb dX6_bestChange_52 (lv_at hl 5 rfl) ?_
        refine bd_i hf (fun v7 S7 hq7 hf => ?_)
        refine goI (runV (rest := []) (b := 0) (mX6_mayCome l Γ  hq7) C hP hl.1 (by decide) mE0 rfl k5_96 qX6_mayCome.1 qX6_mayCome.2.1 qX6_mayCome.2.2.1 qX6_mayCome.2.2.2.1 rfl qX6_mayCome.2.2.2.2 ⟨Nat.le_of_ble_eq_true rfl, Nat.le_of_ble_eq_true rfl⟩ ⟨Nat.le_refl 0, Nat.le_refl 0⟩ (Nat.le_of_ble_eq_true rfl) dX6_bestChange_54) hP (fun H locs hP => ?_)
        refine lv_if_eq (tgt := 100) hx hb dX6_bestChange_57 (by decide) (fun hc8 => ?_) (fun hc8 => ?_)
        · have hf := if_t hc8 hf
          exact wX6_bestChange_100 C  hK8 hK20 ih  S7 x2 x3 x4 x5 x6  hf _ _ _ hP (lv_sub hl [0, 1, 2, 3, 4, 5] rfl)
        · have hf := if_f hc8 hf
          refine lv_aload_n hx hb dX6_bestChange_60 rfl (lv_at hl 0 rfl) ?_
          refine lv_iload hx hb dX6_bestChange_61 (lv_at hl 3 rfl) ?_
          refine lv_iload hx hb dX6_bestChange_63 (lv_at hl 4 rfl) ?_
          refine lv_iload hx hb dX6_bestChange_65 (lv_at hl 5 rfl) ?_
          refine bd_i hf (fun v9 S9 hq9 hf => ?_)
          refine goI (runV (rest := []) (b := 0) (mX6_gainOf l Γ  hq9) C hP hl.1 (by decide) mE0 rfl k5_141 qX6_gainOf.1 qX6_gainOf.2.1 qX6_gainOf.2.2.1 qX6_gainOf.2.2.2.1 rfl qX6_gainOf.2.2.2.2 ⟨Nat.le_of_ble_eq_true rfl, Nat.le_of_ble_eq_true rfl⟩ ⟨Nat.le_refl 0, Nat.le_refl 0⟩ (Nat.le_of_ble_eq_true rfl) dX6_bestChange_67) hP (fun H locs hP => ?_)
          refine lv_iload_n hx hb dX6_bestChange_70 rfl (lv_at hl 2 rfl) ?_
          refine lv_icmp_le (tgt := 100) hx hb dX6_bestChange_71 (by decide) (fun hc10 => ?_) (fun hc10 => ?_)
          · have hf := if_t hc10 hf
            exact wX6_bestChange_100 C  hK8 hK20 ih  S9 x2 x3 x4 x5 x6  hf _ _ _ hP (lv_sub hl [0, 1, 2, 3, 4, 5] rfl)
          · have hf := if_f hc10 hf
            refine lv_bipush (v := nI 100) hx hb dX6_bestChange_74 rfl ?_
            refine lv_iload hx hb dX6_bestChange_76 (lv_at hl 3 rfl) ?_
            refine lv_imul hx hb dX6_bestChange_78 ?_
            refine lv_bipush (v := nI 10) hx hb dX6_bestChange_79 rfl ?_
            refine lv_iload hx hb dX6_bestChange_81 (lv_at hl 4 rfl) ?_
            refine lv_imul hx hb dX6_bestChange_83 ?_
            refine lv_iadd hx hb dX6_bestChange_84 ?_
            refine lv_iload hx hb dX6_bestChange_85 (lv_at hl 5 rfl) ?_
            refine lv_iadd hx hb dX6_bestChange_87 ?_
            refine lv_istore_n (lv' := [(2, .int ((((nI 100) * x4) + ((nI 10) * x5)) + x6)), (0, .ref (Γ.2.2 (0))), (3, .int x3), (4, .int x4), (5, .int x5), (6, .int x6)]) hx hb dX6_bestChange_88 rfl hl (by decide) rfl (fun ls hl => ?_)
            refine lv_aload_n hx hb dX6_bestChange_89 rfl (lv_at hl 1 rfl) ?_
            refine lv_iload hx hb dX6_bestChange_90 (lv_at hl 3 rfl) ?_
            refine lv_iload hx hb dX6_bestChange_92 (lv_at hl 4 rfl) ?_
            refine lv_iload hx hb dX6_bestChange_94 (lv_at hl 5 rfl) ?_
            refine bd_i hf (fun v11 S11 hq11 hf => ?_)
            refine goI (runV (rest := []) (b := 0) (mX6_gainOf l Γ  hq11) C hP hl.1 (by decide) mE0 rfl k5_141 qX6_gainOf.1 qX6_gainOf.2.1 qX6_gainOf.2.2.1 qX6_gainOf.2.2.2.1 rfl qX6_gainOf.2.2.2.2 ⟨Nat.le_of_ble_eq_true rfl, Nat.le_of_ble_eq_true rfl⟩ ⟨Nat.le_refl 0, Nat.le_refl 0⟩ (Nat.le_of_ble_eq_true rfl) dX6_bestChange_96) hP (fun H locs hP => ?_)
            refine lv_istore_n (lv' := [(3, .int v11), (2, .int ((((nI 100) * x4) + ((nI 10) * x5)) + x6)), (0, .ref (Γ.2.2 (0))), (4, .int x4), (5, .int x5), (6, .int x6)]) hx hb dX6_bestChange_99 rfl hl (by decide) rfl (fun ls hl => ?_)
            exact wX6_bestChange_100 C  hK8 hK20 ih  S11 ((((nI 100) * x4) + ((nI 10) * x5)) + x6) v11 x4 x5 x6  hf _ _ _ hP (lv_sub hl [2, 1, 0, 3, 4, 5] rfl)
def fX6_bestChange_20  (K8 : mM → Int32 → Int32 → Int32 → Option (Int32 × mM)) : Nat → mM → Int32 → Int32 → Int32 → Int32 → Option (Int32 × mM)
  | 0, _, _, _, _, _ => none
  | n + 1, S, x2, x3, x4, x5 =>
    gi x4 5 (if (S.1 3 (x4).toNatClampNeg) ≤ x5 then K8 S x2 x3 (x4 + (nI 1)) else fX6_bestChange_35  K8 (fX6_bestChange_20  K8 n) lF S x2 x3 x4 x5 (nI 0))
set_option maxHeartbeats 4000000 in
set_option maxRecDepth 100000 in
theorem wX6_bestChange_20 {p : Program} {l : Launch} {e : Env} {s : State} {m : MethodId} {args : Array Value} {below : List Frame} {meth : Method} {c : Code} {Γ : gG} {rz : Int32} {Sz : mM} (C : Cx Γ 28 p s m args meth c RX6 cX6_bestChange 7 (some .int))  {K8 : mM → Int32 → Int32 → Int32 → Option (Int32 × mM)} (hK8 : ∀ (S : mM) (x2 : Int32) (x3 : Int32) (x4 : Int32) , K8 S x2 x3 x4 = some (rz, Sz) → ∀ (H : Heap) (locs : List Loc) (ls : Array Slot), St Γ 28 (mE Γ S) s.heap H locs → lv_has ls 7 [(0, .ref (Γ.2.2 (0))), (2, .int x2), (3, .int x3), (4, .int x4)] → W p l e { frames := 6, cells := 0, slots := 0, locals := 133 } s m args below meth c H locs 0 0 (MQ below (gQi Γ 28 rz (mE Γ Sz)) args s 0 0 (wA Γ 28)) (F0 m 8 ls [])) : ∀ n : Nat, ∀ (S : mM) (x2 : Int32) (x3 : Int32) (x4 : Int32) (x5 : Int32) , fX6_bestChange_20  K8 n S x2 x3 x4 x5 = some (rz, Sz) → ∀ (H : Heap) (locs : List Loc) (ls : Array Slot), St Γ 28 (mE Γ S) s.heap H locs → lv_has ls 7 [(0, .ref (Γ.2.2 (0))), (2, .int x2), (3, .int x3), (4, .int x4), (5, .int x5)] → W p l e { frames := 6, cells := 0, slots := 0, locals := 133 } s m args below meth c H locs 0 0 (MQ below (gQi Γ 28 rz (mE Γ Sz)) args s 0 0 (wA Γ 28)) (F0 m 20 ls []) := by
  obtain ⟨hx, hb, -, -, hown, hts, -, hwx, -⟩ := id C
  intro n
  induction n with
  | zero =>
    intro S x2 x3 x4 x5 hf
    unfold fX6_bestChange_20 at hf
    cases hf
  | succ n ih =>
    intro S x2 x3 x4 x5 hf H locs ls hP hl
    unfold fX6_bestChange_20 at hf
    refine lv_iload hx hb dX6_bestChange_20 (lv_at hl 4 rfl) ?_
    refine lv_aload_n hx hb dX6_bestChange_22 rfl (lv_at hl 0 rfl) ?_
    refine m_get C hP 5 (by decide) k4_58 rfl (v := .ref (Γ.2.2 (3))) rfl dX6_bestChange_23 ?_
    refine lv_iload hx hb dX6_bestChange_26 (lv_at hl 3 rfl) ?_
    refine gi_i hf (fun hi2 hj3 hf => ?_)
    refine m_ild C hP mA_3 hi2 dX6_bestChange_28 ?_
    refine lv_icmp_ge (tgt := 112) hx hb dX6_bestChange_29 (by decide) (fun hc4 => ?_) (fun hc4 => ?_)
    · have hf := if_t hc4 hf
      refine lv_iinc (v := x4 + (nI 1)) (lv' := [(4, .int (x4 + (nI 1))), (0, .ref (Γ.2.2 (0))), (2, .int x2), (3, .int x3), (5, .int x5)]) hx hb dX6_bestChange_112 hl (k := 3) rfl rfl (by decide) rfl (fun ls hl => ?_)
      refine lv_goto (tgt := 8) hx hb dX6_bestChange_115 (by decide) ?_
      exact hK8 S x2 x3 (x4 + (nI 1))  hf _ _ _ hP (lv_sub hl [1, 2, 3, 0] rfl)
    · have hf := if_f hc4 hf
      refine lv_iconst (v := nI 0) hx hb dX6_bestChange_32 rfl ?_
      refine lv_istore (lv' := [(6, .int (nI 0)), (0, .ref (Γ.2.2 (0))), (2, .int x2), (3, .int x3), (4, .int x4), (5, .int x5)]) hx hb dX6_bestChange_33 hl (by decide) rfl (fun ls hl => ?_)
      exact wX6_bestChange_35 C  hK8 ih lF S x2 x3 x4 x5 (nI 0)  hf _ _ _ hP (lv_sub hl [1, 2, 3, 4, 5, 0] rfl)
def fX6_bestChange_8   : Nat → mM → Int32 → Int32 → Int32 → Option (Int32 × mM)
  | 0, _, _, _, _ => none
  | n + 1, S, x2, x3, x4 =>
    if (S.1 0 0) ≤ x4 then some (x2, S) else fX6_bestChange_20  (fX6_bestChange_8   n) lF S x2 x3 x4 (nI 1)
set_option maxHeartbeats 4000000 in
set_option maxRecDepth 100000 in
theorem wX6_bestChange_8 {p : Program} {l : Launch} {e : Env} {s : State} {m : MethodId} {args : Array Value} {below : List Frame} {meth : Method} {c : Code} {Γ : gG} {rz : Int32} {Sz : mM} (C : Cx Γ 28 p s m args meth c RX6 cX6_bestChange 7 (some .int))   : ∀ n : Nat, ∀ (S : mM) (x2 : Int32) (x3 : Int32) (x4 : Int32) , fX6_bestChange_8   n S x2 x3 x4 = some (rz, Sz) → ∀ (H : Heap) (locs : List Loc) (ls : Array Slot), St Γ 28 (mE Γ S) s.heap H locs → lv_has ls 7 [(0, .ref (Γ.2.2 (0))), (2, .int x2), (3, .int x3), (4, .int x4)] → W p l e { frames := 6, cells := 0, slots := 0, locals := 133 } s m args below meth c H locs 0 0 (MQ below (gQi Γ 28 rz (mE Γ Sz)) args s 0 0 (wA Γ 28)) (F0 m 8 ls []) := by
  obtain ⟨hx, hb, -, -, hown, hts, -, hwx, -⟩ := id C
  intro n
  induction n with
  | zero =>
    intro S x2 x3 x4 hf
    unfold fX6_bestChange_8 at hf
    cases hf
  | succ n ih =>
    intro S x2 x3 x4 hf H locs ls hP hl
    unfold fX6_bestChange_8 at hf
    refine lv_iload hx hb dX6_bestChange_8 (lv_at hl 3 rfl) ?_
    refine lv_aload_n hx hb dX6_bestChange_10 rfl (lv_at hl 0 rfl) ?_
    refine m_get C hP 0 (by decide) k4_53 rfl (v := .int (S.1 0 0)) rfl dX6_bestChange_11 ?_
    refine lv_icmp_ge (tgt := 118) hx hb dX6_bestChange_14 (by decide) (fun hc1 => ?_) (fun hc1 => ?_)
    · have hf := if_t hc1 hf
      refine lv_iload_n hx hb dX6_bestChange_118 rfl (lv_at hl 1 rfl) ?_
      exact r_iret (X := mE Γ) C hP hf dX6_bestChange_119
    · have hf := if_f hc1 hf
      refine lv_iconst (v := nI 1) hx hb dX6_bestChange_17 rfl ?_
      refine lv_istore (lv' := [(5, .int (nI 1)), (0, .ref (Γ.2.2 (0))), (2, .int x2), (3, .int x3), (4, .int x4)]) hx hb dX6_bestChange_18 hl (by decide) rfl (fun ls hl => ?_)
      exact wX6_bestChange_20 C  ih lF S x2 x3 x4 (nI 1)  hf _ _ _ hP (lv_sub hl [1, 2, 3, 4, 0] rfl)
def fX6_bestChange  (S : mM) (x1 : Int32) : Option (Int32 × mM) :=
  fX6_bestChange_8   lF S (-4) x1 (nI 0)
set_option maxHeartbeats 4000000 in
set_option maxRecDepth 100000 in
theorem mX6_bestChange (l : Launch) (Γ : gG)   {S : mM} {x1 : Int32} {rz : Int32} {Sz : mM} (hf : fX6_bestChange S x1 = some (rz, Sz)) : CtI l Γ 28 yX6_bestChange cX6_bestChange 7 .int 6 133 [.ref (Γ.2.2 (0)), .int x1] (mE Γ S) rz (mE Γ Sz) := by
  refine met_body (Γ := Γ) (lv := [(0, .ref (Γ.2.2 (0))), (1, .int x1)]) RX6 (by decide) rfl rfl rfl ?_
  intro p e s m below meth c H locs ls C hP hl
  obtain ⟨hx, hb, -, -, hown, hts, -, hwx, -⟩ := id C
  unfold fX6_bestChange at hf
  refine lv_bipush (v := (-4)) hx hb dX6_bestChange_0 rfl ?_
  refine lv_istore_n (lv' := [(2, .int ((-4))), (0, .ref (Γ.2.2 (0))), (1, .int x1)]) hx hb dX6_bestChange_2 rfl hl (by decide) rfl (fun ls hl => ?_)
  refine lv_iload_n hx hb dX6_bestChange_3 rfl (lv_at hl 2 rfl) ?_
  refine lv_istore_n (lv' := [(3, .int x1), (2, .int ((-4))), (0, .ref (Γ.2.2 (0))), (1, .int x1)]) hx hb dX6_bestChange_4 rfl hl (by decide) rfl (fun ls hl => ?_)
  refine lv_iconst (v := nI 0) hx hb dX6_bestChange_5 rfl ?_
  refine lv_istore (lv' := [(4, .int (nI 0)), (3, .int x1), (2, .int ((-4))), (0, .ref (Γ.2.2 (0))), (1, .int x1)]) hx hb dX6_bestChange_6 hl (by decide) rfl (fun ls hl => ?_)
  exact wX6_bestChange_8 C   lF S (-4) x1 (nI 0)  hf _ _ _ hP (lv_sub hl [3, 2, 1, 0] rfl)
-- X6_paysMost
theorem qX6_paysMost : Cond.instanceMethod yX6_paysMost ∈ Ub ∧ Cond.selects RX6 yX6_paysMost yX6_paysMost ∈ Ub ∧ Cond.initialized RX6 ∈ Ub ∧ Cond.code yX6_paysMost cX6_paysMost 2 (some FieldType.int) ∈ Ub ∧ (yX6_paysMost.cls = RX6 ∧ yX6_paysMost.cls ≠ "java/lang/invoke/MethodHandle" ∧ yX6_paysMost.cls ≠ "java/lang/invoke/VarHandle" ∧ (parseMethodDescriptor yX6_paysMost.desc).map (fun d => d.parameters.length) = some 1) := ⟨k5_158, k5_159, k1_5, k5_160, by decide +kernel⟩
def fX6_paysMost  (S : mM) (x1 : Int32) : Option (Int32 × mM) :=
  sv (mS S 0 9 (nI 0)) fun S1 => ( bd (fX6_in S1 x1.toInt64 0 99) fun v2 S2 => ( if v2 = 0 then some ((-1), S2) else bd (fX6_bestChange S2 x1) fun v4 S4 => ( some (v4, S4))))
set_option maxHeartbeats 4000000 in
set_option maxRecDepth 100000 in
theorem mX6_paysMost (l : Launch) (Γ : gG)   {S : mM} {x1 : Int32} {rz : Int32} {Sz : mM} (hf : fX6_paysMost S x1 = some (rz, Sz)) : CtI l Γ 28 yX6_paysMost cX6_paysMost 2 .int 7 159 [.ref (Γ.2.2 (0)), .int x1] (mE Γ S) rz (mE Γ Sz) := by
  refine met_body (Γ := Γ) (lv := [(0, .ref (Γ.2.2 (0))), (1, .int x1)]) RX6 (by decide) rfl rfl rfl ?_
  intro p e s m below meth c H locs ls C hP hl
  obtain ⟨hx, hb, -, -, hown, hts, -, hwx, -⟩ := id C
  unfold fX6_paysMost at hf
  refine lv_aload_n hx hb dX6_paysMost_0 rfl (lv_at hl 0 rfl) ?_
  refine lv_iconst (v := nI 0) hx hb dX6_paysMost_1 rfl ?_
  refine m_put C hP 9 (by decide) k4_62 dX6_paysMost_2 (fun H locs hP => ?_)
  refine sv_i hf (fun S1 e1 hf => ?_)
  rw [← e1] at hP
  refine lv_iload_n hx hb dX6_paysMost_5 rfl (lv_at hl 1 rfl) ?_
  refine lv_i2l (v := x1.toInt64) hx hb dX6_paysMost_6 rfl ?_
  refine lv_lconst (v := 0) hx hb dX6_paysMost_7 (by decide) ?_
  refine lv_ldc2 (v := 99) hx hb hown (hts _ k5_161) dX6_paysMost_8 ?_
  refine bd_i hf (fun v2 S2 hq2 hf => ?_)
  refine goI (runS (rest := []) (mX6_in l Γ  hq2) C hP hl.1 k4_215 qX6_in.1 qX6_in.2.1 qX6_in.2.2.1 rfl qX6_in.2.2.2 ⟨Nat.le_of_ble_eq_true rfl, Nat.le_of_ble_eq_true rfl⟩ ⟨Nat.le_refl 0, Nat.le_refl 0⟩ (Nat.le_of_ble_eq_true rfl) dX6_paysMost_11) hP (fun H locs hP => ?_)
  refine lv_if_eq (tgt := 25) hx hb dX6_paysMost_14 (by decide) (fun hc3 => ?_) (fun hc3 => ?_)
  · have hf := if_t hc3 hf
    refine lv_iconst (v := (-1)) hx hb dX6_paysMost_25 rfl ?_
    exact r_iret (X := mE Γ) C hP hf dX6_paysMost_26
  · have hf := if_f hc3 hf
    refine lv_aload_n hx hb dX6_paysMost_17 rfl (lv_at hl 0 rfl) ?_
    refine lv_iload_n hx hb dX6_paysMost_18 rfl (lv_at hl 1 rfl) ?_
    refine bd_i hf (fun v4 S4 hq4 hf => ?_)
    refine goI (runV (rest := []) (b := 0) (mX6_bestChange l Γ  hq4) C hP hl.1 (by decide) mE0 rfl k5_162 qX6_bestChange.1 qX6_bestChange.2.1 qX6_bestChange.2.2.1 qX6_bestChange.2.2.2.1 rfl qX6_bestChange.2.2.2.2 ⟨Nat.le_of_ble_eq_true rfl, Nat.le_of_ble_eq_true rfl⟩ ⟨Nat.le_refl 0, Nat.le_refl 0⟩ (Nat.le_of_ble_eq_true rfl) dX6_paysMost_19) hP (fun H locs hP => ?_)
    refine lv_goto (tgt := 26) hx hb dX6_paysMost_22 (by decide) ?_
    exact r_iret (X := mE Γ) C hP hf dX6_paysMost_26
-- X6_rests
theorem qX6_rests : Cond.instanceMethod yX6_rests ∈ Ub ∧ Cond.selects RX6 yX6_rests yX6_rests ∈ Ub ∧ Cond.initialized RX6 ∈ Ub ∧ Cond.code yX6_rests cX6_rests 6 (some FieldType.int) ∈ Ub ∧ (yX6_rests.cls = RX6 ∧ yX6_rests.cls ≠ "java/lang/invoke/MethodHandle" ∧ yX6_rests.cls ≠ "java/lang/invoke/VarHandle" ∧ (parseMethodDescriptor yX6_rests.desc).map (fun d => d.parameters.length) = some 2) := ⟨k5_167, k5_168, k1_5, k5_169, by decide +kernel⟩
def fX6_rests_100   (S : mM) (y0 : Int32) : Option (Int32 × mM) :=
  bv (fX6_close S) fun S11 => ( some (y0, S11))
set_option maxHeartbeats 4000000 in
set_option maxRecDepth 100000 in
theorem wX6_rests_100 {p : Program} {l : Launch} {e : Env} {s : State} {m : MethodId} {args : Array Value} {below : List Frame} {meth : Method} {c : Code} {Γ : gG} {rz : Int32} {Sz : mM} (C : Cx Γ 28 p s m args meth c RX6 cX6_rests 6 (some .int))   : ∀ (S : mM) (y0 : Int32) , fX6_rests_100   S y0 = some (rz, Sz) → ∀ (H : Heap) (locs : List Loc) (ls : Array Slot), St Γ 28 (mE Γ S) s.heap H locs → lv_has ls 6 [(0, .ref (Γ.2.2 (0)))] → W p l e { frames := 7, cells := 0, slots := 0, locals := 159 } s m args below meth c H locs 0 0 (MQ below (gQi Γ 28 rz (mE Γ Sz)) args s 0 0 (wA Γ 28)) (F0 m 100 ls [.int y0]) := by
  obtain ⟨hx, hb, -, -, hown, hts, -, hwx, -⟩ := id C
  intro S y0 hf H locs ls hP hl
  unfold fX6_rests_100 at hf
  refine lv_istore (lv' := [(5, .int y0), (0, .ref (Γ.2.2 (0)))]) hx hb dX6_rests_100 hl (by decide) rfl (fun ls hl => ?_)
  refine lv_aload_n hx hb dX6_rests_102 rfl (lv_at hl 1 rfl) ?_
  refine bv_i hf (fun S11 hq11 hf => ?_)
  refine goV (runV (rest := []) (b := 0) (mX6_close l Γ  hq11) C hP hl.1 (by decide) mE0 rfl k5_34 qX6_close.1 qX6_close.2.1 qX6_close.2.2.1 qX6_close.2.2.2.1 rfl qX6_close.2.2.2.2 ⟨Nat.le_of_ble_eq_true rfl, Nat.le_of_ble_eq_true rfl⟩ ⟨Nat.le_refl 0, Nat.le_refl 0⟩ (Nat.le_of_ble_eq_true rfl) dX6_rests_103) hP (fun H locs hP => ?_)
  refine lv_iload hx hb dX6_rests_106 (lv_at hl 0 rfl) ?_
  exact r_iret (X := mE Γ) C hP hf dX6_rests_108
def fX6_rests_88   (S : mM) (x2 : Int32) (x3 : Int32) : Option (Int32 × mM) :=
  if x2 = 0 then fX6_rests_100    S x3 else bd (fX6_allTimes S) fun v10 S10 => ( fX6_rests_100    S10 v10)
set_option maxHeartbeats 4000000 in
set_option maxRecDepth 100000 in
theorem wX6_rests_88 {p : Program} {l : Launch} {e : Env} {s : State} {m : MethodId} {args : Array Value} {below : List Frame} {meth : Method} {c : Code} {Γ : gG} {rz : Int32} {Sz : mM} (C : Cx Γ 28 p s m args meth c RX6 cX6_rests 6 (some .int))   : ∀ (S : mM) (x2 : Int32) (x3 : Int32) , fX6_rests_88   S x2 x3 = some (rz, Sz) → ∀ (H : Heap) (locs : List Loc) (ls : Array Slot), St Γ 28 (mE Γ S) s.heap H locs → lv_has ls 6 [(0, .ref (Γ.2.2 (0))), (2, .int x2), (3, .int x3)] → W p l e { frames := 7, cells := 0, slots := 0, locals := 159 } s m args below meth c H locs 0 0 (MQ below (gQi Γ 28 rz (mE Γ Sz)) args s 0 0 (wA Γ 28)) (F0 m 88 ls []) := by
  obtain ⟨hx, hb, -, -, hown, hts, -, hwx, -⟩ := id C
  intro S x2 x3 hf H locs ls hP hl
  unfold fX6_rests_88 at hf
  refine lv_iload_n hx hb dX6_rests_88 rfl (lv_at hl 1 rfl) ?_
  refine lv_if_ne (tgt := 96) hx hb dX6_rests_89 (by decide) (fun hc9 => ?_) (fun hc9 => ?_)
  · have hf := if_f hc9 hf
    refine lv_aload_n hx hb dX6_rests_96 rfl (lv_at hl 0 rfl) ?_
    refine bd_i hf (fun v10 S10 hq10 hf => ?_)
    refine goI (runV (rest := []) (b := 0) (mX6_allTimes l Γ  hq10) C hP hl.1 (by decide) mE0 rfl k5_128 qX6_allTimes.1 qX6_allTimes.2.1 qX6_allTimes.2.2.1 qX6_allTimes.2.2.2.1 rfl qX6_allTimes.2.2.2.2 ⟨Nat.le_of_ble_eq_true rfl, Nat.le_of_ble_eq_true rfl⟩ ⟨Nat.le_refl 0, Nat.le_refl 0⟩ (Nat.le_of_ble_eq_true rfl) dX6_rests_97) hP (fun H locs hP => ?_)
    exact wX6_rests_100 C    S10 v10  hf _ _ _ hP (lv_sub hl [0] rfl)
  · have hf := if_t hc9 hf
    refine lv_iload_n hx hb dX6_rests_92 rfl (lv_at hl 2 rfl) ?_
    refine lv_goto (tgt := 100) hx hb dX6_rests_93 (by decide) ?_
    exact wX6_rests_100 C    S x3  hf _ _ _ hP (lv_sub hl [0] rfl)
def fX6_rests_42   : Nat → mM → Int32 → Int32 → Int32 → Int32 → Option (Int32 × mM)
  | 0, _, _, _, _, _ => none
  | n + 1, S, x1, x2, x3, x4 =>
    if x4 < 0 then fX6_rests_88    S x2 x3 else if (nI 40) ≤ x3 then fX6_rests_88    S x2 x3 else bv (fX6_goOver S (x4 / (nI 100)) ((x4 / (nI 10)) - (x4 / (nI 10)) / (nI 10) * (nI 10)) (x4 - x4 / (nI 10) * (nI 10))) fun S13 => ( bd (fX6_bestChange S13 x1) fun v14 S14 => ( (fX6_rests_42   n) S14 x1 x2 (x3 + (nI 1)) v14))
set_option maxHeartbeats 4000000 in
set_option maxRecDepth 100000 in
theorem wX6_rests_42 {p : Program} {l : Launch} {e : Env} {s : State} {m : MethodId} {args : Array Value} {below : List Frame} {meth : Method} {c : Code} {Γ : gG} {rz : Int32} {Sz : mM} (C : Cx Γ 28 p s m args meth c RX6 cX6_rests 6 (some .int))   : ∀ n : Nat, ∀ (S : mM) (x1 : Int32) (x2 : Int32) (x3 : Int32) (x4 : Int32) , fX6_rests_42   n S x1 x2 x3 x4 = some (rz, Sz) → ∀ (H : Heap) (locs : List Loc) (ls : Array Slot), St Γ 28 (mE Γ S) s.heap H locs → lv_has ls 6 [(0, .ref (Γ.2.2 (0))), (1, .int x1), (2, .int x2), (3, .int x3), (4, .int x4)] → W p l e { frames := 7, cells := 0, slots := 0, locals := 159 } s m args below meth c H locs 0 0 (MQ below (gQi Γ 28 rz (mE Γ Sz)) args s 0 0 (wA Γ 28)) (F0 m 42 ls []) := by
  obtain ⟨hx, hb, -, -, hown, hts, -, hwx, -⟩ := id C
  intro n
  induction n with
  | zero =>
    intro S x1 x2 x3 x4 hf
    unfold fX6_rests_42 at hf
    cases hf
  | succ n ih =>
    intro S x1 x2 x3 x4 hf H locs ls hP hl
    unfold fX6_rests_42 at hf
    refine lv_iload hx hb dX6_rests_42 (lv_at hl 4 rfl) ?_
    refine lv_if_lt (tgt := 88) hx hb dX6_rests_44 (by decide) (fun hc8 => ?_) (fun hc8 => ?_)
    · have hf := if_t hc8 hf
      exact wX6_rests_88 C    S x2 x3  hf _ _ _ hP (lv_sub hl [0, 2, 3] rfl)
    · have hf := if_f hc8 hf
      refine lv_iload_n hx hb dX6_rests_47 rfl (lv_at hl 3 rfl) ?_
      refine lv_bipush (v := nI 40) hx hb dX6_rests_48 rfl ?_
      refine lv_icmp_ge (tgt := 88) hx hb dX6_rests_50 (by decide) (fun hc12 => ?_) (fun hc12 => ?_)
      · have hf := if_t hc12 hf
        exact wX6_rests_88 C    S x2 x3  hf _ _ _ hP (lv_sub hl [0, 2, 3] rfl)
      · have hf := if_f hc12 hf
        refine lv_aload_n hx hb dX6_rests_53 rfl (lv_at hl 0 rfl) ?_
        refine lv_iload hx hb dX6_rests_54 (lv_at hl 4 rfl) ?_
        refine lv_bipush (v := nI 100) hx hb dX6_rests_56 rfl ?_
        refine lv_idiv hx hb dX6_rests_58 (by decide) ?_
        refine lv_iload hx hb dX6_rests_59 (lv_at hl 4 rfl) ?_
        refine lv_bipush (v := nI 10) hx hb dX6_rests_61 rfl ?_
        refine lv_idiv hx hb dX6_rests_63 (by decide) ?_
        refine lv_bipush (v := nI 10) hx hb dX6_rests_64 rfl ?_
        refine lv_irem hx hb dX6_rests_66 (by decide) ?_
        refine lv_iload hx hb dX6_rests_67 (lv_at hl 4 rfl) ?_
        refine lv_bipush (v := nI 10) hx hb dX6_rests_69 rfl ?_
        refine lv_irem hx hb dX6_rests_71 (by decide) ?_
        refine bv_i hf (fun S13 hq13 hf => ?_)
        refine goV (runV (rest := []) (b := 0) (mX6_goOver l Γ  hq13) C hP hl.1 (by decide) mE0 rfl k5_149 qX6_goOver.1 qX6_goOver.2.1 qX6_goOver.2.2.1 qX6_goOver.2.2.2.1 rfl qX6_goOver.2.2.2.2 ⟨Nat.le_of_ble_eq_true rfl, Nat.le_of_ble_eq_true rfl⟩ ⟨Nat.le_refl 0, Nat.le_refl 0⟩ (Nat.le_of_ble_eq_true rfl) dX6_rests_72) hP (fun H locs hP => ?_)
        refine lv_iinc (v := x3 + (nI 1)) (lv' := [(3, .int (x3 + (nI 1))), (0, .ref (Γ.2.2 (0))), (1, .int x1), (2, .int x2), (4, .int x4)]) hx hb dX6_rests_75 hl (k := 3) rfl rfl (by decide) rfl (fun ls hl => ?_)
        refine lv_aload_n hx hb dX6_rests_78 rfl (lv_at hl 1 rfl) ?_
        refine lv_iload_n hx hb dX6_rests_79 rfl (lv_at hl 2 rfl) ?_
        refine bd_i hf (fun v14 S14 hq14 hf => ?_)
        refine goI (runV (rest := []) (b := 0) (mX6_bestChange l Γ  hq14) C hP hl.1 (by decide) mE0 rfl k5_162 qX6_bestChange.1 qX6_bestChange.2.1 qX6_bestChange.2.2.1 qX6_bestChange.2.2.2.1 rfl qX6_bestChange.2.2.2.2 ⟨Nat.le_of_ble_eq_true rfl, Nat.le_of_ble_eq_true rfl⟩ ⟨Nat.le_refl 0, Nat.le_refl 0⟩ (Nat.le_of_ble_eq_true rfl) dX6_rests_80) hP (fun H locs hP => ?_)
        refine lv_istore (lv' := [(4, .int v14), (3, .int (x3 + (nI 1))), (0, .ref (Γ.2.2 (0))), (1, .int x1), (2, .int x2)]) hx hb dX6_rests_83 hl (by decide) rfl (fun ls hl => ?_)
        refine lv_goto (tgt := 42) hx hb dX6_rests_85 (by decide) ?_
        exact ih S14 x1 x2 (x3 + (nI 1)) v14  hf _ _ _ hP (lv_sub hl [2, 3, 4, 1, 0] rfl)
def fX6_rests  (S : mM) (x1 : Int32) (x2 : Int32) : Option (Int32 × mM) :=
  sv (mS S 0 9 (nI 0)) fun S1 => ( bd (fX6_in S1 x1.toInt64 0 99) fun v2 S2 => ( if v2 = 0 then some ((-1), S2) else bd (fX6_in S2 x2.toInt64 0 1) fun v4 S4 => ( if v4 = 0 then some ((-1), S4) else bv (fX6_open S4) fun S6 => ( bd (fX6_bestChange S6 x1) fun v7 S7 => ( fX6_rests_42   lF S7 x1 x2 (nI 0) v7)))))
set_option maxHeartbeats 4000000 in
set_option maxRecDepth 100000 in
theorem mX6_rests (l : Launch) (Γ : gG)   {S : mM} {x1 : Int32} {x2 : Int32} {rz : Int32} {Sz : mM} (hf : fX6_rests S x1 x2 = some (rz, Sz)) : CtI l Γ 28 yX6_rests cX6_rests 6 .int 7 159 [.ref (Γ.2.2 (0)), .int x1, .int x2] (mE Γ S) rz (mE Γ Sz) := by
  refine met_body (Γ := Γ) (lv := [(0, .ref (Γ.2.2 (0))), (1, .int x1), (2, .int x2)]) RX6 (by decide) rfl rfl rfl ?_
  intro p e s m below meth c H locs ls C hP hl
  obtain ⟨hx, hb, -, -, hown, hts, -, hwx, -⟩ := id C
  unfold fX6_rests at hf
  refine lv_aload_n hx hb dX6_rests_0 rfl (lv_at hl 0 rfl) ?_
  refine lv_iconst (v := nI 0) hx hb dX6_rests_1 rfl ?_
  refine m_put C hP 9 (by decide) k4_62 dX6_rests_2 (fun H locs hP => ?_)
  refine sv_i hf (fun S1 e1 hf => ?_)
  rw [← e1] at hP
  refine lv_iload_n hx hb dX6_rests_5 rfl (lv_at hl 1 rfl) ?_
  refine lv_i2l (v := x1.toInt64) hx hb dX6_rests_6 rfl ?_
  refine lv_lconst (v := 0) hx hb dX6_rests_7 (by decide) ?_
  refine lv_ldc2 (v := 99) hx hb hown (hts _ k5_161) dX6_rests_8 ?_
  refine bd_i hf (fun v2 S2 hq2 hf => ?_)
  refine goI (runS (rest := []) (mX6_in l Γ  hq2) C hP hl.1 k4_215 qX6_in.1 qX6_in.2.1 qX6_in.2.2.1 rfl qX6_in.2.2.2 ⟨Nat.le_of_ble_eq_true rfl, Nat.le_of_ble_eq_true rfl⟩ ⟨Nat.le_refl 0, Nat.le_refl 0⟩ (Nat.le_of_ble_eq_true rfl) dX6_rests_11) hP (fun H locs hP => ?_)
  refine lv_if_eq (tgt := 27) hx hb dX6_rests_14 (by decide) (fun hc3 => ?_) (fun hc3 => ?_)
  · have hf := if_t hc3 hf
    refine lv_iconst (v := (-1)) hx hb dX6_rests_27 rfl ?_
    exact r_iret (X := mE Γ) C hP hf dX6_rests_28
  · have hf := if_f hc3 hf
    refine lv_iload_n hx hb dX6_rests_17 rfl (lv_at hl 2 rfl) ?_
    refine lv_i2l (v := x2.toInt64) hx hb dX6_rests_18 rfl ?_
    refine lv_lconst (v := 0) hx hb dX6_rests_19 (by decide) ?_
    refine lv_lconst (v := 1) hx hb dX6_rests_20 (by decide) ?_
    refine bd_i hf (fun v4 S4 hq4 hf => ?_)
    refine goI (runS (rest := []) (mX6_in l Γ  hq4) C hP hl.1 k4_215 qX6_in.1 qX6_in.2.1 qX6_in.2.2.1 rfl qX6_in.2.2.2 ⟨Nat.le_of_ble_eq_true rfl, Nat.le_of_ble_eq_true rfl⟩ ⟨Nat.le_refl 0, Nat.le_refl 0⟩ (Nat.le_of_ble_eq_true rfl) dX6_rests_21) hP (fun H locs hP => ?_)
    refine lv_if_ne (tgt := 29) hx hb dX6_rests_24 (by decide) (fun hc5 => ?_) (fun hc5 => ?_)
    · have hf := if_f hc5 hf
      refine lv_aload_n hx hb dX6_rests_29 rfl (lv_at hl 0 rfl) ?_
      refine bv_i hf (fun S6 hq6 hf => ?_)
      refine goV (runV (rest := []) (b := 0) (mX6_open l Γ  hq6) C hP hl.1 (by decide) mE0 rfl k4_232 qX6_open.1 qX6_open.2.1 qX6_open.2.2.1 qX6_open.2.2.2.1 rfl qX6_open.2.2.2.2 ⟨Nat.le_of_ble_eq_true rfl, Nat.le_of_ble_eq_true rfl⟩ ⟨Nat.le_refl 0, Nat.le_refl 0⟩ (Nat.le_of_ble_eq_true rfl) dX6_rests_30) hP (fun H locs hP => ?_)
      refine lv_iconst (v := nI 0) hx hb dX6_rests_33 rfl ?_
      refine lv_istore_n (lv' := [(3, .int (nI 0)), (0, .ref (Γ.2.2 (0))), (1, .int x1), (2, .int x2)]) hx hb dX6_rests_34 rfl hl (by decide) rfl (fun ls hl => ?_)
      refine lv_aload_n hx hb dX6_rests_35 rfl (lv_at hl 1 rfl) ?_
      refine lv_iload_n hx hb dX6_rests_36 rfl (lv_at hl 2 rfl) ?_
      refine bd_i hf (fun v7 S7 hq7 hf => ?_)
      refine goI (runV (rest := []) (b := 0) (mX6_bestChange l Γ  hq7) C hP hl.1 (by decide) mE0 rfl k5_162 qX6_bestChange.1 qX6_bestChange.2.1 qX6_bestChange.2.2.1 qX6_bestChange.2.2.2.1 rfl qX6_bestChange.2.2.2.2 ⟨Nat.le_of_ble_eq_true rfl, Nat.le_of_ble_eq_true rfl⟩ ⟨Nat.le_refl 0, Nat.le_refl 0⟩ (Nat.le_of_ble_eq_true rfl) dX6_rests_37) hP (fun H locs hP => ?_)
      refine lv_istore (lv' := [(4, .int v7), (3, .int (nI 0)), (0, .ref (Γ.2.2 (0))), (1, .int x1), (2, .int x2)]) hx hb dX6_rests_40 hl (by decide) rfl (fun ls hl => ?_)
      exact wX6_rests_42 C   lF S7 x1 x2 (nI 0) v7  hf _ _ _ hP (lv_sub hl [2, 3, 4, 1, 0] rfl)
    · have hf := if_t hc5 hf
      refine lv_iconst (v := (-1)) hx hb dX6_rests_27 rfl ?_
      exact r_iret (X := mE Γ) C hP hf dX6_rests_28
