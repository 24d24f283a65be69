-- X6_thrown
theorem qX6_thrown : Cond.instanceMethod yX6_thrown ∈ Ub ∧ Cond.selects RX6 yX6_thrown yX6_thrown ∈ Ub ∧ Cond.initialized RX6 ∈ Ub ∧ Cond.code yX6_thrown cX6_thrown 1 (some FieldType.int) ∈ Ub ∧ (yX6_thrown.cls = RX6 ∧ yX6_thrown.cls ≠ "java/lang/invoke/MethodHandle" ∧ yX6_thrown.cls ≠ "java/lang/invoke/VarHandle" ∧ (parseMethodDescriptor yX6_thrown.desc).map (fun d => d.parameters.length) = some 0) := ⟨k4_183, k4_184, k1_5, k4_185, by decide +kernel⟩
def fX6_thrown  (S : mM)  : Option (Int32 × mM) :=
  some (S.1 0 9, S)
set_option maxHeartbeats 4000000 in
set_option maxRecDepth 100000 in
theorem mX6_thrown (l : Launch) (Γ : gG)   {S : mM}  {rz : Int32} {Sz : mM} (hf : fX6_thrown S = some (rz, Sz)) : CtI l Γ 28 yX6_thrown cX6_thrown 1 .int 0 0 [.ref (Γ.2.2 (0))] (mE Γ S) rz (mE Γ Sz) := by
  refine met_body (Γ := Γ) (lv := [(0, .ref (Γ.2.2 (0)))]) RX6 (by decide) rfl rfl rfl ?_
  intro p e s m below meth c H locs ls C hP hl
  obtain ⟨hx, hb, -, -, hown, hts, -, hwx, -⟩ := id C
  unfold fX6_thrown at hf
  refine lv_aload_n hx hb dX6_thrown_0 rfl (lv_at hl 0 rfl) ?_
  refine m_get C hP 9 (by decide) k4_62 rfl (v := .int (S.1 0 9)) rfl dX6_thrown_1 ?_
  exact r_iret (X := mE Γ) C hP hf dX6_thrown_4
-- X6_in
theorem qX6_in : Cond.static yX6_in ∈ Ub ∧ Cond.initialized RX6 ∈ Ub ∧ Cond.code yX6_in cX6_in 6 (some FieldType.boolean) ∈ Ub ∧ (yX6_in.cls = RX6 ∧ yX6_in.cls ≠ "java/lang/invoke/MethodHandle" ∧ yX6_in.cls ≠ "java/lang/invoke/VarHandle" ∧ (parseMethodDescriptor yX6_in.desc).map (fun d => d.parameters.length) = some 3) := ⟨k4_216, k1_5, k4_217, by decide +kernel⟩
def fX6_in  (S : mM) (x0 : Int64) (x2 : Int64) (x4 : Int64) : Option (Int32 × mM) :=
  if (lg_cmp x0 x2) < 0 then some (nI 0, S) else if (0 : Int32) < (lg_cmp x0 x4) then some (nI 0, S) else some (nI 1, S)
set_option maxHeartbeats 4000000 in
set_option maxRecDepth 100000 in
theorem mX6_in (l : Launch) (Γ : gG)   {S : mM} {x0 : Int64} {x2 : Int64} {x4 : Int64} {rz : Int32} {Sz : mM} (hf : fX6_in S x0 x2 x4 = some (rz, Sz)) : CtI l Γ 28 yX6_in cX6_in 6 .boolean 0 0 [.long x0, .long x2, .long x4] (mE Γ S) rz (mE Γ Sz) := by
  refine met_body (Γ := Γ) (lv := [(0, .long x0), (2, .long x2), (4, .long x4)]) RX6 (by decide) rfl rfl rfl ?_
  intro p e s m below meth c H locs ls C hP hl
  obtain ⟨hx, hb, -, -, hown, hts, -, hwx, -⟩ := id C
  unfold fX6_in at hf
  refine lv_lload_n hx hb dX6_in_0 rfl (lv_at hl 0 rfl) ?_
  refine lv_lload_n hx hb dX6_in_1 rfl (lv_at hl 1 rfl) ?_
  refine W.lcmp hx hb dX6_in_2 ?_
  refine lv_if_lt (tgt := 17) hx hb dX6_in_3 (by decide) (fun hc1 => ?_) (fun hc1 => ?_)
  · have hf := if_t hc1 hf
    refine lv_iconst (v := nI 0) hx hb dX6_in_17 rfl ?_
    exact r_zret (X := mE Γ) C hP (Or.inl rfl) hf dX6_in_18
  · have hf := if_f hc1 hf
    refine lv_lload_n hx hb dX6_in_6 rfl (lv_at hl 0 rfl) ?_
    refine lv_lload hx hb dX6_in_7 (lv_at hl 2 rfl) ?_
    refine W.lcmp hx hb dX6_in_9 ?_
    refine lv_if_gt (tgt := 17) hx hb dX6_in_10 (by decide) (fun hc2 => ?_) (fun hc2 => ?_)
    · have hf := if_t hc2 hf
      refine lv_iconst (v := nI 0) hx hb dX6_in_17 rfl ?_
      exact r_zret (X := mE Γ) C hP (Or.inl rfl) hf dX6_in_18
    · have hf := if_f hc2 hf
      refine lv_iconst (v := nI 1) hx hb dX6_in_13 rfl ?_
      refine lv_goto (tgt := 18) hx hb dX6_in_14 (by decide) ?_
      exact r_zret (X := mE Γ) C hP (Or.inr rfl) hf dX6_in_18
-- X6_isLane
theorem qX6_isLane : Cond.instanceMethod yX6_isLane ∈ Ub ∧ Cond.selects RX6 yX6_isLane yX6_isLane ∈ Ub ∧ Cond.initialized RX6 ∈ Ub ∧ Cond.code yX6_isLane cX6_isLane 2 (some FieldType.boolean) ∈ Ub ∧ (yX6_isLane.cls = RX6 ∧ yX6_isLane.cls ≠ "java/lang/invoke/MethodHandle" ∧ yX6_isLane.cls ≠ "java/lang/invoke/VarHandle" ∧ (parseMethodDescriptor yX6_isLane.desc).map (fun d => d.parameters.length) = some 1) := ⟨k5_32, ks_38, k1_5, k5_33, by decide +kernel⟩
def fX6_isLane  (S : mM) (x1 : Int32) : Option (Int32 × mM) :=
  bd (fX6_in S x1.toInt64 0 (((S.1 0 0) - (nI 1)).toInt64)) fun v1 S1 => ( gb v1 (some (v1, S1)))
set_option maxHeartbeats 4000000 in
set_option maxRecDepth 100000 in
theorem mX6_isLane (l : Launch) (Γ : gG)   {S : mM} {x1 : Int32} {rz : Int32} {Sz : mM} (hf : fX6_isLane S x1 = some (rz, Sz)) : CtI l Γ 28 yX6_isLane cX6_isLane 2 .boolean 1 25 [.ref (Γ.2.2 (0)), .int x1] (mE Γ S) rz (mE Γ Sz) := by
  refine met_body (Γ := Γ) (lv := [(0, .ref (Γ.2.2 (0))), (1, .int x1)]) RX6 (by decide) rfl rfl rfl ?_
  intro p e s m below meth c H locs ls C hP hl
  obtain ⟨hx, hb, -, -, hown, hts, -, hwx, -⟩ := id C
  unfold fX6_isLane at hf
  refine lv_iload_n hx hb dX6_isLane_0 rfl (lv_at hl 1 rfl) ?_
  refine lv_i2l (v := x1.toInt64) hx hb dX6_isLane_1 rfl ?_
  refine lv_lconst (v := 0) hx hb dX6_isLane_2 (by decide) ?_
  refine lv_aload_n hx hb dX6_isLane_3 rfl (lv_at hl 0 rfl) ?_
  refine m_get C hP 0 (by decide) k4_53 rfl (v := .int (S.1 0 0)) rfl dX6_isLane_4 ?_
  refine lv_iconst (v := nI 1) hx hb dX6_isLane_7 rfl ?_
  refine lv_isub hx hb dX6_isLane_8 ?_
  refine lv_i2l (v := ((S.1 0 0) - (nI 1)).toInt64) hx hb dX6_isLane_9 rfl ?_
  refine bd_i hf (fun v1 S1 hq1 hf => ?_)
  refine goI (runS (rest := []) (mX6_in l Γ  hq1) C hP hl.1 k4_215 qX6_in.1 qX6_in.2.1 qX6_in.2.2.1 rfl qX6_in.2.2.2 ⟨Nat.le_of_ble_eq_true rfl, Nat.le_of_ble_eq_true rfl⟩ ⟨Nat.le_refl 0, Nat.le_refl 0⟩ (Nat.le_of_ble_eq_true rfl) dX6_isLane_10) hP (fun H locs hP => ?_)
  refine gb_i hf (fun hz2 hf => ?_)
  exact r_zret (X := mE Γ) C hP hz2 hf dX6_isLane_13
-- X6_plainTakes
theorem qX6_plainTakes : Cond.static yX6_plainTakes ∈ Ub ∧ Cond.initialized RX6 ∈ Ub ∧ Cond.code yX6_plainTakes cX6_plainTakes 1 (some FieldType.int) ∈ Ub ∧ (yX6_plainTakes.cls = RX6 ∧ yX6_plainTakes.cls ≠ "java/lang/invoke/MethodHandle" ∧ yX6_plainTakes.cls ≠ "java/lang/invoke/VarHandle" ∧ (parseMethodDescriptor yX6_plainTakes.desc).map (fun d => d.parameters.length) = some 1) := ⟨k5_16, k1_5, k5_17, by decide +kernel⟩
def fX6_plainTakes  (S : mM) (x0 : Int32) : Option (Int32 × mM) :=
  if x0 = 0 then some (nI 2, S) else if x0 = (nI 1) then some (nI 3, S) else if x0 = (nI 2) then some (nI 5, S) else some (nI 8, S)
set_option maxHeartbeats 4000000 in
set_option maxRecDepth 100000 in
theorem mX6_plainTakes (l : Launch) (Γ : gG)   {S : mM} {x0 : Int32} {rz : Int32} {Sz : mM} (hf : fX6_plainTakes S x0 = some (rz, Sz)) : CtI l Γ 28 yX6_plainTakes cX6_plainTakes 1 .int 0 0 [.int x0] (mE Γ S) rz (mE Γ Sz) := by
  refine met_body (Γ := Γ) (lv := [(0, .int x0)]) RX6 (by decide) rfl rfl rfl ?_
  intro p e s m below meth c H locs ls C hP hl
  obtain ⟨hx, hb, -, -, hown, hts, -, hwx, -⟩ := id C
  unfold fX6_plainTakes at hf
  refine lv_iload_n hx hb dX6_plainTakes_0 rfl (lv_at hl 0 rfl) ?_
  refine lv_if_ne (tgt := 8) hx hb dX6_plainTakes_1 (by decide) (fun hc1 => ?_) (fun hc1 => ?_)
  · have hf := if_f hc1 hf
    refine lv_iload_n hx hb dX6_plainTakes_8 rfl (lv_at hl 0 rfl) ?_
    refine lv_iconst (v := nI 1) hx hb dX6_plainTakes_9 rfl ?_
    refine lv_icmp_ne (tgt := 17) hx hb dX6_plainTakes_10 (by decide) (fun hc2 => ?_) (fun hc2 => ?_)
    · have hf := if_f hc2 hf
      refine lv_iload_n hx hb dX6_plainTakes_17 rfl (lv_at hl 0 rfl) ?_
      refine lv_iconst (v := nI 2) hx hb dX6_plainTakes_18 rfl ?_
      refine lv_icmp_ne (tgt := 26) hx hb dX6_plainTakes_19 (by decide) (fun hc3 => ?_) (fun hc3 => ?_)
      · have hf := if_f hc3 hf
        refine lv_bipush (v := nI 8) hx hb dX6_plainTakes_26 rfl ?_
        exact r_iret (X := mE Γ) C hP hf dX6_plainTakes_28
      · have hf := if_t hc3 hf
        refine lv_iconst (v := nI 5) hx hb dX6_plainTakes_22 rfl ?_
        refine lv_goto (tgt := 28) hx hb dX6_plainTakes_23 (by decide) ?_
        exact r_iret (X := mE Γ) C hP hf dX6_plainTakes_28
    · have hf := if_t hc2 hf
      refine lv_iconst (v := nI 3) hx hb dX6_plainTakes_13 rfl ?_
      refine lv_goto (tgt := 28) hx hb dX6_plainTakes_14 (by decide) ?_
      exact r_iret (X := mE Γ) C hP hf dX6_plainTakes_28
  · have hf := if_t hc1 hf
    refine lv_iconst (v := nI 2) hx hb dX6_plainTakes_4 rfl ?_
    refine lv_goto (tgt := 28) hx hb dX6_plainTakes_5 (by decide) ?_
    exact r_iret (X := mE Γ) C hP hf dX6_plainTakes_28
-- X6_takesBy
theorem qX6_takesBy : Cond.static yX6_takesBy ∈ Ub ∧ Cond.initialized RX6 ∈ Ub ∧ Cond.code yX6_takesBy cX6_takesBy 4 (some FieldType.int) ∈ Ub ∧ (yX6_takesBy.cls = RX6 ∧ yX6_takesBy.cls ≠ "java/lang/invoke/MethodHandle" ∧ yX6_takesBy.cls ≠ "java/lang/invoke/VarHandle" ∧ (parseMethodDescriptor yX6_takesBy.desc).map (fun d => d.parameters.length) = some 3) := ⟨k5_13, k1_5, k5_14, by decide +kernel⟩
def fX6_takesBy  (S : mM) (x0 : Int32) (x1 : Int32) (x2 : Int32) : Option (Int32 × mM) :=
  bd (fX6_plainTakes S x2) fun v1 S1 => ( (if x0 = nI 1 then some (v1 - (nI 1), S1) else if x0 = nI 2 then some ((nI 2) * v1, S1) else if x0 = nI 3 then if x2 = (nI 3) then some (((nI 2) * v1) + x1, S1) else some ((nI 2) * v1, S1) else if x0 = nI 4 then some (v1, S1) else if x0 = nI 5 then some (((nI 2) * v1) + (nI 1), S1) else if x0 = nI 6 then some (v1 / (nI 2), S1) else if x0 = nI 7 then some (v1 + x1, S1) else some (v1, S1)))
set_option maxHeartbeats 4000000 in
set_option maxRecDepth 100000 in
theorem mX6_takesBy (l : Launch) (Γ : gG)   {S : mM} {x0 : Int32} {x1 : Int32} {x2 : Int32} {rz : Int32} {Sz : mM} (hf : fX6_takesBy S x0 x1 x2 = some (rz, Sz)) : CtI l Γ 28 yX6_takesBy cX6_takesBy 4 .int 1 20 [.int x0, .int x1, .int x2] (mE Γ S) rz (mE Γ Sz) := by
  refine met_body (Γ := Γ) (lv := [(0, .int x0), (1, .int x1), (2, .int x2)]) RX6 (by decide) rfl rfl rfl ?_
  intro p e s m below meth c H locs ls C hP hl
  obtain ⟨hx, hb, -, -, hown, hts, -, hwx, -⟩ := id C
  unfold fX6_takesBy at hf
  refine lv_iload_n hx hb dX6_takesBy_0 rfl (lv_at hl 2 rfl) ?_
  refine bd_i hf (fun v1 S1 hq1 hf => ?_)
  refine goI (runS (rest := []) (mX6_plainTakes l Γ  hq1) C hP hl.1 k5_15 qX6_plainTakes.1 qX6_plainTakes.2.1 qX6_plainTakes.2.2.1 rfl qX6_plainTakes.2.2.2 ⟨Nat.le_of_ble_eq_true rfl, Nat.le_of_ble_eq_true rfl⟩ ⟨Nat.le_refl 0, Nat.le_refl 0⟩ (Nat.le_of_ble_eq_true rfl) dX6_takesBy_1) hP (fun H locs hP => ?_)
  refine lv_istore_n (lv' := [(3, .int v1), (0, .int x0), (1, .int x1), (2, .int x2)]) hx hb dX6_takesBy_4 rfl hl (by decide) rfl (fun ls hl => ?_)
  refine lv_iload_n hx hb dX6_takesBy_5 rfl (lv_at hl 1 rfl) ?_
  by_cases hs2 : x0 = nI 1
  · have hf := if_t hs2 hf
    refine lv_tableIn (tgt := 48) hx hb dX6_takesBy_6 (by rw [hs2]; decide) (by rw [hs2]; decide) (by rw [hs2]; rfl) (by decide) ?_
    refine lv_iload_n hx hb dX6_takesBy_48 rfl (lv_at hl 0 rfl) ?_
    refine lv_iconst (v := nI 1) hx hb dX6_takesBy_49 rfl ?_
    refine lv_isub hx hb dX6_takesBy_50 ?_
    exact r_iret (X := mE Γ) C hP hf dX6_takesBy_51
  · have hf := if_f hs2 hf
    by_cases hs3 : x0 = nI 2
    · have hf := if_t hs3 hf
      refine lv_tableIn (tgt := 52) hx hb dX6_takesBy_6 (by rw [hs3]; decide) (by rw [hs3]; decide) (by rw [hs3]; rfl) (by decide) ?_
      refine lv_iconst (v := nI 2) hx hb dX6_takesBy_52 rfl ?_
      refine lv_iload_n hx hb dX6_takesBy_53 rfl (lv_at hl 0 rfl) ?_
      refine lv_imul hx hb dX6_takesBy_54 ?_
      exact r_iret (X := mE Γ) C hP hf dX6_takesBy_55
    · have hf := if_f hs3 hf
      by_cases hs4 : x0 = nI 3
      · have hf := if_t hs4 hf
        refine lv_tableIn (tgt := 56) hx hb dX6_takesBy_6 (by rw [hs4]; decide) (by rw [hs4]; decide) (by rw [hs4]; rfl) (by decide) ?_
        refine lv_iload_n hx hb dX6_takesBy_56 rfl (lv_at hl 3 rfl) ?_
        refine lv_iconst (v := nI 3) hx hb dX6_takesBy_57 rfl ?_
        refine lv_icmp_ne (tgt := 69) hx hb dX6_takesBy_58 (by decide) (fun hc5 => ?_) (fun hc5 => ?_)
        · have hf := if_f hc5 hf
          refine lv_iconst (v := nI 2) hx hb dX6_takesBy_69 rfl ?_
          refine lv_iload_n hx hb dX6_takesBy_70 rfl (lv_at hl 0 rfl) ?_
          refine lv_imul hx hb dX6_takesBy_71 ?_
          exact r_iret (X := mE Γ) C hP hf dX6_takesBy_72
        · have hf := if_t hc5 hf
          refine lv_iconst (v := nI 2) hx hb dX6_takesBy_61 rfl ?_
          refine lv_iload_n hx hb dX6_takesBy_62 rfl (lv_at hl 0 rfl) ?_
          refine lv_imul hx hb dX6_takesBy_63 ?_
          refine lv_iload_n hx hb dX6_takesBy_64 rfl (lv_at hl 2 rfl) ?_
          refine lv_iadd hx hb dX6_takesBy_65 ?_
          refine lv_goto (tgt := 72) hx hb dX6_takesBy_66 (by decide) ?_
          exact r_iret (X := mE Γ) C hP hf dX6_takesBy_72
      · have hf := if_f hs4 hf
        by_cases hs6 : x0 = nI 4
        · have hf := if_t hs6 hf
          refine lv_tableIn (tgt := 87) hx hb dX6_takesBy_6 (by rw [hs6]; decide) (by rw [hs6]; decide) (by rw [hs6]; rfl) (by decide) ?_
          refine lv_iload_n hx hb dX6_takesBy_87 rfl (lv_at hl 0 rfl) ?_
          exact r_iret (X := mE Γ) C hP hf dX6_takesBy_88
        · have hf := if_f hs6 hf
          by_cases hs7 : x0 = nI 5
          · have hf := if_t hs7 hf
            refine lv_tableIn (tgt := 73) hx hb dX6_takesBy_6 (by rw [hs7]; decide) (by rw [hs7]; decide) (by rw [hs7]; rfl) (by decide) ?_
            refine lv_iconst (v := nI 2) hx hb dX6_takesBy_73 rfl ?_
            refine lv_iload_n hx hb dX6_takesBy_74 rfl (lv_at hl 0 rfl) ?_
            refine lv_imul hx hb dX6_takesBy_75 ?_
            refine lv_iconst (v := nI 1) hx hb dX6_takesBy_76 rfl ?_
            refine lv_iadd hx hb dX6_takesBy_77 ?_
            exact r_iret (X := mE Γ) C hP hf dX6_takesBy_78
          · have hf := if_f hs7 hf
            by_cases hs8 : x0 = nI 6
            · have hf := if_t hs8 hf
              refine lv_tableIn (tgt := 79) hx hb dX6_takesBy_6 (by rw [hs8]; decide) (by rw [hs8]; decide) (by rw [hs8]; rfl) (by decide) ?_
              refine lv_iload_n hx hb dX6_takesBy_79 rfl (lv_at hl 0 rfl) ?_
              refine lv_iconst (v := nI 2) hx hb dX6_takesBy_80 rfl ?_
              refine lv_idiv hx hb dX6_takesBy_81 (by decide) ?_
              exact r_iret (X := mE Γ) C hP hf dX6_takesBy_82
            · have hf := if_f hs8 hf
              by_cases hs9 : x0 = nI 7
              · have hf := if_t hs9 hf
                refine lv_tableIn (tgt := 83) hx hb dX6_takesBy_6 (by rw [hs9]; decide) (by rw [hs9]; decide) (by rw [hs9]; rfl) (by decide) ?_
                refine lv_iload_n hx hb dX6_takesBy_83 rfl (lv_at hl 0 rfl) ?_
                refine lv_iload_n hx hb dX6_takesBy_84 rfl (lv_at hl 2 rfl) ?_
                refine lv_iadd hx hb dX6_takesBy_85 ?_
                exact r_iret (X := mE Γ) C hP hf dX6_takesBy_86
              · have hf := if_f hs9 hf
                refine lv_tableOut (tgt := 87) hx hb dX6_takesBy_6 (by have q0 := ne_toInt hs2; have q1 := ne_toInt hs3; have q2 := ne_toInt hs4; have q3 := ne_toInt hs6; have q4 := ne_toInt hs7; have q5 := ne_toInt hs8; have q6 := ne_toInt hs9; rw [show (nI 1).toInt = 1 from by decide] at q0; rw [show (nI 2).toInt = 2 from by decide] at q1; rw [show (nI 3).toInt = 3 from by decide] at q2; rw [show (nI 4).toInt = 4 from by decide] at q3; rw [show (nI 5).toInt = 5 from by decide] at q4; rw [show (nI 6).toInt = 6 from by decide] at q5; rw [show (nI 7).toInt = 7 from by decide] at q6;  omega) (by decide) ?_
                refine lv_iload_n hx hb dX6_takesBy_87 rfl (lv_at hl 0 rfl) ?_
                exact r_iret (X := mE Γ) C hP hf dX6_takesBy_88
-- X6_takesIn
theorem qX6_takesIn : Cond.instanceMethod yX6_takesIn ∈ Ub ∧ Cond.selects RX6 yX6_takesIn yX6_takesIn ∈ Ub ∧ Cond.initialized RX6 ∈ Ub ∧ Cond.code yX6_takesIn cX6_takesIn 3 (some FieldType.int) ∈ Ub ∧ (yX6_takesIn.cls = RX6 ∧ yX6_takesIn.cls ≠ "java/lang/invoke/MethodHandle" ∧ yX6_takesIn.cls ≠ "java/lang/invoke/VarHandle" ∧ (parseMethodDescriptor yX6_takesIn.desc).map (fun d => d.parameters.length) = some 2) := ⟨k5_10, ks_34, k1_5, k5_11, by decide +kernel⟩
def fX6_takesIn  (S : mM) (x1 : Int32) (x2 : Int32) : Option (Int32 × mM) :=
  gi x1 5 (gi x1 5 (bd (fX6_takesBy S (S.1 1 (x1).toNatClampNeg) (S.1 2 (x1).toNatClampNeg) x2) fun v5 S5 => ( some (v5, S5))))
set_option maxHeartbeats 4000000 in
set_option maxRecDepth 100000 in
theorem mX6_takesIn (l : Launch) (Γ : gG)   {S : mM} {x1 : Int32} {x2 : Int32} {rz : Int32} {Sz : mM} (hf : fX6_takesIn S x1 x2 = some (rz, Sz)) : CtI l Γ 28 yX6_takesIn cX6_takesIn 3 .int 2 43 [.ref (Γ.2.2 (0)), .int x1, .int x2] (mE Γ S) rz (mE Γ Sz) := by
  refine met_body (Γ := Γ) (lv := [(0, .ref (Γ.2.2 (0))), (1, .int x1), (2, .int x2)]) RX6 (by decide) rfl rfl rfl ?_
  intro p e s m below meth c H locs ls C hP hl
  obtain ⟨hx, hb, -, -, hown, hts, -, hwx, -⟩ := id C
  unfold fX6_takesIn at hf
  refine lv_aload_n hx hb dX6_takesIn_0 rfl (lv_at hl 0 rfl) ?_
  refine m_get C hP 3 (by decide) k4_56 rfl (v := .ref (Γ.2.2 (1))) rfl dX6_takesIn_1 ?_
  refine lv_iload_n hx hb dX6_takesIn_4 rfl (lv_at hl 1 rfl) ?_
  refine gi_i hf (fun hi1 hj2 hf => ?_)
  refine m_ild C hP mA_1 hi1 dX6_takesIn_5 ?_
  refine lv_aload_n hx hb dX6_takesIn_6 rfl (lv_at hl 0 rfl) ?_
  refine m_get C hP 4 (by decide) k4_57 rfl (v := .ref (Γ.2.2 (2))) rfl dX6_takesIn_7 ?_
  refine lv_iload_n hx hb dX6_takesIn_10 rfl (lv_at hl 1 rfl) ?_
  refine gi_i hf (fun hi3 hj4 hf => ?_)
  refine m_ild C hP mA_2 hi3 dX6_takesIn_11 ?_
  refine lv_iload_n hx hb dX6_takesIn_12 rfl (lv_at hl 2 rfl) ?_
  refine bd_i hf (fun v5 S5 hq5 hf => ?_)
  refine goI (runS (rest := []) (mX6_takesBy l Γ  hq5) C hP hl.1 k5_12 qX6_takesBy.1 qX6_takesBy.2.1 qX6_takesBy.2.2.1 rfl qX6_takesBy.2.2.2 ⟨Nat.le_of_ble_eq_true rfl, Nat.le_of_ble_eq_true rfl⟩ ⟨Nat.le_refl 0, Nat.le_refl 0⟩ (Nat.le_of_ble_eq_true rfl) dX6_takesIn_13) hP (fun H locs hP => ?_)
  exact r_iret (X := mE Γ) C hP hf dX6_takesIn_16
-- X6_seenIn
theorem qX6_seenIn : Cond.instanceMethod yX6_seenIn ∈ Ub ∧ Cond.selects RX6 yX6_seenIn yX6_seenIn ∈ Ub ∧ Cond.initialized RX6 ∈ Ub ∧ Cond.code yX6_seenIn cX6_seenIn 4 (some FieldType.int) ∈ Ub ∧ (yX6_seenIn.cls = RX6 ∧ yX6_seenIn.cls ≠ "java/lang/invoke/MethodHandle" ∧ yX6_seenIn.cls ≠ "java/lang/invoke/VarHandle" ∧ (parseMethodDescriptor yX6_seenIn.desc).map (fun d => d.parameters.length) = some 1) := ⟨k5_49, ks_41, k1_5, k5_50, by decide +kernel⟩
def fX6_seenIn_18   (S : mM) (x1 : Int32) (x2 : Int32) (y0 : Int32) : Option (Int32 × mM) :=
  gi x1 5 ((if (S.1 1 (x1).toNatClampNeg) = nI 2 then some (y0, S) else if (S.1 1 (x1).toNatClampNeg) = nI 3 then some (y0, S) else if (S.1 1 (x1).toNatClampNeg) = nI 4 then gi x1 5 (if (S.1 2 (x1).toNatClampNeg) ≤ x2 then gi x1 5 (some (S.1 2 (x1).toNatClampNeg, S)) else some (x2, S)) else if (S.1 1 (x1).toNatClampNeg) = nI 5 then some (y0 / (nI 2), S) else if (S.1 1 (x1).toNatClampNeg) = nI 6 then some (x2, S) else if (S.1 1 (x1).toNatClampNeg) = nI 7 then some ((x2 + (nI 1)) / (nI 2), S) else some (x2, S)))
set_option maxHeartbeats 4000000 in
set_option maxRecDepth 100000 in
theorem wX6_seenIn_18 {p : Program} {l : Launch} {e : Env} {s : State} {m : MethodId} {args : Array Value} {below : List Frame} {meth : Method} {c : Code} {Γ : gG} {rz : Int32} {Sz : mM} (C : Cx Γ 28 p s m args meth c RX6 cX6_seenIn 4 (some .int))   : ∀ (S : mM) (x1 : Int32) (x2 : Int32) (y0 : Int32) , fX6_seenIn_18   S x1 x2 y0 = some (rz, Sz) → ∀ (H : Heap) (locs : List Loc) (ls : Array Slot), St Γ 28 (mE Γ S) s.heap H locs → lv_has ls 4 [(0, .ref (Γ.2.2 (0))), (1, .int x1), (2, .int x2)] → W p l e { frames := 0, cells := 0, slots := 0, locals := 0 } s m args below meth c H locs 0 0 (MQ below (gQi Γ 28 rz (mE Γ Sz)) args s 0 0 (wA Γ 28)) (F0 m 18 ls [.int y0]) := by
  obtain ⟨hx, hb, -, -, hown, hts, -, hwx, -⟩ := id C
  intro S x1 x2 y0 hf H locs ls hP hl
  unfold fX6_seenIn_18 at hf
  refine lv_istore_n (lv' := [(3, .int y0), (0, .ref (Γ.2.2 (0))), (1, .int x1), (2, .int x2)]) hx hb dX6_seenIn_18 rfl hl (by decide) rfl (fun ls hl => ?_)
  refine lv_aload_n hx hb dX6_seenIn_19 rfl (lv_at hl 1 rfl) ?_
  refine m_get C hP 3 (by decide) k4_56 rfl (v := .ref (Γ.2.2 (1))) rfl dX6_seenIn_20 ?_
  refine lv_iload_n hx hb dX6_seenIn_23 rfl (lv_at hl 2 rfl) ?_
  refine gi_i hf (fun hi4 hj5 hf => ?_)
  refine m_ild C hP mA_1 hi4 dX6_seenIn_24 ?_
  by_cases hs6 : (S.1 1 (x1).toNatClampNeg) = nI 2
  · have hf := if_t hs6 hf
    refine lv_tableIn (tgt := 64) hx hb dX6_seenIn_25 (by rw [hs6]; decide) (by rw [hs6]; decide) (by rw [hs6]; rfl) (by decide) ?_
    refine lv_iload_n hx hb dX6_seenIn_64 rfl (lv_at hl 0 rfl) ?_
    exact r_iret (X := mE Γ) C hP hf dX6_seenIn_65
  · have hf := if_f hs6 hf
    by_cases hs7 : (S.1 1 (x1).toNatClampNeg) = nI 3
    · have hf := if_t hs7 hf
      refine lv_tableIn (tgt := 64) hx hb dX6_seenIn_25 (by rw [hs7]; decide) (by rw [hs7]; decide) (by rw [hs7]; rfl) (by decide) ?_
      refine lv_iload_n hx hb dX6_seenIn_64 rfl (lv_at hl 0 rfl) ?_
      exact r_iret (X := mE Γ) C hP hf dX6_seenIn_65
    · have hf := if_f hs7 hf
      by_cases hs8 : (S.1 1 (x1).toNatClampNeg) = nI 4
      · have hf := if_t hs8 hf
        refine lv_tableIn (tgt := 66) hx hb dX6_seenIn_25 (by rw [hs8]; decide) (by rw [hs8]; decide) (by rw [hs8]; rfl) (by decide) ?_
        refine lv_iload_n hx hb dX6_seenIn_66 rfl (lv_at hl 3 rfl) ?_
        refine lv_aload_n hx hb dX6_seenIn_67 rfl (lv_at hl 1 rfl) ?_
        refine m_get C hP 4 (by decide) k4_57 rfl (v := .ref (Γ.2.2 (2))) rfl dX6_seenIn_68 ?_
        refine lv_iload_n hx hb dX6_seenIn_71 rfl (lv_at hl 2 rfl) ?_
        refine gi_i hf (fun hi9 hj10 hf => ?_)
        refine m_ild C hP mA_2 hi9 dX6_seenIn_72 ?_
        refine lv_icmp_ge (tgt := 80) hx hb dX6_seenIn_73 (by decide) (fun hc11 => ?_) (fun hc11 => ?_)
        · have hf := if_t hc11 hf
          refine lv_aload_n hx hb dX6_seenIn_80 rfl (lv_at hl 1 rfl) ?_
          refine m_get C hP 4 (by decide) k4_57 rfl (v := .ref (Γ.2.2 (2))) rfl dX6_seenIn_81 ?_
          refine lv_iload_n hx hb dX6_seenIn_84 rfl (lv_at hl 2 rfl) ?_
          refine gi_i hf (fun hi12 hj13 hf => ?_)
          refine m_ild C hP mA_2 hi12 dX6_seenIn_85 ?_
          exact r_iret (X := mE Γ) C hP hf dX6_seenIn_86
        · have hf := if_f hc11 hf
          refine lv_iload_n hx hb dX6_seenIn_76 rfl (lv_at hl 3 rfl) ?_
          refine lv_goto (tgt := 86) hx hb dX6_seenIn_77 (by decide) ?_
          exact r_iret (X := mE Γ) C hP hf dX6_seenIn_86
      · have hf := if_f hs8 hf
        by_cases hs14 : (S.1 1 (x1).toNatClampNeg) = nI 5
        · have hf := if_t hs14 hf
          refine lv_tableIn (tgt := 87) hx hb dX6_seenIn_25 (by rw [hs14]; decide) (by rw [hs14]; decide) (by rw [hs14]; rfl) (by decide) ?_
          refine lv_iload_n hx hb dX6_seenIn_87 rfl (lv_at hl 0 rfl) ?_
          refine lv_iconst (v := nI 2) hx hb dX6_seenIn_88 rfl ?_
          refine lv_idiv hx hb dX6_seenIn_89 (by decide) ?_
          exact r_iret (X := mE Γ) C hP hf dX6_seenIn_90
        · have hf := if_f hs14 hf
          by_cases hs15 : (S.1 1 (x1).toNatClampNeg) = nI 6
          · have hf := if_t hs15 hf
            refine lv_tableIn (tgt := 97) hx hb dX6_seenIn_25 (by rw [hs15]; decide) (by rw [hs15]; decide) (by rw [hs15]; rfl) (by decide) ?_
            refine lv_iload_n hx hb dX6_seenIn_97 rfl (lv_at hl 3 rfl) ?_
            exact r_iret (X := mE Γ) C hP hf dX6_seenIn_98
          · have hf := if_f hs15 hf
            by_cases hs16 : (S.1 1 (x1).toNatClampNeg) = nI 7
            · have hf := if_t hs16 hf
              refine lv_tableIn (tgt := 91) hx hb dX6_seenIn_25 (by rw [hs16]; decide) (by rw [hs16]; decide) (by rw [hs16]; rfl) (by decide) ?_
              refine lv_iload_n hx hb dX6_seenIn_91 rfl (lv_at hl 3 rfl) ?_
              refine lv_iconst (v := nI 1) hx hb dX6_seenIn_92 rfl ?_
              refine lv_iadd hx hb dX6_seenIn_93 ?_
              refine lv_iconst (v := nI 2) hx hb dX6_seenIn_94 rfl ?_
              refine lv_idiv hx hb dX6_seenIn_95 (by decide) ?_
              exact r_iret (X := mE Γ) C hP hf dX6_seenIn_96
            · have hf := if_f hs16 hf
              refine lv_tableOut (tgt := 97) hx hb dX6_seenIn_25 (by have q0 := ne_toInt hs6; have q1 := ne_toInt hs7; have q2 := ne_toInt hs8; have q3 := ne_toInt hs14; have q4 := ne_toInt hs15; have q5 := ne_toInt hs16; rw [show (nI 2).toInt = 2 from by decide] at q0; rw [show (nI 3).toInt = 3 from by decide] at q1; rw [show (nI 4).toInt = 4 from by decide] at q2; rw [show (nI 5).toInt = 5 from by decide] at q3; rw [show (nI 6).toInt = 6 from by decide] at q4; rw [show (nI 7).toInt = 7 from by decide] at q5;  omega) (by decide) ?_
              refine lv_iload_n hx hb dX6_seenIn_97 rfl (lv_at hl 3 rfl) ?_
              exact r_iret (X := mE Γ) C hP hf dX6_seenIn_98
def fX6_seenIn  (S : mM) (x1 : Int32) : Option (Int32 × mM) :=
  gi x1 5 (if (S.1 3 (x1).toNatClampNeg) ≤ 0 then fX6_seenIn_18    S x1 (S.1 3 (x1).toNatClampNeg) (nI 0) else fX6_seenIn_18    S x1 (S.1 3 (x1).toNatClampNeg) ((S.1 3 (x1).toNatClampNeg) - (nI 1)))
set_option maxHeartbeats 4000000 in
set_option maxRecDepth 100000 in
theorem mX6_seenIn (l : Launch) (Γ : gG)   {S : mM} {x1 : Int32} {rz : Int32} {Sz : mM} (hf : fX6_seenIn S x1 = some (rz, Sz)) : CtI l Γ 28 yX6_seenIn cX6_seenIn 4 .int 0 0 [.ref (Γ.2.2 (0)), .int x1] (mE Γ S) rz (mE Γ Sz) := by
  refine met_body (Γ := Γ) (lv := [(0, .ref (Γ.2.2 (0))), (1, .int x1)]) RX6 (by decide) rfl rfl rfl ?_
  intro p e s m below meth c H locs ls C hP hl
  obtain ⟨hx, hb, -, -, hown, hts, -, hwx, -⟩ := id C
  unfold fX6_seenIn at hf
  refine lv_aload_n hx hb dX6_seenIn_0 rfl (lv_at hl 0 rfl) ?_
  refine m_get C hP 5 (by decide) k4_58 rfl (v := .ref (Γ.2.2 (3))) rfl dX6_seenIn_1 ?_
  refine lv_iload_n hx hb dX6_seenIn_4 rfl (lv_at hl 1 rfl) ?_
  refine gi_i hf (fun hi1 hj2 hf => ?_)
  refine m_ild C hP mA_3 hi1 dX6_seenIn_5 ?_
  refine lv_istore_n (lv' := [(2, .int (S.1 3 (x1).toNatClampNeg)), (0, .ref (Γ.2.2 (0))), (1, .int x1)]) hx hb dX6_seenIn_6 rfl hl (by decide) rfl (fun ls hl => ?_)
  refine lv_iload_n hx hb dX6_seenIn_7 rfl (lv_at hl 0 rfl) ?_
  refine lv_if_le (tgt := 17) hx hb dX6_seenIn_8 (by decide) (fun hc3 => ?_) (fun hc3 => ?_)
  · have hf := if_t hc3 hf
    refine lv_iconst (v := nI 0) hx hb dX6_seenIn_17 rfl ?_
    exact wX6_seenIn_18 C    S x1 (S.1 3 (x1).toNatClampNeg) (nI 0)  hf _ _ _ hP (lv_sub hl [1, 2, 0] rfl)
  · have hf := if_f hc3 hf
    refine lv_iload_n hx hb dX6_seenIn_11 rfl (lv_at hl 0 rfl) ?_
    refine lv_iconst (v := nI 1) hx hb dX6_seenIn_12 rfl ?_
    refine lv_isub hx hb dX6_seenIn_13 ?_
    refine lv_goto (tgt := 18) hx hb dX6_seenIn_14 (by decide) ?_
    exact wX6_seenIn_18 C    S x1 (S.1 3 (x1).toNatClampNeg) ((S.1 3 (x1).toNatClampNeg) - (nI 1))  hf _ _ _ hP (lv_sub hl [1, 2, 0] rfl)
-- X6_isOpen
theorem qX6_isOpen : Cond.instanceMethod yX6_isOpen ∈ Ub ∧ Cond.selects RX6 yX6_isOpen yX6_isOpen ∈ Ub ∧ Cond.initialized RX6 ∈ Ub ∧ Cond.code yX6_isOpen cX6_isOpen 2 (some FieldType.boolean) ∈ Ub ∧ (yX6_isOpen.cls = RX6 ∧ yX6_isOpen.cls ≠ "java/lang/invoke/MethodHandle" ∧ yX6_isOpen.cls ≠ "java/lang/invoke/VarHandle" ∧ (parseMethodDescriptor yX6_isOpen.desc).map (fun d => d.parameters.length) = some 1) := ⟨k5_57, ks_43, k1_5, k5_58, by decide +kernel⟩
def fX6_isOpen_25   (S : mM)  : Option (Int32 × mM) :=
  some (nI 1, S)
set_option maxHeartbeats 4000000 in
set_option maxRecDepth 100000 in
theorem wX6_isOpen_25 {p : Program} {l : Launch} {e : Env} {s : State} {m : MethodId} {args : Array Value} {below : List Frame} {meth : Method} {c : Code} {Γ : gG} {rz : Int32} {Sz : mM} (C : Cx Γ 28 p s m args meth c RX6 cX6_isOpen 2 (some .boolean))   : ∀ (S : mM)  , fX6_isOpen_25   S  = some (rz, Sz) → ∀ (H : Heap) (locs : List Loc) (ls : Array Slot), St Γ 28 (mE Γ S) s.heap H locs → lv_has ls 2 [] → W p l e { frames := 0, cells := 0, slots := 0, locals := 0 } s m args below meth c H locs 0 0 (MQ below (gQi Γ 28 rz (mE Γ Sz)) args s 0 0 (wA Γ 28)) (F0 m 25 ls []) := by
  obtain ⟨hx, hb, -, -, hown, hts, -, hwx, -⟩ := id C
  intro S  hf H locs ls hP hl
  unfold fX6_isOpen_25 at hf
  refine lv_iconst (v := nI 1) hx hb dX6_isOpen_25 rfl ?_
  refine lv_goto (tgt := 30) hx hb dX6_isOpen_26 (by decide) ?_
  exact r_zret (X := mE Γ) C hP (Or.inr rfl) hf dX6_isOpen_30
def fX6_isOpen  (S : mM) (x1 : Int32) : Option (Int32 × mM) :=
  gi x1 5 (if (S.1 1 (x1).toNatClampNeg) = (nI 5) then gi x1 5 (gi x1 5 (if (S.1 2 (x1).toNatClampNeg) ≤ (S.1 3 (x1).toNatClampNeg) then some (nI 0, S) else fX6_isOpen_25    S )) else fX6_isOpen_25    S )
set_option maxHeartbeats 4000000 in
set_option maxRecDepth 100000 in
theorem mX6_isOpen (l : Launch) (Γ : gG)   {S : mM} {x1 : Int32} {rz : Int32} {Sz : mM} (hf : fX6_isOpen S x1 = some (rz, Sz)) : CtI l Γ 28 yX6_isOpen cX6_isOpen 2 .boolean 0 0 [.ref (Γ.2.2 (0)), .int x1] (mE Γ S) rz (mE Γ Sz) := by
  refine met_body (Γ := Γ) (lv := [(0, .ref (Γ.2.2 (0))), (1, .int x1)]) RX6 (by decide) rfl rfl rfl ?_
  intro p e s m below meth c H locs ls C hP hl
  obtain ⟨hx, hb, -, -, hown, hts, -, hwx, -⟩ := id C
  unfold fX6_isOpen at hf
  refine lv_aload_n hx hb dX6_isOpen_0 rfl (lv_at hl 0 rfl) ?_
  refine m_get C hP 3 (by decide) k4_56 rfl (v := .ref (Γ.2.2 (1))) rfl dX6_isOpen_1 ?_
  refine lv_iload_n hx hb dX6_isOpen_4 rfl (lv_at hl 1 rfl) ?_
  refine gi_i hf (fun hi1 hj2 hf => ?_)
  refine m_ild C hP mA_1 hi1 dX6_isOpen_5 ?_
  refine lv_iconst (v := nI 5) hx hb dX6_isOpen_6 rfl ?_
  refine lv_icmp_ne (tgt := 25) hx hb dX6_isOpen_7 (by decide) (fun hc3 => ?_) (fun hc3 => ?_)
  · have hf := if_f hc3 hf
    exact wX6_isOpen_25 C    S   hf _ _ _ hP (lv_sub hl [] rfl)
  · have hf := if_t hc3 hf
    refine lv_aload_n hx hb dX6_isOpen_10 rfl (lv_at hl 0 rfl) ?_
    refine m_get C hP 5 (by decide) k4_58 rfl (v := .ref (Γ.2.2 (3))) rfl dX6_isOpen_11 ?_
    refine lv_iload_n hx hb dX6_isOpen_14 rfl (lv_at hl 1 rfl) ?_
    refine gi_i hf (fun hi4 hj5 hf => ?_)
    refine m_ild C hP mA_3 hi4 dX6_isOpen_15 ?_
    refine lv_aload_n hx hb dX6_isOpen_16 rfl (lv_at hl 0 rfl) ?_
    refine m_get C hP 4 (by decide) k4_57 rfl (v := .ref (Γ.2.2 (2))) rfl dX6_isOpen_17 ?_
    refine lv_iload_n hx hb dX6_isOpen_20 rfl (lv_at hl 1 rfl) ?_
    refine gi_i hf (fun hi6 hj7 hf => ?_)
    refine m_ild C hP mA_2 hi6 dX6_isOpen_21 ?_
    refine lv_icmp_ge (tgt := 29) hx hb dX6_isOpen_22 (by decide) (fun hc8 => ?_) (fun hc8 => ?_)
    · have hf := if_t hc8 hf
      refine lv_iconst (v := nI 0) hx hb dX6_isOpen_29 rfl ?_
      exact r_zret (X := mE Γ) C hP (Or.inl rfl) hf dX6_isOpen_30
    · have hf := if_f hc8 hf
      exact wX6_isOpen_25 C    S   hf _ _ _ hP (lv_sub hl [] rfl)
-- X6_mayCome
theorem qX6_mayCome : Cond.instanceMethod yX6_mayCome ∈ Ub ∧ Cond.selects RX6 yX6_mayCome yX6_mayCome ∈ Ub ∧ Cond.initialized RX6 ∈ Ub ∧ Cond.code yX6_mayCome cX6_mayCome 2 (some FieldType.boolean) ∈ Ub ∧ (yX6_mayCome.cls = RX6 ∧ yX6_mayCome.cls ≠ "java/lang/invoke/MethodHandle" ∧ yX6_mayCome.cls ≠ "java/lang/invoke/VarHandle" ∧ (parseMethodDescriptor yX6_mayCome.desc).map (fun d => d.parameters.length) = some 1) := ⟨k5_98, ks_47, k1_5, k5_99, by decide +kernel⟩
def fX6_mayCome  (S : mM) (x1 : Int32) : Option (Int32 × mM) :=
  bd (fX6_isOpen S x1) fun v1 S1 => ( if v1 = 0 then some (nI 0, S1) else gi x1 5 (if (nI 8) ≤ (S1.1 3 (x1).toNatClampNeg) then some (nI 0, S1) else some (nI 1, S1)))
set_option maxHeartbeats 4000000 in
set_option maxRecDepth 100000 in
theorem mX6_mayCome (l : Launch) (Γ : gG)   {S : mM} {x1 : Int32} {rz : Int32} {Sz : mM} (hf : fX6_mayCome S x1 = some (rz, Sz)) : CtI l Γ 28 yX6_mayCome cX6_mayCome 2 .boolean 1 21 [.ref (Γ.2.2 (0)), .int x1] (mE Γ S) rz (mE Γ Sz) := by
  refine met_body (Γ := Γ) (lv := [(0, .ref (Γ.2.2 (0))), (1, .int x1)]) RX6 (by decide) rfl rfl rfl ?_
  intro p e s m below meth c H locs ls C hP hl
  obtain ⟨hx, hb, -, -, hown, hts, -, hwx, -⟩ := id C
  unfold fX6_mayCome at hf
  refine lv_aload_n hx hb dX6_mayCome_0 rfl (lv_at hl 0 rfl) ?_
  refine lv_iload_n hx hb dX6_mayCome_1 rfl (lv_at hl 1 rfl) ?_
  refine bd_i hf (fun v1 S1 hq1 hf => ?_)
  refine goI (runV (rest := []) (b := 0) (mX6_isOpen l Γ  hq1) C hP hl.1 (by decide) mE0 rfl k5_55 qX6_isOpen.1 qX6_isOpen.2.1 qX6_isOpen.2.2.1 qX6_isOpen.2.2.2.1 rfl qX6_isOpen.2.2.2.2 ⟨Nat.le_of_ble_eq_true rfl, Nat.le_of_ble_eq_true rfl⟩ ⟨Nat.le_refl 0, Nat.le_refl 0⟩ (Nat.le_of_ble_eq_true rfl) dX6_mayCome_2) hP (fun H locs hP => ?_)
  refine lv_if_eq (tgt := 23) hx hb dX6_mayCome_5 (by decide) (fun hc2 => ?_) (fun hc2 => ?_)
  · have hf := if_t hc2 hf
    refine lv_iconst (v := nI 0) hx hb dX6_mayCome_23 rfl ?_
    exact r_zret (X := mE Γ) C hP (Or.inl rfl) hf dX6_mayCome_24
  · have hf := if_f hc2 hf
    refine lv_aload_n hx hb dX6_mayCome_8 rfl (lv_at hl 0 rfl) ?_
    refine m_get C hP 5 (by decide) k4_58 rfl (v := .ref (Γ.2.2 (3))) rfl dX6_mayCome_9 ?_
    refine lv_iload_n hx hb dX6_mayCome_12 rfl (lv_at hl 1 rfl) ?_
    refine gi_i hf (fun hi3 hj4 hf => ?_)
    refine m_ild C hP mA_3 hi3 dX6_mayCome_13 ?_
    refine lv_bipush (v := nI 8) hx hb dX6_mayCome_14 rfl ?_
    refine lv_icmp_ge (tgt := 23) hx hb dX6_mayCome_16 (by decide) (fun hc5 => ?_) (fun hc5 => ?_)
    · have hf := if_t hc5 hf
      refine lv_iconst (v := nI 0) hx hb dX6_mayCome_23 rfl ?_
      exact r_zret (X := mE Γ) C hP (Or.inl rfl) hf dX6_mayCome_24
    · have hf := if_f hc5 hf
      refine lv_iconst (v := nI 1) hx hb dX6_mayCome_19 rfl ?_
      refine lv_goto (tgt := 24) hx hb dX6_mayCome_20 (by decide) ?_
      exact r_zret (X := mE Γ) C hP (Or.inr rfl) hf dX6_mayCome_24
-- X6_waitIn
theorem qX6_waitIn : Cond.instanceMethod yX6_waitIn ∈ Ub ∧ Cond.selects RX6 yX6_waitIn yX6_waitIn ∈ Ub ∧ Cond.initialized RX6 ∈ Ub ∧ Cond.code yX6_waitIn cX6_waitIn 4 (some FieldType.int) ∈ Ub ∧ (yX6_waitIn.cls = RX6 ∧ yX6_waitIn.cls ≠ "java/lang/invoke/MethodHandle" ∧ yX6_waitIn.cls ≠ "java/lang/invoke/VarHandle" ∧ (parseMethodDescriptor yX6_waitIn.desc).map (fun d => d.parameters.length) = some 1) := ⟨k5_45, ks_40, k1_5, k5_46, by decide +kernel⟩
def fX6_waitIn_22   : Nat → mM → Int32 → Int32 → Int32 → Option (Int32 × mM)
  | 0, _, _, _, _ => none
  | n + 1, S, x1, x2, x3 =>
    gi x1 5 (if (S.1 3 (x1).toNatClampNeg) ≤ x3 then some (x2, S) else gi (((nI 8) * x1) + x3) 40 (bd (fX6_takesIn S x1 (S.1 6 (((nI 8) * x1) + x3).toNatClampNeg)) fun v9 S9 => ( (fX6_waitIn_22   n) S9 x1 (x2 + v9) (x3 + (nI 1)))))
set_option maxHeartbeats 4000000 in
set_option maxRecDepth 100000 in
theorem wX6_waitIn_22 {p : Program} {l : Launch} {e : Env} {s : State} {m : MethodId} {args : Array Value} {below : List Frame} {meth : Method} {c : Code} {Γ : gG} {rz : Int32} {Sz : mM} (C : Cx Γ 28 p s m args meth c RX6 cX6_waitIn 4 (some .int))   : ∀ n : Nat, ∀ (S : mM) (x1 : Int32) (x2 : Int32) (x3 : Int32) , fX6_waitIn_22   n S x1 x2 x3 = some (rz, Sz) → ∀ (H : Heap) (locs : List Loc) (ls : Array Slot), St Γ 28 (mE Γ S) s.heap H locs → lv_has ls 4 [(0, .ref (Γ.2.2 (0))), (1, .int x1), (2, .int x2), (3, .int x3)] → W p l e { frames := 3, cells := 0, slots := 0, locals := 65 } s m args below meth c H locs 0 0 (MQ below (gQi Γ 28 rz (mE Γ Sz)) args s 0 0 (wA Γ 28)) (F0 m 22 ls []) := by
  obtain ⟨hx, hb, -, -, hown, hts, -, hwx, -⟩ := id C
  intro n
  induction n with
  | zero =>
    intro S x1 x2 x3 hf
    unfold fX6_waitIn_22 at hf
    cases hf
  | succ n ih =>
    intro S x1 x2 x3 hf H locs ls hP hl
    unfold fX6_waitIn_22 at hf
    refine lv_iload_n hx hb dX6_waitIn_22 rfl (lv_at hl 3 rfl) ?_
    refine lv_aload_n hx hb dX6_waitIn_23 rfl (lv_at hl 0 rfl) ?_
    refine m_get C hP 5 (by decide) k4_58 rfl (v := .ref (Γ.2.2 (3))) rfl dX6_waitIn_24 ?_
    refine lv_iload_n hx hb dX6_waitIn_27 rfl (lv_at hl 1 rfl) ?_
    refine gi_i hf (fun hi4 hj5 hf => ?_)
    refine m_ild C hP mA_3 hi4 dX6_waitIn_28 ?_
    refine lv_icmp_ge (tgt := 57) hx hb dX6_waitIn_29 (by decide) (fun hc6 => ?_) (fun hc6 => ?_)
    · have hf := if_t hc6 hf
      refine lv_iload_n hx hb dX6_waitIn_57 rfl (lv_at hl 2 rfl) ?_
      exact r_iret (X := mE Γ) C hP hf dX6_waitIn_58
    · have hf := if_f hc6 hf
      refine lv_iload_n hx hb dX6_waitIn_32 rfl (lv_at hl 2 rfl) ?_
      refine lv_aload_n hx hb dX6_waitIn_33 rfl (lv_at hl 0 rfl) ?_
      refine lv_iload_n hx hb dX6_waitIn_34 rfl (lv_at hl 1 rfl) ?_
      refine lv_aload_n hx hb dX6_waitIn_35 rfl (lv_at hl 0 rfl) ?_
      refine m_get C hP 8 (by decide) k4_61 rfl (v := .ref (Γ.2.2 (6))) rfl dX6_waitIn_36 ?_
      refine lv_bipush (v := nI 8) hx hb dX6_waitIn_39 rfl ?_
      refine lv_iload_n hx hb dX6_waitIn_41 rfl (lv_at hl 1 rfl) ?_
      refine lv_imul hx hb dX6_waitIn_42 ?_
      refine lv_iload_n hx hb dX6_waitIn_43 rfl (lv_at hl 3 rfl) ?_
      refine lv_iadd hx hb dX6_waitIn_44 ?_
      refine gi_i hf (fun hi7 hj8 hf => ?_)
      refine m_ild C hP mA_6 hi7 dX6_waitIn_45 ?_
      refine bd_i hf (fun v9 S9 hq9 hf => ?_)
      refine goI (runV (rest := [.int x2]) (b := 0) (mX6_takesIn l Γ  hq9) C hP hl.1 (by decide) mE0 rfl k5_8 qX6_takesIn.1 qX6_takesIn.2.1 qX6_takesIn.2.2.1 qX6_takesIn.2.2.2.1 rfl qX6_takesIn.2.2.2.2 ⟨Nat.le_of_ble_eq_true rfl, Nat.le_of_ble_eq_true rfl⟩ ⟨Nat.le_refl 0, Nat.le_refl 0⟩ (Nat.le_of_ble_eq_true rfl) dX6_waitIn_46) hP (fun H locs hP => ?_)
      refine lv_iadd hx hb dX6_waitIn_49 ?_
      refine lv_istore_n (lv' := [(2, .int (x2 + v9)), (0, .ref (Γ.2.2 (0))), (1, .int x1), (3, .int x3)]) hx hb dX6_waitIn_50 rfl hl (by decide) rfl (fun ls hl => ?_)
      refine lv_iinc (v := x3 + (nI 1)) (lv' := [(3, .int (x3 + (nI 1))), (2, .int (x2 + v9)), (0, .ref (Γ.2.2 (0))), (1, .int x1)]) hx hb dX6_waitIn_51 hl (k := 3) rfl rfl (by decide) rfl (fun ls hl => ?_)
      refine lv_goto (tgt := 22) hx hb dX6_waitIn_54 (by decide) ?_
      exact ih S9 x1 (x2 + v9) (x3 + (nI 1))  hf _ _ _ hP (lv_sub hl [2, 3, 1, 0] rfl)
def fX6_waitIn_19   (S : mM) (x1 : Int32) (y0 : Int32) : Option (Int32 × mM) :=
  fX6_waitIn_22   lF S x1 y0 (nI 1)
set_option maxHeartbeats 4000000 in
set_option maxRecDepth 100000 in
theorem wX6_waitIn_19 {p : Program} {l : Launch} {e : Env} {s : State} {m : MethodId} {args : Array Value} {below : List Frame} {meth : Method} {c : Code} {Γ : gG} {rz : Int32} {Sz : mM} (C : Cx Γ 28 p s m args meth c RX6 cX6_waitIn 4 (some .int))   : ∀ (S : mM) (x1 : Int32) (y0 : Int32) , fX6_waitIn_19   S x1 y0 = some (rz, Sz) → ∀ (H : Heap) (locs : List Loc) (ls : Array Slot), St Γ 28 (mE Γ S) s.heap H locs → lv_has ls 4 [(0, .ref (Γ.2.2 (0))), (1, .int x1)] → W p l e { frames := 3, cells := 0, slots := 0, locals := 65 } s m args below meth c H locs 0 0 (MQ below (gQi Γ 28 rz (mE Γ Sz)) args s 0 0 (wA Γ 28)) (F0 m 19 ls [.int y0]) := by
  obtain ⟨hx, hb, -, -, hown, hts, -, hwx, -⟩ := id C
  intro S x1 y0 hf H locs ls hP hl
  unfold fX6_waitIn_19 at hf
  refine lv_istore_n (lv' := [(2, .int y0), (0, .ref (Γ.2.2 (0))), (1, .int x1)]) hx hb dX6_waitIn_19 rfl hl (by decide) rfl (fun ls hl => ?_)
  refine lv_iconst (v := nI 1) hx hb dX6_waitIn_20 rfl ?_
  refine lv_istore_n (lv' := [(3, .int (nI 1)), (2, .int y0), (0, .ref (Γ.2.2 (0))), (1, .int x1)]) hx hb dX6_waitIn_21 rfl hl (by decide) rfl (fun ls hl => ?_)
  exact wX6_waitIn_22 C   lF S x1 y0 (nI 1)  hf _ _ _ hP (lv_sub hl [2, 3, 1, 0] rfl)
def fX6_waitIn  (S : mM) (x1 : Int32) : Option (Int32 × mM) :=
  gi x1 5 (if (S.1 3 (x1).toNatClampNeg) ≤ 0 then fX6_waitIn_19    S x1 (nI 0) else gi x1 5 (fX6_waitIn_19    S x1 (S.1 4 (x1).toNatClampNeg)))
set_option maxHeartbeats 4000000 in
set_option maxRecDepth 100000 in
theorem mX6_waitIn (l : Launch) (Γ : gG)   {S : mM} {x1 : Int32} {rz : Int32} {Sz : mM} (hf : fX6_waitIn S x1 = some (rz, Sz)) : CtI l Γ 28 yX6_waitIn cX6_waitIn 4 .int 3 65 [.ref (Γ.2.2 (0)), .int x1] (mE Γ S) rz (mE Γ Sz) := by
  refine met_body (Γ := Γ) (lv := [(0, .ref (Γ.2.2 (0))), (1, .int x1)]) RX6 (by decide) rfl rfl rfl ?_
  intro p e s m below meth c H locs ls C hP hl
  obtain ⟨hx, hb, -, -, hown, hts, -, hwx, -⟩ := id C
  unfold fX6_waitIn at hf
  refine lv_aload_n hx hb dX6_waitIn_0 rfl (lv_at hl 0 rfl) ?_
  refine m_get C hP 5 (by decide) k4_58 rfl (v := .ref (Γ.2.2 (3))) rfl dX6_waitIn_1 ?_
  refine lv_iload_n hx hb dX6_waitIn_4 rfl (lv_at hl 1 rfl) ?_
  refine gi_i hf (fun hi1 hj2 hf => ?_)
  refine m_ild C hP mA_3 hi1 dX6_waitIn_5 ?_
  refine lv_if_le (tgt := 18) hx hb dX6_waitIn_6 (by decide) (fun hc3 => ?_) (fun hc3 => ?_)
  · have hf := if_t hc3 hf
    refine lv_iconst (v := nI 0) hx hb dX6_waitIn_18 rfl ?_
    exact wX6_waitIn_19 C    S x1 (nI 0)  hf _ _ _ hP (lv_sub hl [0, 1] rfl)
  · have hf := if_f hc3 hf
    refine lv_aload_n hx hb dX6_waitIn_9 rfl (lv_at hl 0 rfl) ?_
    refine m_get C hP 6 (by decide) k4_59 rfl (v := .ref (Γ.2.2 (4))) rfl dX6_waitIn_10 ?_
    refine lv_iload_n hx hb dX6_waitIn_13 rfl (lv_at hl 1 rfl) ?_
    refine gi_i hf (fun hi10 hj11 hf => ?_)
    refine m_ild C hP mA_4 hi10 dX6_waitIn_14 ?_
    refine lv_goto (tgt := 19) hx hb dX6_waitIn_15 (by decide) ?_
    exact wX6_waitIn_19 C    S x1 (S.1 4 (x1).toNatClampNeg)  hf _ _ _ hP (lv_sub hl [0, 1] rfl)
-- X6_seemsIn
theorem qX6_seemsIn : Cond.instanceMethod yX6_seemsIn ∈ Ub ∧ Cond.selects RX6 yX6_seemsIn yX6_seemsIn ∈ Ub ∧ Cond.initialized RX6 ∈ Ub ∧ Cond.code yX6_seemsIn cX6_seemsIn 5 (some FieldType.int) ∈ Ub ∧ (yX6_seemsIn.cls = RX6 ∧ yX6_seemsIn.cls ≠ "java/lang/invoke/MethodHandle" ∧ yX6_seemsIn.cls ≠ "java/lang/invoke/VarHandle" ∧ (parseMethodDescriptor yX6_seemsIn.desc).map (fun d => d.parameters.length) = some 1) := ⟨k5_53, ks_42, k1_5, k5_54, by decide +kernel⟩
def fX6_seemsIn_11   : Nat → mM → Int32 → Int32 → Int32 → Int32 → Option (Int32 × mM)
  | 0, _, _, _, _, _ => none
  | n + 1, S, x1, x2, x3, x4 =>
    if x3 ≤ x4 then some (x2, S) else gi (((nI 8) * x1) + x4) 40 (bd (fX6_plainTakes S (S.1 6 (((nI 8) * x1) + x4).toNatClampNeg)) fun v5 S5 => ( (fX6_seemsIn_11   n) S5 x1 (x2 + v5) x3 (x4 + (nI 1))))
set_option maxHeartbeats 4000000 in
set_option maxRecDepth 100000 in
theorem wX6_seemsIn_11 {p : Program} {l : Launch} {e : Env} {s : State} {m : MethodId} {args : Array Value} {below : List Frame} {meth : Method} {c : Code} {Γ : gG} {rz : Int32} {Sz : mM} (C : Cx Γ 28 p s m args meth c RX6 cX6_seemsIn 5 (some .int))   : ∀ n : Nat, ∀ (S : mM) (x1 : Int32) (x2 : Int32) (x3 : Int32) (x4 : Int32) , fX6_seemsIn_11   n S x1 x2 x3 x4 = some (rz, Sz) → ∀ (H : Heap) (locs : List Loc) (ls : Array Slot), St Γ 28 (mE Γ S) s.heap H locs → lv_has ls 5 [(0, .ref (Γ.2.2 (0))), (1, .int x1), (2, .int x2), (3, .int x3), (4, .int x4)] → W p l e { frames := 1, cells := 0, slots := 0, locals := 23 } s m args below meth c H locs 0 0 (MQ below (gQi Γ 28 rz (mE Γ Sz)) args s 0 0 (wA Γ 28)) (F0 m 11 ls []) := by
  obtain ⟨hx, hb, -, -, hown, hts, -, hwx, -⟩ := id C
  intro n
  induction n with
  | zero =>
    intro S x1 x2 x3 x4 hf
    unfold fX6_seemsIn_11 at hf
    cases hf
  | succ n ih =>
    intro S x1 x2 x3 x4 hf H locs ls hP hl
    unfold fX6_seemsIn_11 at hf
    refine lv_iload hx hb dX6_seemsIn_11 (lv_at hl 4 rfl) ?_
    refine lv_iload_n hx hb dX6_seemsIn_13 rfl (lv_at hl 3 rfl) ?_
    refine lv_icmp_ge (tgt := 41) hx hb dX6_seemsIn_14 (by decide) (fun hc2 => ?_) (fun hc2 => ?_)
    · have hf := if_t hc2 hf
      refine lv_iload_n hx hb dX6_seemsIn_41 rfl (lv_at hl 2 rfl) ?_
      exact r_iret (X := mE Γ) C hP hf dX6_seemsIn_42
    · have hf := if_f hc2 hf
      refine lv_iload_n hx hb dX6_seemsIn_17 rfl (lv_at hl 2 rfl) ?_
      refine lv_aload_n hx hb dX6_seemsIn_18 rfl (lv_at hl 0 rfl) ?_
      refine m_get C hP 8 (by decide) k4_61 rfl (v := .ref (Γ.2.2 (6))) rfl dX6_seemsIn_19 ?_
      refine lv_bipush (v := nI 8) hx hb dX6_seemsIn_22 rfl ?_
      refine lv_iload_n hx hb dX6_seemsIn_24 rfl (lv_at hl 1 rfl) ?_
      refine lv_imul hx hb dX6_seemsIn_25 ?_
      refine lv_iload hx hb dX6_seemsIn_26 (lv_at hl 4 rfl) ?_
      refine lv_iadd hx hb dX6_seemsIn_28 ?_
      refine gi_i hf (fun hi3 hj4 hf => ?_)
      refine m_ild C hP mA_6 hi3 dX6_seemsIn_29 ?_
      refine bd_i hf (fun v5 S5 hq5 hf => ?_)
      refine goI (runS (rest := [.int x2]) (mX6_plainTakes l Γ  hq5) C hP hl.1 k5_15 qX6_plainTakes.1 qX6_plainTakes.2.1 qX6_plainTakes.2.2.1 rfl qX6_plainTakes.2.2.2 ⟨Nat.le_of_ble_eq_true rfl, Nat.le_of_ble_eq_true rfl⟩ ⟨Nat.le_refl 0, Nat.le_refl 0⟩ (Nat.le_of_ble_eq_true rfl) dX6_seemsIn_30) hP (fun H locs hP => ?_)
      refine lv_iadd hx hb dX6_seemsIn_33 ?_
      refine lv_istore_n (lv' := [(2, .int (x2 + v5)), (0, .ref (Γ.2.2 (0))), (1, .int x1), (3, .int x3), (4, .int x4)]) hx hb dX6_seemsIn_34 rfl hl (by decide) rfl (fun ls hl => ?_)
      refine lv_iinc (v := x4 + (nI 1)) (lv' := [(4, .int (x4 + (nI 1))), (2, .int (x2 + v5)), (0, .ref (Γ.2.2 (0))), (1, .int x1), (3, .int x3)]) hx hb dX6_seemsIn_35 hl (k := 4) rfl rfl (by decide) rfl (fun ls hl => ?_)
      refine lv_goto (tgt := 11) hx hb dX6_seemsIn_38 (by decide) ?_
      exact ih S5 x1 (x2 + v5) x3 (x4 + (nI 1))  hf _ _ _ hP (lv_sub hl [2, 3, 1, 4, 0] rfl)
def fX6_seemsIn  (S : mM) (x1 : Int32) : Option (Int32 × mM) :=
  bd (fX6_seenIn S x1) fun v1 S1 => ( fX6_seemsIn_11   lF S1 x1 (nI 0) v1 (nI 0))
set_option maxHeartbeats 4000000 in
set_option maxRecDepth 100000 in
theorem mX6_seemsIn (l : Launch) (Γ : gG)   {S : mM} {x1 : Int32} {rz : Int32} {Sz : mM} (hf : fX6_seemsIn S x1 = some (rz, Sz)) : CtI l Γ 28 yX6_seemsIn cX6_seemsIn 5 .int 1 23 [.ref (Γ.2.2 (0)), .int x1] (mE Γ S) rz (mE Γ Sz) := by
  refine met_body (Γ := Γ) (lv := [(0, .ref (Γ.2.2 (0))), (1, .int x1)]) RX6 (by decide) rfl rfl rfl ?_
  intro p e s m below meth c H locs ls C hP hl
  obtain ⟨hx, hb, -, -, hown, hts, -, hwx, -⟩ := id C
  unfold fX6_seemsIn at hf
  refine lv_iconst (v := nI 0) hx hb dX6_seemsIn_0 rfl ?_
  refine lv_istore_n (lv' := [(2, .int (nI 0)), (0, .ref (Γ.2.2 (0))), (1, .int x1)]) hx hb dX6_seemsIn_1 rfl hl (by decide) rfl (fun ls hl => ?_)
  refine lv_aload_n hx hb dX6_seemsIn_2 rfl (lv_at hl 1 rfl) ?_
  refine lv_iload_n hx hb dX6_seemsIn_3 rfl (lv_at hl 2 rfl) ?_
  refine bd_i hf (fun v1 S1 hq1 hf => ?_)
  refine goI (runV (rest := []) (b := 0) (mX6_seenIn l Γ  hq1) C hP hl.1 (by decide) mE0 rfl k5_47 qX6_seenIn.1 qX6_seenIn.2.1 qX6_seenIn.2.2.1 qX6_seenIn.2.2.2.1 rfl qX6_seenIn.2.2.2.2 ⟨Nat.le_of_ble_eq_true rfl, Nat.le_of_ble_eq_true rfl⟩ ⟨Nat.le_refl 0, Nat.le_refl 0⟩ (Nat.le_of_ble_eq_true rfl) dX6_seemsIn_4) hP (fun H locs hP => ?_)
  refine lv_istore_n (lv' := [(3, .int v1), (2, .int (nI 0)), (0, .ref (Γ.2.2 (0))), (1, .int x1)]) hx hb dX6_seemsIn_7 rfl hl (by decide) rfl (fun ls hl => ?_)
  refine lv_iconst (v := nI 0) hx hb dX6_seemsIn_8 rfl ?_
  refine lv_istore (lv' := [(4, .int (nI 0)), (3, .int v1), (2, .int (nI 0)), (0, .ref (Γ.2.2 (0))), (1, .int x1)]) hx hb dX6_seemsIn_9 hl (by decide) rfl (fun ls hl => ?_)
  exact wX6_seemsIn_11 C   lF S1 x1 (nI 0) v1 (nI 0)  hf _ _ _ hP (lv_sub hl [3, 4, 2, 1, 0] rfl)
-- X6_timeIn
theorem qX6_timeIn : Cond.instanceMethod yX6_timeIn ∈ Ub ∧ Cond.selects RX6 yX6_timeIn yX6_timeIn ∈ Ub ∧ Cond.initialized RX6 ∈ Ub ∧ Cond.code yX6_timeIn cX6_timeIn 3 (some FieldType.int) ∈ Ub ∧ (yX6_timeIn.cls = RX6 ∧ yX6_timeIn.cls ≠ "java/lang/invoke/MethodHandle" ∧ yX6_timeIn.cls ≠ "java/lang/invoke/VarHandle" ∧ (parseMethodDescriptor yX6_timeIn.desc).map (fun d => d.parameters.length) = some 2) := ⟨k5_81, ks_45, k1_5, k5_82, by decide +kernel⟩
def fX6_timeIn  (S : mM) (x1 : Int32) (x2 : Int32) : Option (Int32 × mM) :=
  bd (fX6_waitIn S x1) fun v1 S1 => ( bd (fX6_takesIn S1 x1 x2) fun v2 S2 => ( some (v1 + v2, S2)))
set_option maxHeartbeats 4000000 in
set_option maxRecDepth 100000 in
theorem mX6_timeIn (l : Launch) (Γ : gG)   {S : mM} {x1 : Int32} {x2 : Int32} {rz : Int32} {Sz : mM} (hf : fX6_timeIn S x1 x2 = some (rz, Sz)) : CtI l Γ 28 yX6_timeIn cX6_timeIn 3 .int 4 88 [.ref (Γ.2.2 (0)), .int x1, .int x2] (mE Γ S) rz (mE Γ Sz) := by
  refine met_body (Γ := Γ) (lv := [(0, .ref (Γ.2.2 (0))), (1, .int x1), (2, .int x2)]) RX6 (by decide) rfl rfl rfl ?_
  intro p e s m below meth c H locs ls C hP hl
  obtain ⟨hx, hb, -, -, hown, hts, -, hwx, -⟩ := id C
  unfold fX6_timeIn at hf
  refine lv_aload_n hx hb dX6_timeIn_0 rfl (lv_at hl 0 rfl) ?_
  refine lv_iload_n hx hb dX6_timeIn_1 rfl (lv_at hl 1 rfl) ?_
  refine bd_i hf (fun v1 S1 hq1 hf => ?_)
  refine goI (runV (rest := []) (b := 0) (mX6_waitIn l Γ  hq1) C hP hl.1 (by decide) mE0 rfl k5_43 qX6_waitIn.1 qX6_waitIn.2.1 qX6_waitIn.2.2.1 qX6_waitIn.2.2.2.1 rfl qX6_waitIn.2.2.2.2 ⟨Nat.le_of_ble_eq_true rfl, Nat.le_of_ble_eq_true rfl⟩ ⟨Nat.le_refl 0, Nat.le_refl 0⟩ (Nat.le_of_ble_eq_true rfl) dX6_timeIn_2) hP (fun H locs hP => ?_)
  refine lv_aload_n hx hb dX6_timeIn_5 rfl (lv_at hl 0 rfl) ?_
  refine lv_iload_n hx hb dX6_timeIn_6 rfl (lv_at hl 1 rfl) ?_
  refine lv_iload_n hx hb dX6_timeIn_7 rfl (lv_at hl 2 rfl) ?_
  refine bd_i hf (fun v2 S2 hq2 hf => ?_)
  refine goI (runV (rest := [.int v1]) (b := 0) (mX6_takesIn l Γ  hq2) C hP hl.1 (by decide) mE0 rfl k5_8 qX6_takesIn.1 qX6_takesIn.2.1 qX6_takesIn.2.2.1 qX6_takesIn.2.2.2.1 rfl qX6_takesIn.2.2.2.2 ⟨Nat.le_of_ble_eq_true rfl, Nat.le_of_ble_eq_true rfl⟩ ⟨Nat.le_refl 0, Nat.le_refl 0⟩ (Nat.le_of_ble_eq_true rfl) dX6_timeIn_8) hP (fun H locs hP => ?_)
  refine lv_iadd hx hb dX6_timeIn_11 ?_
  exact r_iret (X := mE Γ) C hP hf dX6_timeIn_12
-- X6_comeIn
theorem qX6_comeIn : Cond.instanceMethod yX6_comeIn ∈ Ub ∧ Cond.selects RX6 yX6_comeIn yX6_comeIn ∈ Ub ∧ Cond.initialized RX6 ∈ Ub ∧ Cond.code yX6_comeIn cX6_comeIn 3 (none : Option Jvm.ClassFile.FieldType) ∈ Ub ∧ (yX6_comeIn.cls = RX6 ∧ yX6_comeIn.cls ≠ "java/lang/invoke/MethodHandle" ∧ yX6_comeIn.cls ≠ "java/lang/invoke/VarHandle" ∧ (parseMethodDescriptor yX6_comeIn.desc).map (fun d => d.parameters.length) = some 2) := ⟨k5_6, ks_33, k1_5, k5_7, by decide +kernel⟩
def fX6_comeIn_29   (S : mM) (x1 : Int32) (x2 : Int32) (y1 : Int32) (y2 : Int32) : Option mM :=
  gi y1 5 (sv (mS S 4 ((y1).toNatClampNeg) y2) fun S8 => ( gi x1 5 (gi (((nI 8) * x1) + (S8.1 3 (x1).toNatClampNeg)) 40 (sv (mS S8 6 ((((nI 8) * x1) + (S8.1 3 (x1).toNatClampNeg)).toNatClampNeg) x2) fun S13 => ( gi x1 5 (gi x1 5 (sv (mS S13 3 ((x1).toNatClampNeg) ((S13.1 3 (x1).toNatClampNeg) + (nI 1))) fun S18 => ( some S18))))))))
set_option maxHeartbeats 4000000 in
set_option maxRecDepth 100000 in
theorem wX6_comeIn_29 {p : Program} {l : Launch} {e : Env} {s : State} {m : MethodId} {args : Array Value} {below : List Frame} {meth : Method} {c : Code} {Γ : gG} {Sz : mM} (C : Cx Γ 28 p s m args meth c RX6 cX6_comeIn 3 none)   : ∀ (S : mM) (x1 : Int32) (x2 : Int32) (y1 : Int32) (y2 : Int32) , fX6_comeIn_29   S x1 x2 y1 y2 = some Sz → ∀ (H : Heap) (locs : List Loc) (ls : Array Slot), St Γ 28 (mE Γ S) s.heap H locs → lv_has ls 3 [(0, .ref (Γ.2.2 (0))), (1, .int x1), (2, .int x2)] → W p l e { frames := 3, cells := 0, slots := 0, locals := 65 } s m args below meth c H locs 0 0 (MQ below (gQv Γ 28 (mE Γ Sz)) args s 0 0 (wA Γ 28)) (F0 m 29 ls [.int y2, .int y1, .ref (Γ.2.2 (4))]) := by
  obtain ⟨hx, hb, -, -, hown, hts, -, hwx, -⟩ := id C
  intro S x1 x2 y1 y2 hf H locs ls hP hl
  unfold fX6_comeIn_29 at hf
  refine gi_i hf (fun hi6 hj7 hf => ?_)
  refine m_ist C hP mA_4 hi6 dX6_comeIn_29 (fun H locs hP => ?_)
  refine sv_i hf (fun S8 e8 hf => ?_)
  rw [← e8] at hP
  refine lv_aload_n hx hb dX6_comeIn_30 rfl (lv_at hl 0 rfl) ?_
  refine m_get C hP 8 (by decide) k4_61 rfl (v := .ref (Γ.2.2 (6))) rfl dX6_comeIn_31 ?_
  refine lv_bipush (v := nI 8) hx hb dX6_comeIn_34 rfl ?_
  refine lv_iload_n hx hb dX6_comeIn_36 rfl (lv_at hl 1 rfl) ?_
  refine lv_imul hx hb dX6_comeIn_37 ?_
  refine lv_aload_n hx hb dX6_comeIn_38 rfl (lv_at hl 0 rfl) ?_
  refine m_get C hP 5 (by decide) k4_58 rfl (v := .ref (Γ.2.2 (3))) rfl dX6_comeIn_39 ?_
  refine lv_iload_n hx hb dX6_comeIn_42 rfl (lv_at hl 1 rfl) ?_
  refine gi_i hf (fun hi9 hj10 hf => ?_)
  refine m_ild C hP mA_3 hi9 dX6_comeIn_43 ?_
  refine lv_iadd hx hb dX6_comeIn_44 ?_
  refine lv_iload_n hx hb dX6_comeIn_45 rfl (lv_at hl 2 rfl) ?_
  refine gi_i hf (fun hi11 hj12 hf => ?_)
  refine m_ist C hP mA_6 hi11 dX6_comeIn_46 (fun H locs hP => ?_)
  refine sv_i hf (fun S13 e13 hf => ?_)
  rw [← e13] at hP
  refine lv_aload_n hx hb dX6_comeIn_47 rfl (lv_at hl 0 rfl) ?_
  refine m_get C hP 5 (by decide) k4_58 rfl (v := .ref (Γ.2.2 (3))) rfl dX6_comeIn_48 ?_
  refine lv_iload_n hx hb dX6_comeIn_51 rfl (lv_at hl 1 rfl) ?_
  refine lv_dup2_11 hx hb dX6_comeIn_52 rfl rfl ?_
  refine gi_i hf (fun hi14 hj15 hf => ?_)
  refine m_ild C hP mA_3 hi14 dX6_comeIn_53 ?_
  refine lv_iconst (v := nI 1) hx hb dX6_comeIn_54 rfl ?_
  refine lv_iadd hx hb dX6_comeIn_55 ?_
  refine gi_i hf (fun hi16 hj17 hf => ?_)
  refine m_ist C hP mA_3 hi16 dX6_comeIn_56 (fun H locs hP => ?_)
  refine sv_i hf (fun S18 e18 hf => ?_)
  rw [← e18] at hP
  exact r_vret (X := mE Γ) C hP hf dX6_comeIn_57
def fX6_comeIn  (S : mM) (x1 : Int32) (x2 : Int32) : Option mM :=
  gi x1 5 (if (S.1 3 (x1).toNatClampNeg) = 0 then bd (fX6_takesIn S x1 x2) fun v19 S19 => ( fX6_comeIn_29    S19 x1 x2 x1 v19) else gi x1 5 (fX6_comeIn_29    S x1 x2 x1 (S.1 4 (x1).toNatClampNeg)))
set_option maxHeartbeats 4000000 in
set_option maxRecDepth 100000 in
theorem mX6_comeIn (l : Launch) (Γ : gG)   {S : mM} {x1 : Int32} {x2 : Int32} {Sz : mM} (hf : fX6_comeIn S x1 x2 = some Sz) : CtV l Γ 28 yX6_comeIn cX6_comeIn 3 3 65 [.ref (Γ.2.2 (0)), .int x1, .int x2] (mE Γ S) (mE Γ Sz) := by
  refine met_body (Γ := Γ) (lv := [(0, .ref (Γ.2.2 (0))), (1, .int x1), (2, .int x2)]) RX6 (by decide) rfl rfl rfl ?_
  intro p e s m below meth c H locs ls C hP hl
  obtain ⟨hx, hb, -, -, hown, hts, -, hwx, -⟩ := id C
  unfold fX6_comeIn at hf
  refine lv_aload_n hx hb dX6_comeIn_0 rfl (lv_at hl 0 rfl) ?_
  refine m_get C hP 6 (by decide) k4_59 rfl (v := .ref (Γ.2.2 (4))) rfl dX6_comeIn_1 ?_
  refine lv_iload_n hx hb dX6_comeIn_4 rfl (lv_at hl 1 rfl) ?_
  refine lv_aload_n hx hb dX6_comeIn_5 rfl (lv_at hl 0 rfl) ?_
  refine m_get C hP 5 (by decide) k4_58 rfl (v := .ref (Γ.2.2 (3))) rfl dX6_comeIn_6 ?_
  refine lv_iload_n hx hb dX6_comeIn_9 rfl (lv_at hl 1 rfl) ?_
  refine gi_i hf (fun hi1 hj2 hf => ?_)
  refine m_ild C hP mA_3 hi1 dX6_comeIn_10 ?_
  refine lv_if_ne (tgt := 23) hx hb dX6_comeIn_11 (by decide) (fun hc3 => ?_) (fun hc3 => ?_)
  · have hf := if_f hc3 hf
    refine lv_aload_n hx hb dX6_comeIn_23 rfl (lv_at hl 0 rfl) ?_
    refine m_get C hP 6 (by decide) k4_59 rfl (v := .ref (Γ.2.2 (4))) rfl dX6_comeIn_24 ?_
    refine lv_iload_n hx hb dX6_comeIn_27 rfl (lv_at hl 1 rfl) ?_
    refine gi_i hf (fun hi4 hj5 hf => ?_)
    refine m_ild C hP mA_4 hi4 dX6_comeIn_28 ?_
    exact wX6_comeIn_29 C    S x1 x2 x1 (S.1 4 (x1).toNatClampNeg)  hf _ _ _ hP (lv_sub hl [0, 1, 2] rfl)
  · have hf := if_t hc3 hf
    refine lv_aload_n hx hb dX6_comeIn_14 rfl (lv_at hl 0 rfl) ?_
    refine lv_iload_n hx hb dX6_comeIn_15 rfl (lv_at hl 1 rfl) ?_
    refine lv_iload_n hx hb dX6_comeIn_16 rfl (lv_at hl 2 rfl) ?_
    refine bd_i hf (fun v19 S19 hq19 hf => ?_)
    refine goI (runV (rest := [.int x1, .ref (Γ.2.2 (4))]) (b := 0) (mX6_takesIn l Γ  hq19) C hP hl.1 (by decide) mE0 rfl k5_8 qX6_takesIn.1 qX6_takesIn.2.1 qX6_takesIn.2.2.1 qX6_takesIn.2.2.2.1 rfl qX6_takesIn.2.2.2.2 ⟨Nat.le_of_ble_eq_true rfl, Nat.le_of_ble_eq_true rfl⟩ ⟨Nat.le_refl 0, Nat.le_refl 0⟩ (Nat.le_of_ble_eq_true rfl) dX6_comeIn_17) hP (fun H locs hP => ?_)
    refine lv_goto (tgt := 29) hx hb dX6_comeIn_20 (by decide) ?_
    exact wX6_comeIn_29 C    S19 x1 x2 x1 v19  hf _ _ _ hP (lv_sub hl [0, 1, 2] rfl)
-- X6_drop
theorem qX6_drop : Cond.instanceMethod yX6_drop ∈ Ub ∧ Cond.selects RX6 yX6_drop yX6_drop ∈ Ub ∧ Cond.initialized RX6 ∈ Ub ∧ Cond.code yX6_drop cX6_drop 4 (none : Option Jvm.ClassFile.FieldType) ∈ Ub ∧ (yX6_drop.cls = RX6 ∧ yX6_drop.cls ≠ "java/lang/invoke/MethodHandle" ∧ yX6_drop.cls ≠ "java/lang/invoke/VarHandle" ∧ (parseMethodDescriptor yX6_drop.desc).map (fun d => d.parameters.length) = some 2) := ⟨k5_28, ks_37, k1_5, k5_29, by decide +kernel⟩
def fX6_drop_2   : Nat → mM → Int32 → Int32 → Option mM
  | 0, _, _, _ => none
  | n + 1, S, x1, x3 =>
    gi x1 5 (if (S.1 3 (x1).toNatClampNeg) ≤ (x3 + (nI 1)) then gi x1 5 (gi x1 5 (sv (mS S 3 ((x1).toNatClampNeg) ((S.1 3 (x1).toNatClampNeg) - (nI 1))) fun S8 => ( some S8))) else gi ((((nI 8) * x1) + x3) + (nI 1)) 40 (gi (((nI 8) * x1) + x3) 40 (sv (mS S 6 ((((nI 8) * x1) + x3).toNatClampNeg) (S.1 6 ((((nI 8) * x1) + x3) + (nI 1)).toNatClampNeg)) fun S13 => ( (fX6_drop_2   n) S13 x1 (x3 + (nI 1))))))
set_option maxHeartbeats 4000000 in
set_option maxRecDepth 100000 in
theorem wX6_drop_2 {p : Program} {l : Launch} {e : Env} {s : State} {m : MethodId} {args : Array Value} {below : List Frame} {meth : Method} {c : Code} {Γ : gG} {Sz : mM} (C : Cx Γ 28 p s m args meth c RX6 cX6_drop 4 none)   : ∀ n : Nat, ∀ (S : mM) (x1 : Int32) (x3 : Int32) , fX6_drop_2   n S x1 x3 = some Sz → ∀ (H : Heap) (locs : List Loc) (ls : Array Slot), St Γ 28 (mE Γ S) s.heap H locs → lv_has ls 4 [(0, .ref (Γ.2.2 (0))), (1, .int x1), (3, .int x3)] → W p l e { frames := 0, cells := 0, slots := 0, locals := 0 } s m args below meth c H locs 0 0 (MQ below (gQv Γ 28 (mE Γ Sz)) args s 0 0 (wA Γ 28)) (F0 m 2 ls []) := by
  obtain ⟨hx, hb, -, -, hown, hts, -, hwx, -⟩ := id C
  intro n
  induction n with
  | zero =>
    intro S x1 x3 hf
    unfold fX6_drop_2 at hf
    cases hf
  | succ n ih =>
    intro S x1 x3 hf H locs ls hP hl
    unfold fX6_drop_2 at hf
    refine lv_iload_n hx hb dX6_drop_2 rfl (lv_at hl 2 rfl) ?_
    refine lv_iconst (v := nI 1) hx hb dX6_drop_3 rfl ?_
    refine lv_iadd hx hb dX6_drop_4 ?_
    refine lv_aload_n hx hb dX6_drop_5 rfl (lv_at hl 0 rfl) ?_
    refine m_get C hP 5 (by decide) k4_58 rfl (v := .ref (Γ.2.2 (3))) rfl dX6_drop_6 ?_
    refine lv_iload_n hx hb dX6_drop_9 rfl (lv_at hl 1 rfl) ?_
    refine gi_i hf (fun hi1 hj2 hf => ?_)
    refine m_ild C hP mA_3 hi1 dX6_drop_10 ?_
    refine lv_icmp_ge (tgt := 44) hx hb dX6_drop_11 (by decide) (fun hc3 => ?_) (fun hc3 => ?_)
    · have hf := if_t hc3 hf
      refine lv_aload_n hx hb dX6_drop_44 rfl (lv_at hl 0 rfl) ?_
      refine m_get C hP 5 (by decide) k4_58 rfl (v := .ref (Γ.2.2 (3))) rfl dX6_drop_45 ?_
      refine lv_iload_n hx hb dX6_drop_48 rfl (lv_at hl 1 rfl) ?_
      refine lv_dup2_11 hx hb dX6_drop_49 rfl rfl ?_
      refine gi_i hf (fun hi4 hj5 hf => ?_)
      refine m_ild C hP mA_3 hi4 dX6_drop_50 ?_
      refine lv_iconst (v := nI 1) hx hb dX6_drop_51 rfl ?_
      refine lv_isub hx hb dX6_drop_52 ?_
      refine gi_i hf (fun hi6 hj7 hf => ?_)
      refine m_ist C hP mA_3 hi6 dX6_drop_53 (fun H locs hP => ?_)
      refine sv_i hf (fun S8 e8 hf => ?_)
      rw [← e8] at hP
      exact r_vret (X := mE Γ) C hP hf dX6_drop_54
    · have hf := if_f hc3 hf
      refine lv_aload_n hx hb dX6_drop_14 rfl (lv_at hl 0 rfl) ?_
      refine m_get C hP 8 (by decide) k4_61 rfl (v := .ref (Γ.2.2 (6))) rfl dX6_drop_15 ?_
      refine lv_bipush (v := nI 8) hx hb dX6_drop_18 rfl ?_
      refine lv_iload_n hx hb dX6_drop_20 rfl (lv_at hl 1 rfl) ?_
      refine lv_imul hx hb dX6_drop_21 ?_
      refine lv_iload_n hx hb dX6_drop_22 rfl (lv_at hl 2 rfl) ?_
      refine lv_iadd hx hb dX6_drop_23 ?_
      refine lv_aload_n hx hb dX6_drop_24 rfl (lv_at hl 0 rfl) ?_
      refine m_get C hP 8 (by decide) k4_61 rfl (v := .ref (Γ.2.2 (6))) rfl dX6_drop_25 ?_
      refine lv_bipush (v := nI 8) hx hb dX6_drop_28 rfl ?_
      refine lv_iload_n hx hb dX6_drop_30 rfl (lv_at hl 1 rfl) ?_
      refine lv_imul hx hb dX6_drop_31 ?_
      refine lv_iload_n hx hb dX6_drop_32 rfl (lv_at hl 2 rfl) ?_
      refine lv_iadd hx hb dX6_drop_33 ?_
      refine lv_iconst (v := nI 1) hx hb dX6_drop_34 rfl ?_
      refine lv_iadd hx hb dX6_drop_35 ?_
      refine gi_i hf (fun hi9 hj10 hf => ?_)
      refine m_ild C hP mA_6 hi9 dX6_drop_36 ?_
      refine gi_i hf (fun hi11 hj12 hf => ?_)
      refine m_ist C hP mA_6 hi11 dX6_drop_37 (fun H locs hP => ?_)
      refine sv_i hf (fun S13 e13 hf => ?_)
      rw [← e13] at hP
      refine lv_iinc (v := x3 + (nI 1)) (lv' := [(3, .int (x3 + (nI 1))), (0, .ref (Γ.2.2 (0))), (1, .int x1)]) hx hb dX6_drop_38 hl (k := 2) rfl rfl (by decide) rfl (fun ls hl => ?_)
      refine lv_goto (tgt := 2) hx hb dX6_drop_41 (by decide) ?_
      exact ih S13 x1 (x3 + (nI 1))  hf _ _ _ hP (lv_sub hl [1, 2, 0] rfl)
def fX6_drop  (S : mM) (x1 : Int32) (x2 : Int32) : Option mM :=
  fX6_drop_2   lF S x1 x2
set_option maxHeartbeats 4000000 in
set_option maxRecDepth 100000 in
theorem mX6_drop (l : Launch) (Γ : gG)   {S : mM} {x1 : Int32} {x2 : Int32} {Sz : mM} (hf : fX6_drop S x1 x2 = some Sz) : CtV l Γ 28 yX6_drop cX6_drop 4 0 0 [.ref (Γ.2.2 (0)), .int x1, .int x2] (mE Γ S) (mE Γ Sz) := by
  refine met_body (Γ := Γ) (lv := [(0, .ref (Γ.2.2 (0))), (1, .int x1), (2, .int x2)]) RX6 (by decide) rfl rfl rfl ?_
  intro p e s m below meth c H locs ls C hP hl
  obtain ⟨hx, hb, -, -, hown, hts, -, hwx, -⟩ := id C
  unfold fX6_drop at hf
  refine lv_iload_n hx hb dX6_drop_0 rfl (lv_at hl 2 rfl) ?_
  refine lv_istore_n (lv' := [(3, .int x2), (0, .ref (Γ.2.2 (0))), (1, .int x1), (2, .int x2)]) hx hb dX6_drop_1 rfl hl (by decide) rfl (fun ls hl => ?_)
  exact wX6_drop_2 C   lF S x1 x2  hf _ _ _ hP (lv_sub hl [1, 2, 0] rfl)
-- X6_minuteOn
theorem qX6_minuteOn : Cond.instanceMethod yX6_minuteOn ∈ Ub ∧ Cond.selects RX6 yX6_minuteOn yX6_minuteOn ∈ Ub ∧ Cond.initialized RX6 ∈ Ub ∧ Cond.code yX6_minuteOn cX6_minuteOn 3 (some FieldType.int) ∈ Ub ∧ (yX6_minuteOn.cls = RX6 ∧ yX6_minuteOn.cls ≠ "java/lang/invoke/MethodHandle" ∧ yX6_minuteOn.cls ≠ "java/lang/invoke/VarHandle" ∧ (parseMethodDescriptor yX6_minuteOn.desc).map (fun d => d.parameters.length) = some 0) := ⟨k5_24, ks_36, k1_5, k5_25, by decide +kernel⟩
def fX6_minuteOn_116  (K14 : mM → Int32 → Int32 → Option (Int32 × mM)) (S : mM) (x1 : Int32) (x2 : Int32) : Option (Int32 × mM) :=
  K14 S x1 (x2 + (nI 1))
set_option maxHeartbeats 4000000 in
set_option maxRecDepth 100000 in
theorem wX6_minuteOn_116 {p : Program} {l : Launch} {e : Env} {s : State} {m : MethodId} {args : Array Value} {below : List Frame} {meth : Method} {c : Code} {Γ : gG} {rz : Int32} {Sz : mM} (C : Cx Γ 28 p s m args meth c RX6 cX6_minuteOn 3 (some .int))  {K14 : mM → Int32 → Int32 → Option (Int32 × mM)} (hK14 : ∀ (S : mM) (x1 : Int32) (x2 : Int32) , K14 S x1 x2 = some (rz, Sz) → ∀ (H : Heap) (locs : List Loc) (ls : Array Slot), St Γ 28 (mE Γ S) s.heap H locs → lv_has ls 3 [(0, .ref (Γ.2.2 (0))), (1, .int x1), (2, .int x2)] → W p l e { frames := 3, cells := 0, slots := 0, locals := 65 } s m args below meth c H locs 0 0 (MQ below (gQi Γ 28 rz (mE Γ Sz)) args s 0 0 (wA Γ 28)) (F0 m 14 ls [])) : ∀ (S : mM) (x1 : Int32) (x2 : Int32) , fX6_minuteOn_116  K14 S x1 x2 = some (rz, Sz) → ∀ (H : Heap) (locs : List Loc) (ls : Array Slot), St Γ 28 (mE Γ S) s.heap H locs → lv_has ls 3 [(0, .ref (Γ.2.2 (0))), (1, .int x1), (2, .int x2)] → W p l e { frames := 3, cells := 0, slots := 0, locals := 65 } s m args below meth c H locs 0 0 (MQ below (gQi Γ 28 rz (mE Γ Sz)) args s 0 0 (wA Γ 28)) (F0 m 116 ls []) := by
  obtain ⟨hx, hb, -, -, hown, hts, -, hwx, -⟩ := id C
  intro S x1 x2 hf H locs ls hP hl
  unfold fX6_minuteOn_116 at hf
  refine lv_iinc (v := x2 + (nI 1)) (lv' := [(2, .int (x2 + (nI 1))), (0, .ref (Γ.2.2 (0))), (1, .int x1)]) hx hb dX6_minuteOn_116 hl (k := 2) rfl rfl (by decide) rfl (fun ls hl => ?_)
  refine lv_goto (tgt := 14) hx hb dX6_minuteOn_119 (by decide) ?_
  exact hK14 S x1 (x2 + (nI 1))  hf _ _ _ hP (lv_sub hl [1, 2, 0] rfl)
def fX6_minuteOn_95  (K14 : mM → Int32 → Int32 → Option (Int32 × mM)) (S : mM) (x1 : Int32) (x2 : Int32) (y1 : Int32) (y2 : Int32) : Option (Int32 × mM) :=
  gi y1 5 (sv (mS S 4 ((y1).toNatClampNeg) y2) fun S24 => ( gi x2 5 (gi x2 5 (sv (mS S24 5 ((x2).toNatClampNeg) ((S24.1 5 (x2).toNatClampNeg) + (nI 1))) fun S29 => ( gi x2 5 (sv (mS S29 7 ((x2).toNatClampNeg) (nI 1)) fun S32 => ( fX6_minuteOn_116  K14  S32 (x1 + (nI 1)) x2)))))))
set_option maxHeartbeats 4000000 in
set_option maxRecDepth 100000 in
theorem wX6_minuteOn_95 {p : Program} {l : Launch} {e : Env} {s : State} {m : MethodId} {args : Array Value} {below : List Frame} {meth : Method} {c : Code} {Γ : gG} {rz : Int32} {Sz : mM} (C : Cx Γ 28 p s m args meth c RX6 cX6_minuteOn 3 (some .int))  {K14 : mM → Int32 → Int32 → Option (Int32 × mM)} (hK14 : ∀ (S : mM) (x1 : Int32) (x2 : Int32) , K14 S x1 x2 = some (rz, Sz) → ∀ (H : Heap) (locs : List Loc) (ls : Array Slot), St Γ 28 (mE Γ S) s.heap H locs → lv_has ls 3 [(0, .ref (Γ.2.2 (0))), (1, .int x1), (2, .int x2)] → W p l e { frames := 3, cells := 0, slots := 0, locals := 65 } s m args below meth c H locs 0 0 (MQ below (gQi Γ 28 rz (mE Γ Sz)) args s 0 0 (wA Γ 28)) (F0 m 14 ls [])) : ∀ (S : mM) (x1 : Int32) (x2 : Int32) (y1 : Int32) (y2 : Int32) , fX6_minuteOn_95  K14 S x1 x2 y1 y2 = some (rz, Sz) → ∀ (H : Heap) (locs : List Loc) (ls : Array Slot), St Γ 28 (mE Γ S) s.heap H locs → lv_has ls 3 [(0, .ref (Γ.2.2 (0))), (1, .int x1), (2, .int x2)] → W p l e { frames := 3, cells := 0, slots := 0, locals := 65 } s m args below meth c H locs 0 0 (MQ below (gQi Γ 28 rz (mE Γ Sz)) args s 0 0 (wA Γ 28)) (F0 m 95 ls [.int y2, .int y1, .ref (Γ.2.2 (4))]) := by
  obtain ⟨hx, hb, -, -, hown, hts, -, hwx, -⟩ := id C
  intro S x1 x2 y1 y2 hf H locs ls hP hl
  unfold fX6_minuteOn_95 at hf
  refine gi_i hf (fun hi22 hj23 hf => ?_)
  refine m_ist C hP mA_4 hi22 dX6_minuteOn_95 (fun H locs hP => ?_)
  refine sv_i hf (fun S24 e24 hf => ?_)
  rw [← e24] at hP
  refine lv_aload_n hx hb dX6_minuteOn_96 rfl (lv_at hl 0 rfl) ?_
  refine m_get C hP 7 (by decide) k4_60 rfl (v := .ref (Γ.2.2 (5))) rfl dX6_minuteOn_97 ?_
  refine lv_iload_n hx hb dX6_minuteOn_100 rfl (lv_at hl 2 rfl) ?_
  refine lv_dup2_11 hx hb dX6_minuteOn_101 rfl rfl ?_
  refine gi_i hf (fun hi25 hj26 hf => ?_)
  refine m_ild C hP mA_5 hi25 dX6_minuteOn_102 ?_
  refine lv_iconst (v := nI 1) hx hb dX6_minuteOn_103 rfl ?_
  refine lv_iadd hx hb dX6_minuteOn_104 ?_
  refine gi_i hf (fun hi27 hj28 hf => ?_)
  refine m_ist C hP mA_5 hi27 dX6_minuteOn_105 (fun H locs hP => ?_)
  refine sv_i hf (fun S29 e29 hf => ?_)
  rw [← e29] at hP
  refine lv_aload_n hx hb dX6_minuteOn_106 rfl (lv_at hl 0 rfl) ?_
  refine m_get C hP 10 (by decide) k4_63 rfl (v := .ref (Γ.2.2 (7))) rfl dX6_minuteOn_107 ?_
  refine lv_iload_n hx hb dX6_minuteOn_110 rfl (lv_at hl 2 rfl) ?_
  refine lv_iconst (v := nI 1) hx hb dX6_minuteOn_111 rfl ?_
  refine gi_i hf (fun hi30 hj31 hf => ?_)
  refine m_zst C hP  hi30 (Or.inr rfl) dX6_minuteOn_112 (fun H locs hP => ?_)
  refine sv_i hf (fun S32 e32 hf => ?_)
  rw [← e32] at hP
  refine lv_iinc (v := x1 + (nI 1)) (lv' := [(1, .int (x1 + (nI 1))), (0, .ref (Γ.2.2 (0))), (2, .int x2)]) hx hb dX6_minuteOn_113 hl (k := 1) rfl rfl (by decide) rfl (fun ls hl => ?_)
  exact wX6_minuteOn_116 C  hK14  S32 (x1 + (nI 1)) x2  hf _ _ _ hP (lv_sub hl [1, 0, 2] rfl)
def fX6_minuteOn_14   : Nat → mM → Int32 → Int32 → Option (Int32 × mM)
  | 0, _, _, _ => none
  | n + 1, S, x1, x2 =>
    if (S.1 0 0) ≤ x2 then sv (mS S 0 2 ((S.1 0 2) + x1)) fun S3 => ( some (x1, S3)) else gi x2 5 (sv (mS S 7 ((x2).toNatClampNeg) (nI 0)) fun S6 => ( gi x2 5 (if (S6.1 3 (x2).toNatClampNeg) ≤ 0 then fX6_minuteOn_116  (fX6_minuteOn_14   n)  S6 x1 x2 else gi x2 5 (gi x2 5 (sv (mS S6 4 ((x2).toNatClampNeg) ((S6.1 4 (x2).toNatClampNeg) - (nI 1))) fun S14 => ( gi x2 5 (if (S14.1 4 (x2).toNatClampNeg) = 0 then bv (fX6_drop S14 x2 (nI 0)) fun S18 => ( gi x2 5 (if (S18.1 3 (x2).toNatClampNeg) ≤ 0 then fX6_minuteOn_95  (fX6_minuteOn_14   n)  S18 x1 x2 x2 (nI 0) else gi ((nI 8) * x2) 40 (bd (fX6_takesIn S18 x2 (S18.1 6 ((nI 8) * x2).toNatClampNeg)) fun v35 S35 => ( fX6_minuteOn_95  (fX6_minuteOn_14   n)  S35 x1 x2 x2 v35)))) else fX6_minuteOn_116  (fX6_minuteOn_14   n)  S14 x1 x2)))))))
set_option maxHeartbeats 4000000 in
set_option maxRecDepth 100000 in
theorem wX6_minuteOn_14 {p : Program} {l : Launch} {e : Env} {s : State} {m : MethodId} {args : Array Value} {below : List Frame} {meth : Method} {c : Code} {Γ : gG} {rz : Int32} {Sz : mM} (C : Cx Γ 28 p s m args meth c RX6 cX6_minuteOn 3 (some .int))   : ∀ n : Nat, ∀ (S : mM) (x1 : Int32) (x2 : Int32) , fX6_minuteOn_14   n S x1 x2 = some (rz, Sz) → ∀ (H : Heap) (locs : List Loc) (ls : Array Slot), St Γ 28 (mE Γ S) s.heap H locs → lv_has ls 3 [(0, .ref (Γ.2.2 (0))), (1, .int x1), (2, .int x2)] → W p l e { frames := 3, cells := 0, slots := 0, locals := 65 } s m args below meth c H locs 0 0 (MQ below (gQi Γ 28 rz (mE Γ Sz)) args s 0 0 (wA Γ 28)) (F0 m 14 ls []) := by
  obtain ⟨hx, hb, -, -, hown, hts, -, hwx, -⟩ := id C
  intro n
  induction n with
  | zero =>
    intro S x1 x2 hf
    unfold fX6_minuteOn_14 at hf
    cases hf
  | succ n ih =>
    intro S x1 x2 hf H locs ls hP hl
    unfold fX6_minuteOn_14 at hf
    refine lv_iload_n hx hb dX6_minuteOn_14 rfl (lv_at hl 2 rfl) ?_
    refine lv_aload_n hx hb dX6_minuteOn_15 rfl (lv_at hl 0 rfl) ?_
    refine m_get C hP 0 (by decide) k4_53 rfl (v := .int (S.1 0 0)) rfl dX6_minuteOn_16 ?_
    refine lv_icmp_ge (tgt := 122) hx hb dX6_minuteOn_19 (by decide) (fun hc2 => ?_) (fun hc2 => ?_)
    · have hf := if_t hc2 hf
      refine lv_aload_n hx hb dX6_minuteOn_122 rfl (lv_at hl 0 rfl) ?_
      refine lv_dup hx hb dX6_minuteOn_123 rfl ?_
      refine m_get C hP 2 (by decide) k4_55 rfl (v := .int (S.1 0 2)) rfl dX6_minuteOn_124 ?_
      refine lv_iload_n hx hb dX6_minuteOn_127 rfl (lv_at hl 1 rfl) ?_
      refine lv_iadd hx hb dX6_minuteOn_128 ?_
      refine m_put C hP 2 (by decide) k4_55 dX6_minuteOn_129 (fun H locs hP => ?_)
      refine sv_i hf (fun S3 e3 hf => ?_)
      rw [← e3] at hP
      refine lv_iload_n hx hb dX6_minuteOn_132 rfl (lv_at hl 1 rfl) ?_
      exact r_iret (X := mE Γ) C hP hf dX6_minuteOn_133
    · have hf := if_f hc2 hf
      refine lv_aload_n hx hb dX6_minuteOn_22 rfl (lv_at hl 0 rfl) ?_
      refine m_get C hP 10 (by decide) k4_63 rfl (v := .ref (Γ.2.2 (7))) rfl dX6_minuteOn_23 ?_
      refine lv_iload_n hx hb dX6_minuteOn_26 rfl (lv_at hl 2 rfl) ?_
      refine lv_iconst (v := nI 0) hx hb dX6_minuteOn_27 rfl ?_
      refine gi_i hf (fun hi4 hj5 hf => ?_)
      refine m_zst C hP  hi4 (Or.inl rfl) dX6_minuteOn_28 (fun H locs hP => ?_)
      refine sv_i hf (fun S6 e6 hf => ?_)
      rw [← e6] at hP
      refine lv_aload_n hx hb dX6_minuteOn_29 rfl (lv_at hl 0 rfl) ?_
      refine m_get C hP 5 (by decide) k4_58 rfl (v := .ref (Γ.2.2 (3))) rfl dX6_minuteOn_30 ?_
      refine lv_iload_n hx hb dX6_minuteOn_33 rfl (lv_at hl 2 rfl) ?_
      refine gi_i hf (fun hi7 hj8 hf => ?_)
      refine m_ild C hP mA_3 hi7 dX6_minuteOn_34 ?_
      refine lv_if_le (tgt := 116) hx hb dX6_minuteOn_35 (by decide) (fun hc9 => ?_) (fun hc9 => ?_)
      · have hf := if_t hc9 hf
        exact wX6_minuteOn_116 C  ih  S6 x1 x2  hf _ _ _ hP (lv_sub hl [0, 1, 2] rfl)
      · have hf := if_f hc9 hf
        refine lv_aload_n hx hb dX6_minuteOn_38 rfl (lv_at hl 0 rfl) ?_
        refine m_get C hP 6 (by decide) k4_59 rfl (v := .ref (Γ.2.2 (4))) rfl dX6_minuteOn_39 ?_
        refine lv_iload_n hx hb dX6_minuteOn_42 rfl (lv_at hl 2 rfl) ?_
        refine lv_dup2_11 hx hb dX6_minuteOn_43 rfl rfl ?_
        refine gi_i hf (fun hi10 hj11 hf => ?_)
        refine m_ild C hP mA_4 hi10 dX6_minuteOn_44 ?_
        refine lv_iconst (v := nI 1) hx hb dX6_minuteOn_45 rfl ?_
        refine lv_isub hx hb dX6_minuteOn_46 ?_
        refine gi_i hf (fun hi12 hj13 hf => ?_)
        refine m_ist C hP mA_4 hi12 dX6_minuteOn_47 (fun H locs hP => ?_)
        refine sv_i hf (fun S14 e14 hf => ?_)
        rw [← e14] at hP
        refine lv_aload_n hx hb dX6_minuteOn_48 rfl (lv_at hl 0 rfl) ?_
        refine m_get C hP 6 (by decide) k4_59 rfl (v := .ref (Γ.2.2 (4))) rfl dX6_minuteOn_49 ?_
        refine lv_iload_n hx hb dX6_minuteOn_52 rfl (lv_at hl 2 rfl) ?_
        refine gi_i hf (fun hi15 hj16 hf => ?_)
        refine m_ild C hP mA_4 hi15 dX6_minuteOn_53 ?_
        refine lv_if_ne (tgt := 116) hx hb dX6_minuteOn_54 (by decide) (fun hc17 => ?_) (fun hc17 => ?_)
        · have hf := if_f hc17 hf
          exact wX6_minuteOn_116 C  ih  S14 x1 x2  hf _ _ _ hP (lv_sub hl [0, 1, 2] rfl)
        · have hf := if_t hc17 hf
          refine lv_aload_n hx hb dX6_minuteOn_57 rfl (lv_at hl 0 rfl) ?_
          refine lv_iload_n hx hb dX6_minuteOn_58 rfl (lv_at hl 2 rfl) ?_
          refine lv_iconst (v := nI 0) hx hb dX6_minuteOn_59 rfl ?_
          refine bv_i hf (fun S18 hq18 hf => ?_)
          refine goV (runV (rest := []) (b := 0) (mX6_drop l Γ  hq18) C hP hl.1 (by decide) mE0 rfl k5_26 qX6_drop.1 qX6_drop.2.1 qX6_drop.2.2.1 qX6_drop.2.2.2.1 rfl qX6_drop.2.2.2.2 ⟨Nat.le_of_ble_eq_true rfl, Nat.le_of_ble_eq_true rfl⟩ ⟨Nat.le_refl 0, Nat.le_refl 0⟩ (Nat.le_of_ble_eq_true rfl) dX6_minuteOn_60) hP (fun H locs hP => ?_)
          refine lv_aload_n hx hb dX6_minuteOn_63 rfl (lv_at hl 0 rfl) ?_
          refine m_get C hP 6 (by decide) k4_59 rfl (v := .ref (Γ.2.2 (4))) rfl dX6_minuteOn_64 ?_
          refine lv_iload_n hx hb dX6_minuteOn_67 rfl (lv_at hl 2 rfl) ?_
          refine lv_aload_n hx hb dX6_minuteOn_68 rfl (lv_at hl 0 rfl) ?_
          refine m_get C hP 5 (by decide) k4_58 rfl (v := .ref (Γ.2.2 (3))) rfl dX6_minuteOn_69 ?_
          refine lv_iload_n hx hb dX6_minuteOn_72 rfl (lv_at hl 2 rfl) ?_
          refine gi_i hf (fun hi19 hj20 hf => ?_)
          refine m_ild C hP mA_3 hi19 dX6_minuteOn_73 ?_
          refine lv_if_le (tgt := 94) hx hb dX6_minuteOn_74 (by decide) (fun hc21 => ?_) (fun hc21 => ?_)
          · have hf := if_t hc21 hf
            refine lv_iconst (v := nI 0) hx hb dX6_minuteOn_94 rfl ?_
            exact wX6_minuteOn_95 C  ih  S18 x1 x2 x2 (nI 0)  hf _ _ _ hP (lv_sub hl [0, 1, 2] rfl)
          · have hf := if_f hc21 hf
            refine lv_aload_n hx hb dX6_minuteOn_77 rfl (lv_at hl 0 rfl) ?_
            refine lv_iload_n hx hb dX6_minuteOn_78 rfl (lv_at hl 2 rfl) ?_
            refine lv_aload_n hx hb dX6_minuteOn_79 rfl (lv_at hl 0 rfl) ?_
            refine m_get C hP 8 (by decide) k4_61 rfl (v := .ref (Γ.2.2 (6))) rfl dX6_minuteOn_80 ?_
            refine lv_bipush (v := nI 8) hx hb dX6_minuteOn_83 rfl ?_
            refine lv_iload_n hx hb dX6_minuteOn_85 rfl (lv_at hl 2 rfl) ?_
            refine lv_imul hx hb dX6_minuteOn_86 ?_
            refine gi_i hf (fun hi33 hj34 hf => ?_)
            refine m_ild C hP mA_6 hi33 dX6_minuteOn_87 ?_
            refine bd_i hf (fun v35 S35 hq35 hf => ?_)
            refine goI (runV (rest := [.int x2, .ref (Γ.2.2 (4))]) (b := 0) (mX6_takesIn l Γ  hq35) C hP hl.1 (by decide) mE0 rfl k5_8 qX6_takesIn.1 qX6_takesIn.2.1 qX6_takesIn.2.2.1 qX6_takesIn.2.2.2.1 rfl qX6_takesIn.2.2.2.2 ⟨Nat.le_of_ble_eq_true rfl, Nat.le_of_ble_eq_true rfl⟩ ⟨Nat.le_refl 0, Nat.le_refl 0⟩ (Nat.le_of_ble_eq_true rfl) dX6_minuteOn_88) hP (fun H locs hP => ?_)
            refine lv_goto (tgt := 95) hx hb dX6_minuteOn_91 (by decide) ?_
            exact wX6_minuteOn_95 C  ih  S35 x1 x2 x2 v35  hf _ _ _ hP (lv_sub hl [0, 1, 2] rfl)
def fX6_minuteOn  (S : mM)  : Option (Int32 × mM) :=
  sv (mS S 0 1 ((S.1 0 1) + (nI 1))) fun S1 => ( fX6_minuteOn_14   lF S1 (nI 0) (nI 0))
set_option maxHeartbeats 4000000 in
set_option maxRecDepth 100000 in
theorem mX6_minuteOn (l : Launch) (Γ : gG)   {S : mM}  {rz : Int32} {Sz : mM} (hf : fX6_minuteOn S = some (rz, Sz)) : CtI l Γ 28 yX6_minuteOn cX6_minuteOn 3 .int 3 65 [.ref (Γ.2.2 (0))] (mE Γ S) rz (mE Γ Sz) := by
  refine met_body (Γ := Γ) (lv := [(0, .ref (Γ.2.2 (0)))]) RX6 (by decide) rfl rfl rfl ?_
  intro p e s m below meth c H locs ls C hP hl
  obtain ⟨hx, hb, -, -, hown, hts, -, hwx, -⟩ := id C
  unfold fX6_minuteOn at hf
  refine lv_iconst (v := nI 0) hx hb dX6_minuteOn_0 rfl ?_
  refine lv_istore_n (lv' := [(1, .int (nI 0)), (0, .ref (Γ.2.2 (0)))]) hx hb dX6_minuteOn_1 rfl hl (by decide) rfl (fun ls hl => ?_)
  refine lv_aload_n hx hb dX6_minuteOn_2 rfl (lv_at hl 1 rfl) ?_
  refine lv_dup hx hb dX6_minuteOn_3 rfl ?_
  refine m_get C hP 1 (by decide) k4_54 rfl (v := .int (S.1 0 1)) rfl dX6_minuteOn_4 ?_
  refine lv_iconst (v := nI 1) hx hb dX6_minuteOn_7 rfl ?_
  refine lv_iadd hx hb dX6_minuteOn_8 ?_
  refine m_put C hP 1 (by decide) k4_54 dX6_minuteOn_9 (fun H locs hP => ?_)
  refine sv_i hf (fun S1 e1 hf => ?_)
  rw [← e1] at hP
  refine lv_iconst (v := nI 0) hx hb dX6_minuteOn_12 rfl ?_
  refine lv_istore_n (lv' := [(2, .int (nI 0)), (1, .int (nI 0)), (0, .ref (Γ.2.2 (0)))]) hx hb dX6_minuteOn_13 rfl hl (by decide) rfl (fun ls hl => ?_)
  exact wX6_minuteOn_14 C   lF S1 (nI 0) (nI 0)  hf _ _ _ hP (lv_sub hl [2, 1, 0] rfl)
-- X6_goBy
theorem qX6_goBy : Cond.instanceMethod yX6_goBy ∈ Ub ∧ Cond.selects RX6 yX6_goBy yX6_goBy ∈ Ub ∧ Cond.initialized RX6 ∈ Ub ∧ Cond.code yX6_goBy cX6_goBy 4 (some FieldType.int) ∈ Ub ∧ (yX6_goBy.cls = RX6 ∧ yX6_goBy.cls ≠ "java/lang/invoke/MethodHandle" ∧ yX6_goBy.cls ≠ "java/lang/invoke/VarHandle" ∧ (parseMethodDescriptor yX6_goBy.desc).map (fun d => d.parameters.length) = some 1) := ⟨k5_20, ks_35, k1_5, k5_21, by decide +kernel⟩
def fX6_goBy_4   : Nat → mM → Int32 → Int32 → Int32 → Option (Int32 × mM)
  | 0, _, _, _, _ => none
  | n + 1, S, x1, x2, x3 =>
    if x1 ≤ x3 then some (x2, S) else bd (fX6_minuteOn S) fun v2 S2 => ( (fX6_goBy_4   n) S2 x1 (x2 + v2) (x3 + (nI 1)))
set_option maxHeartbeats 4000000 in
set_option maxRecDepth 100000 in
theorem wX6_goBy_4 {p : Program} {l : Launch} {e : Env} {s : State} {m : MethodId} {args : Array Value} {below : List Frame} {meth : Method} {c : Code} {Γ : gG} {rz : Int32} {Sz : mM} (C : Cx Γ 28 p s m args meth c RX6 cX6_goBy 4 (some .int))   : ∀ n : Nat, ∀ (S : mM) (x1 : Int32) (x2 : Int32) (x3 : Int32) , fX6_goBy_4   n S x1 x2 x3 = some (rz, Sz) → ∀ (H : Heap) (locs : List Loc) (ls : Array Slot), St Γ 28 (mE Γ S) s.heap H locs → lv_has ls 4 [(0, .ref (Γ.2.2 (0))), (1, .int x1), (2, .int x2), (3, .int x3)] → W p l e { frames := 4, cells := 0, slots := 0, locals := 87 } s m args below meth c H locs 0 0 (MQ below (gQi Γ 28 rz (mE Γ Sz)) args s 0 0 (wA Γ 28)) (F0 m 4 ls []) := by
  obtain ⟨hx, hb, -, -, hown, hts, -, hwx, -⟩ := id C
  intro n
  induction n with
  | zero =>
    intro S x1 x2 x3 hf
    unfold fX6_goBy_4 at hf
    cases hf
  | succ n ih =>
    intro S x1 x2 x3 hf H locs ls hP hl
    unfold fX6_goBy_4 at hf
    refine lv_iload_n hx hb dX6_goBy_4 rfl (lv_at hl 3 rfl) ?_
    refine lv_iload_n hx hb dX6_goBy_5 rfl (lv_at hl 1 rfl) ?_
    refine lv_icmp_ge (tgt := 22) hx hb dX6_goBy_6 (by decide) (fun hc1 => ?_) (fun hc1 => ?_)
    · have hf := if_t hc1 hf
      refine lv_iload_n hx hb dX6_goBy_22 rfl (lv_at hl 2 rfl) ?_
      exact r_iret (X := mE Γ) C hP hf dX6_goBy_23
    · have hf := if_f hc1 hf
      refine lv_iload_n hx hb dX6_goBy_9 rfl (lv_at hl 2 rfl) ?_
      refine lv_aload_n hx hb dX6_goBy_10 rfl (lv_at hl 0 rfl) ?_
      refine bd_i hf (fun v2 S2 hq2 hf => ?_)
      refine goI (runV (rest := [.int x2]) (b := 0) (mX6_minuteOn l Γ  hq2) C hP hl.1 (by decide) mE0 rfl k5_22 qX6_minuteOn.1 qX6_minuteOn.2.1 qX6_minuteOn.2.2.1 qX6_minuteOn.2.2.2.1 rfl qX6_minuteOn.2.2.2.2 ⟨Nat.le_of_ble_eq_true rfl, Nat.le_of_ble_eq_true rfl⟩ ⟨Nat.le_refl 0, Nat.le_refl 0⟩ (Nat.le_of_ble_eq_true rfl) dX6_goBy_11) hP (fun H locs hP => ?_)
      refine lv_iadd hx hb dX6_goBy_14 ?_
      refine lv_istore_n (lv' := [(2, .int (x2 + v2)), (0, .ref (Γ.2.2 (0))), (1, .int x1), (3, .int x3)]) hx hb dX6_goBy_15 rfl hl (by decide) rfl (fun ls hl => ?_)
      refine lv_iinc (v := x3 + (nI 1)) (lv' := [(3, .int (x3 + (nI 1))), (2, .int (x2 + v2)), (0, .ref (Γ.2.2 (0))), (1, .int x1)]) hx hb dX6_goBy_16 hl (k := 3) rfl rfl (by decide) rfl (fun ls hl => ?_)
      refine lv_goto (tgt := 4) hx hb dX6_goBy_19 (by decide) ?_
      exact ih S2 x1 (x2 + v2) (x3 + (nI 1))  hf _ _ _ hP (lv_sub hl [2, 3, 1, 0] rfl)
def fX6_goBy  (S : mM) (x1 : Int32) : Option (Int32 × mM) :=
  fX6_goBy_4   lF S x1 (nI 0) (nI 0)
set_option maxHeartbeats 4000000 in
set_option maxRecDepth 100000 in
theorem mX6_goBy (l : Launch) (Γ : gG)   {S : mM} {x1 : Int32} {rz : Int32} {Sz : mM} (hf : fX6_goBy S x1 = some (rz, Sz)) : CtI l Γ 28 yX6_goBy cX6_goBy 4 .int 4 87 [.ref (Γ.2.2 (0)), .int x1] (mE Γ S) rz (mE Γ Sz) := by
  refine met_body (Γ := Γ) (lv := [(0, .ref (Γ.2.2 (0))), (1, .int x1)]) RX6 (by decide) rfl rfl rfl ?_
  intro p e s m below meth c H locs ls C hP hl
  obtain ⟨hx, hb, -, -, hown, hts, -, hwx, -⟩ := id C
  unfold fX6_goBy at hf
  refine lv_iconst (v := nI 0) hx hb dX6_goBy_0 rfl ?_
  refine lv_istore_n (lv' := [(2, .int (nI 0)), (0, .ref (Γ.2.2 (0))), (1, .int x1)]) hx hb dX6_goBy_1 rfl hl (by decide) rfl (fun ls hl => ?_)
  refine lv_iconst (v := nI 0) hx hb dX6_goBy_2 rfl ?_
  refine lv_istore_n (lv' := [(3, .int (nI 0)), (2, .int (nI 0)), (0, .ref (Γ.2.2 (0))), (1, .int x1)]) hx hb dX6_goBy_3 rfl hl (by decide) rfl (fun ls hl => ?_)
  exact wX6_goBy_4 C   lF S x1 (nI 0) (nI 0)  hf _ _ _ hP (lv_sub hl [2, 3, 1, 0] rfl)
-- X6_carry
theorem qX6_carry : Cond.instanceMethod yX6_carry ∈ Ub ∧ Cond.selects RX6 yX6_carry yX6_carry ∈ Ub ∧ Cond.initialized RX6 ∈ Ub ∧ Cond.code yX6_carry cX6_carry 2 (some FieldType.int) ∈ Ub ∧ (yX6_carry.cls = RX6 ∧ yX6_carry.cls ≠ "java/lang/invoke/MethodHandle" ∧ yX6_carry.cls ≠ "java/lang/invoke/VarHandle" ∧ (parseMethodDescriptor yX6_carry.desc).map (fun d => d.parameters.length) = some 1) := ⟨k4_196, ks_24, k1_5, k4_197, by decide +kernel⟩
def fX6_carry_17   (S : mM)  : Option (Int32 × mM) :=
  sv (mS S 0 14 ((S.1 0 14) + (nI 1))) fun S2 => ( gn S2.2.2 8 9 (gi ((S2.1 0 14) - (nI 1)) 68 (some (S2.1 S2.2.2 ((S2.1 0 14) - (nI 1)).toNatClampNeg, S2))))
set_option maxHeartbeats 4000000 in
set_option maxRecDepth 100000 in
theorem wX6_carry_17 {p : Program} {l : Launch} {e : Env} {s : State} {m : MethodId} {args : Array Value} {below : List Frame} {meth : Method} {c : Code} {Γ : gG} {rz : Int32} {Sz : mM} (C : Cx Γ 28 p s m args meth c RX6 cX6_carry 2 (some .int))   : ∀ (S : mM)  , fX6_carry_17   S  = some (rz, Sz) → ∀ (H : Heap) (locs : List Loc) (ls : Array Slot), St Γ 28 (mE Γ S) s.heap H locs → lv_has ls 2 [(0, .ref (Γ.2.2 (0)))] → W p l e { frames := 0, cells := 0, slots := 0, locals := 0 } s m args below meth c H locs 0 0 (MQ below (gQi Γ 28 rz (mE Γ Sz)) args s 0 0 (wA Γ 28)) (F0 m 17 ls []) := by
  obtain ⟨hx, hb, -, -, hown, hts, -, hwx, -⟩ := id C
  intro S  hf H locs ls hP hl
  unfold fX6_carry_17 at hf
  refine lv_aload_n hx hb dX6_carry_17 rfl (lv_at hl 0 rfl) ?_
  refine lv_dup hx hb dX6_carry_18 rfl ?_
  refine m_get C hP 14 (by decide) k4_67 rfl (v := .int (S.1 0 14)) rfl dX6_carry_19 ?_
  refine lv_iconst (v := nI 1) hx hb dX6_carry_22 rfl ?_
  refine lv_iadd hx hb dX6_carry_23 ?_
  refine m_put C hP 14 (by decide) k4_67 dX6_carry_24 (fun H locs hP => ?_)
  refine sv_i hf (fun S2 e2 hf => ?_)
  rw [← e2] at hP
  refine lv_aload_n hx hb dX6_carry_27 rfl (lv_at hl 0 rfl) ?_
  refine gn_i hf (fun hN3 hf => ?_)
  refine m_getK C hP hN3 k4_69 dX6_carry_28 ?_
  refine lv_aload_n hx hb dX6_carry_31 rfl (lv_at hl 0 rfl) ?_
  refine m_get C hP 14 (by decide) k4_67 rfl (v := .int (S2.1 0 14)) rfl dX6_carry_32 ?_
  refine lv_iconst (v := nI 1) hx hb dX6_carry_35 rfl ?_
  refine lv_isub hx hb dX6_carry_36 ?_
  refine gi_i hf (fun hi4 hj5 hf => ?_)
  refine m_ild C hP (mA_k hN3) hi4 dX6_carry_37 ?_
  exact r_iret (X := mE Γ) C hP hf dX6_carry_38
def fX6_carry  (S : mM) (x1 : Int32) : Option (Int32 × mM) :=
  if (S.1 0 15) = 0 then fX6_carry_17    S  else gn S.2.2 8 9 (gi (S.1 0 14) 68 (sv (mS S S.2.2 ((S.1 0 14).toNatClampNeg) x1) fun S9 => ( fX6_carry_17    S9 )))
set_option maxHeartbeats 4000000 in
set_option maxRecDepth 100000 in
theorem mX6_carry (l : Launch) (Γ : gG)   {S : mM} {x1 : Int32} {rz : Int32} {Sz : mM} (hf : fX6_carry S x1 = some (rz, Sz)) : CtI l Γ 28 yX6_carry cX6_carry 2 .int 0 0 [.ref (Γ.2.2 (0)), .int x1] (mE Γ S) rz (mE Γ Sz) := by
  refine met_body (Γ := Γ) (lv := [(0, .ref (Γ.2.2 (0))), (1, .int x1)]) RX6 (by decide) rfl rfl rfl ?_
  intro p e s m below meth c H locs ls C hP hl
  obtain ⟨hx, hb, -, -, hown, hts, -, hwx, -⟩ := id C
  unfold fX6_carry at hf
  refine lv_aload_n hx hb dX6_carry_0 rfl (lv_at hl 0 rfl) ?_
  refine m_get C hP 15 (by decide) k4_68 rfl (v := .int (S.1 0 15)) rfl dX6_carry_1 ?_
  refine lv_if_eq (tgt := 17) hx hb dX6_carry_4 (by decide) (fun hc1 => ?_) (fun hc1 => ?_)
  · have hf := if_t hc1 hf
    exact wX6_carry_17 C    S   hf _ _ _ hP (lv_sub hl [0] rfl)
  · have hf := if_f hc1 hf
    refine lv_aload_n hx hb dX6_carry_7 rfl (lv_at hl 0 rfl) ?_
    refine gn_i hf (fun hN6 hf => ?_)
    refine m_getK C hP hN6 k4_69 dX6_carry_8 ?_
    refine lv_aload_n hx hb dX6_carry_11 rfl (lv_at hl 0 rfl) ?_
    refine m_get C hP 14 (by decide) k4_67 rfl (v := .int (S.1 0 14)) rfl dX6_carry_12 ?_
    refine lv_iload_n hx hb dX6_carry_15 rfl (lv_at hl 1 rfl) ?_
    refine gi_i hf (fun hi7 hj8 hf => ?_)
    refine m_ist C hP (mA_k hN6) hi7 dX6_carry_16 (fun H locs hP => ?_)
    refine sv_i hf (fun S9 e9 hf => ?_)
    rw [← e9] at hP
    exact wX6_carry_17 C    S9   hf _ _ _ hP (lv_sub hl [0] rfl)
-- X6_carryAll
theorem qX6_carryAll : Cond.instanceMethod yX6_carryAll ∈ Ub ∧ Cond.selects RX6 yX6_carryAll yX6_carryAll ∈ Ub ∧ Cond.initialized RX6 ∈ Ub ∧ Cond.code yX6_carryAll cX6_carryAll 4 (none : Option Jvm.ClassFile.FieldType) ∈ Ub ∧ (yX6_carryAll.cls = RX6 ∧ yX6_carryAll.cls ≠ "java/lang/invoke/MethodHandle" ∧ yX6_carryAll.cls ≠ "java/lang/invoke/VarHandle" ∧ (parseMethodDescriptor yX6_carryAll.desc).map (fun d => d.parameters.length) = some 2) := ⟨k4_192, ks_23, k1_5, k4_193, by decide +kernel⟩
def fX6_carryAll_146 (u1 : Nat)  : Nat → mM → Int32 → Option mM
  | 0, _, _ => none
  | n + 1, S, x3 =>
    if (nI 40) ≤ x3 then some S else gi x3 40 (bd (fX6_carry S (S.1 6 (x3).toNatClampNeg)) fun v15 S15 => ( gi x3 40 (sv (mS S15 6 ((x3).toNatClampNeg) v15) fun S18 => ( (fX6_carryAll_146 u1  n) S18 (x3 + (nI 1))))))
set_option maxHeartbeats 4000000 in
set_option maxRecDepth 100000 in
theorem wX6_carryAll_146 {p : Program} {l : Launch} {e : Env} {s : State} {m : MethodId} {args : Array Value} {below : List Frame} {meth : Method} {c : Code} {Γ : gG} {Sz : mM} (C : Cx Γ 28 p s m args meth c RX6 cX6_carryAll 4 none) {u1 : Nat} (hu1 : mAr u1 68)  : ∀ n : Nat, ∀ (S : mM) (x3 : Int32) , fX6_carryAll_146 u1  n S x3 = some Sz → ∀ (H : Heap) (locs : List Loc) (ls : Array Slot), St Γ 28 (mE Γ S) s.heap H locs → lv_has ls 4 [(0, .ref (Γ.2.2 (0))), (3, .int x3)] → W p l e { frames := 1, cells := 0, slots := 0, locals := 21 } s m args below meth c H locs 0 0 (MQ below (gQv Γ 28 (mE Γ Sz)) args s 0 0 (wA Γ 28)) (F0 m 146 ls []) := by
  obtain ⟨hx, hb, -, -, hown, hts, -, hwx, -⟩ := id C
  intro n
  induction n with
  | zero =>
    intro S x3 hf
    unfold fX6_carryAll_146 at hf
    cases hf
  | succ n ih =>
    intro S x3 hf H locs ls hP hl
    unfold fX6_carryAll_146 at hf
    refine lv_iload_n hx hb dX6_carryAll_146 rfl (lv_at hl 1 rfl) ?_
    refine lv_bipush (v := nI 40) hx hb dX6_carryAll_147 rfl ?_
    refine lv_icmp_ge (tgt := 174) hx hb dX6_carryAll_149 (by decide) (fun hc12 => ?_) (fun hc12 => ?_)
    · have hf := if_t hc12 hf
      exact r_vret (X := mE Γ) C hP hf dX6_carryAll_174
    · have hf := if_f hc12 hf
      refine lv_aload_n hx hb dX6_carryAll_152 rfl (lv_at hl 0 rfl) ?_
      refine m_get C hP 8 (by decide) k4_61 rfl (v := .ref (Γ.2.2 (6))) rfl dX6_carryAll_153 ?_
      refine lv_iload_n hx hb dX6_carryAll_156 rfl (lv_at hl 1 rfl) ?_
      refine lv_aload_n hx hb dX6_carryAll_157 rfl (lv_at hl 0 rfl) ?_
      refine lv_aload_n hx hb dX6_carryAll_158 rfl (lv_at hl 0 rfl) ?_
      refine m_get C hP 8 (by decide) k4_61 rfl (v := .ref (Γ.2.2 (6))) rfl dX6_carryAll_159 ?_
      refine lv_iload_n hx hb dX6_carryAll_162 rfl (lv_at hl 1 rfl) ?_
      refine gi_i hf (fun hi13 hj14 hf => ?_)
      refine m_ild C hP mA_6 hi13 dX6_carryAll_163 ?_
      refine bd_i hf (fun v15 S15 hq15 hf => ?_)
      refine goI (runV (rest := [.int x3, .ref (Γ.2.2 (6))]) (b := 0) (mX6_carry l Γ  hq15) C hP hl.1 (by decide) mE0 rfl k4_194 qX6_carry.1 qX6_carry.2.1 qX6_carry.2.2.1 qX6_carry.2.2.2.1 rfl qX6_carry.2.2.2.2 ⟨Nat.le_of_ble_eq_true rfl, Nat.le_of_ble_eq_true rfl⟩ ⟨Nat.le_refl 0, Nat.le_refl 0⟩ (Nat.le_of_ble_eq_true rfl) dX6_carryAll_164) hP (fun H locs hP => ?_)
      refine gi_i hf (fun hi16 hj17 hf => ?_)
      refine m_ist C hP mA_6 hi16 dX6_carryAll_167 (fun H locs hP => ?_)
      refine sv_i hf (fun S18 e18 hf => ?_)
      rw [← e18] at hP
      refine lv_iinc (v := x3 + (nI 1)) (lv' := [(3, .int (x3 + (nI 1))), (0, .ref (Γ.2.2 (0)))]) hx hb dX6_carryAll_168 hl (k := 1) rfl rfl (by decide) rfl (fun ls hl => ?_)
      refine lv_goto (tgt := 146) hx hb dX6_carryAll_171 (by decide) ?_
      exact ih S18 (x3 + (nI 1))  hf _ _ _ hP (lv_sub hl [1, 0] rfl)
def fX6_carryAll_53 (u1 : Nat)  : Nat → mM → Int32 → Option mM
  | 0, _, _ => none
  | n + 1, S, x3 =>
    if (nI 5) ≤ x3 then fX6_carryAll_146 u1  lF S (nI 0) else gi x3 5 (bd (fX6_carry S (S.1 1 (x3).toNatClampNeg)) fun v21 S21 => ( gi x3 5 (sv (mS S21 1 ((x3).toNatClampNeg) v21) fun S24 => ( gi x3 5 (bd (fX6_carry S24 (S24.1 2 (x3).toNatClampNeg)) fun v27 S27 => ( gi x3 5 (sv (mS S27 2 ((x3).toNatClampNeg) v27) fun S30 => ( gi x3 5 (bd (fX6_carry S30 (S30.1 3 (x3).toNatClampNeg)) fun v33 S33 => ( gi x3 5 (sv (mS S33 3 ((x3).toNatClampNeg) v33) fun S36 => ( gi x3 5 (bd (fX6_carry S36 (S36.1 4 (x3).toNatClampNeg)) fun v39 S39 => ( gi x3 5 (sv (mS S39 4 ((x3).toNatClampNeg) v39) fun S42 => ( gi x3 5 (bd (fX6_carry S42 (S42.1 5 (x3).toNatClampNeg)) fun v45 S45 => ( gi x3 5 (sv (mS S45 5 ((x3).toNatClampNeg) v45) fun S48 => ( (fX6_carryAll_53 u1  n) S48 (x3 + (nI 1))))))))))))))))))))))
set_option maxHeartbeats 4000000 in
set_option maxRecDepth 100000 in
theorem wX6_carryAll_53 {p : Program} {l : Launch} {e : Env} {s : State} {m : MethodId} {args : Array Value} {below : List Frame} {meth : Method} {c : Code} {Γ : gG} {Sz : mM} (C : Cx Γ 28 p s m args meth c RX6 cX6_carryAll 4 none) {u1 : Nat} (hu1 : mAr u1 68)  : ∀ n : Nat, ∀ (S : mM) (x3 : Int32) , fX6_carryAll_53 u1  n S x3 = some Sz → ∀ (H : Heap) (locs : List Loc) (ls : Array Slot), St Γ 28 (mE Γ S) s.heap H locs → lv_has ls 4 [(0, .ref (Γ.2.2 (0))), (3, .int x3)] → W p l e { frames := 1, cells := 0, slots := 0, locals := 21 } s m args below meth c H locs 0 0 (MQ below (gQv Γ 28 (mE Γ Sz)) args s 0 0 (wA Γ 28)) (F0 m 53 ls []) := by
  obtain ⟨hx, hb, -, -, hown, hts, -, hwx, -⟩ := id C
  intro n
  induction n with
  | zero =>
    intro S x3 hf
    unfold fX6_carryAll_53 at hf
    cases hf
  | succ n ih =>
    intro S x3 hf H locs ls hP hl
    unfold fX6_carryAll_53 at hf
    refine lv_iload_n hx hb dX6_carryAll_53 rfl (lv_at hl 1 rfl) ?_
    refine lv_iconst (v := nI 5) hx hb dX6_carryAll_54 rfl ?_
    refine lv_icmp_ge (tgt := 144) hx hb dX6_carryAll_55 (by decide) (fun hc11 => ?_) (fun hc11 => ?_)
    · have hf := if_t hc11 hf
      refine lv_iconst (v := nI 0) hx hb dX6_carryAll_144 rfl ?_
      refine lv_istore_n (lv' := [(3, .int (nI 0)), (0, .ref (Γ.2.2 (0)))]) hx hb dX6_carryAll_145 rfl hl (by decide) rfl (fun ls hl => ?_)
      exact wX6_carryAll_146 C hu1  lF S (nI 0)  hf _ _ _ hP (lv_sub hl [1, 0] rfl)
    · have hf := if_f hc11 hf
      refine lv_aload_n hx hb dX6_carryAll_58 rfl (lv_at hl 0 rfl) ?_
      refine m_get C hP 3 (by decide) k4_56 rfl (v := .ref (Γ.2.2 (1))) rfl dX6_carryAll_59 ?_
      refine lv_iload_n hx hb dX6_carryAll_62 rfl (lv_at hl 1 rfl) ?_
      refine lv_aload_n hx hb dX6_carryAll_63 rfl (lv_at hl 0 rfl) ?_
      refine lv_aload_n hx hb dX6_carryAll_64 rfl (lv_at hl 0 rfl) ?_
      refine m_get C hP 3 (by decide) k4_56 rfl (v := .ref (Γ.2.2 (1))) rfl dX6_carryAll_65 ?_
      refine lv_iload_n hx hb dX6_carryAll_68 rfl (lv_at hl 1 rfl) ?_
      refine gi_i hf (fun hi19 hj20 hf => ?_)
      refine m_ild C hP mA_1 hi19 dX6_carryAll_69 ?_
      refine bd_i hf (fun v21 S21 hq21 hf => ?_)
      refine goI (runV (rest := [.int x3, .ref (Γ.2.2 (1))]) (b := 0) (mX6_carry l Γ  hq21) C hP hl.1 (by decide) mE0 rfl k4_194 qX6_carry.1 qX6_carry.2.1 qX6_carry.2.2.1 qX6_carry.2.2.2.1 rfl qX6_carry.2.2.2.2 ⟨Nat.le_of_ble_eq_true rfl, Nat.le_of_ble_eq_true rfl⟩ ⟨Nat.le_refl 0, Nat.le_refl 0⟩ (Nat.le_of_ble_eq_true rfl) dX6_carryAll_70) hP (fun H locs hP => ?_)
      refine gi_i hf (fun hi22 hj23 hf => ?_)
      refine m_ist C hP mA_1 hi22 dX6_carryAll_73 (fun H locs hP => ?_)
      refine sv_i hf (fun S24 e24 hf => ?_)
      rw [← e24] at hP
      refine lv_aload_n hx hb dX6_carryAll_74 rfl (lv_at hl 0 rfl) ?_
      refine m_get C hP 4 (by decide) k4_57 rfl (v := .ref (Γ.2.2 (2))) rfl dX6_carryAll_75 ?_
      refine lv_iload_n hx hb dX6_carryAll_78 rfl (lv_at hl 1 rfl) ?_
      refine lv_aload_n hx hb dX6_carryAll_79 rfl (lv_at hl 0 rfl) ?_
      refine lv_aload_n hx hb dX6_carryAll_80 rfl (lv_at hl 0 rfl) ?_
      refine m_get C hP 4 (by decide) k4_57 rfl (v := .ref (Γ.2.2 (2))) rfl dX6_carryAll_81 ?_
      refine lv_iload_n hx hb dX6_carryAll_84 rfl (lv_at hl 1 rfl) ?_
      refine gi_i hf (fun hi25 hj26 hf => ?_)
      refine m_ild C hP mA_2 hi25 dX6_carryAll_85 ?_
      refine bd_i hf (fun v27 S27 hq27 hf => ?_)
      refine goI (runV (rest := [.int x3, .ref (Γ.2.2 (2))]) (b := 0) (mX6_carry l Γ  hq27) C hP hl.1 (by decide) mE0 rfl k4_194 qX6_carry.1 qX6_carry.2.1 qX6_carry.2.2.1 qX6_carry.2.2.2.1 rfl qX6_carry.2.2.2.2 ⟨Nat.le_of_ble_eq_true rfl, Nat.le_of_ble_eq_true rfl⟩ ⟨Nat.le_refl 0, Nat.le_refl 0⟩ (Nat.le_of_ble_eq_true rfl) dX6_carryAll_86) hP (fun H locs hP => ?_)
      refine gi_i hf (fun hi28 hj29 hf => ?_)
      refine m_ist C hP mA_2 hi28 dX6_carryAll_89 (fun H locs hP => ?_)
      refine sv_i hf (fun S30 e30 hf => ?_)
      rw [← e30] at hP
      refine lv_aload_n hx hb dX6_carryAll_90 rfl (lv_at hl 0 rfl) ?_
      refine m_get C hP 5 (by decide) k4_58 rfl (v := .ref (Γ.2.2 (3))) rfl dX6_carryAll_91 ?_
      refine lv_iload_n hx hb dX6_carryAll_94 rfl (lv_at hl 1 rfl) ?_
      refine lv_aload_n hx hb dX6_carryAll_95 rfl (lv_at hl 0 rfl) ?_
      refine lv_aload_n hx hb dX6_carryAll_96 rfl (lv_at hl 0 rfl) ?_
      refine m_get C hP 5 (by decide) k4_58 rfl (v := .ref (Γ.2.2 (3))) rfl dX6_carryAll_97 ?_
      refine lv_iload_n hx hb dX6_carryAll_100 rfl (lv_at hl 1 rfl) ?_
      refine gi_i hf (fun hi31 hj32 hf => ?_)
      refine m_ild C hP mA_3 hi31 dX6_carryAll_101 ?_
      refine bd_i hf (fun v33 S33 hq33 hf => ?_)
      refine goI (runV (rest := [.int x3, .ref (Γ.2.2 (3))]) (b := 0) (mX6_carry l Γ  hq33) C hP hl.1 (by decide) mE0 rfl k4_194 qX6_carry.1 qX6_carry.2.1 qX6_carry.2.2.1 qX6_carry.2.2.2.1 rfl qX6_carry.2.2.2.2 ⟨Nat.le_of_ble_eq_true rfl, Nat.le_of_ble_eq_true rfl⟩ ⟨Nat.le_refl 0, Nat.le_refl 0⟩ (Nat.le_of_ble_eq_true rfl) dX6_carryAll_102) hP (fun H locs hP => ?_)
      refine gi_i hf (fun hi34 hj35 hf => ?_)
      refine m_ist C hP mA_3 hi34 dX6_carryAll_105 (fun H locs hP => ?_)
      refine sv_i hf (fun S36 e36 hf => ?_)
      rw [← e36] at hP
      refine lv_aload_n hx hb dX6_carryAll_106 rfl (lv_at hl 0 rfl) ?_
      refine m_get C hP 6 (by decide) k4_59 rfl (v := .ref (Γ.2.2 (4))) rfl dX6_carryAll_107 ?_
      refine lv_iload_n hx hb dX6_carryAll_110 rfl (lv_at hl 1 rfl) ?_
      refine lv_aload_n hx hb dX6_carryAll_111 rfl (lv_at hl 0 rfl) ?_
      refine lv_aload_n hx hb dX6_carryAll_112 rfl (lv_at hl 0 rfl) ?_
      refine m_get C hP 6 (by decide) k4_59 rfl (v := .ref (Γ.2.2 (4))) rfl dX6_carryAll_113 ?_
      refine lv_iload_n hx hb dX6_carryAll_116 rfl (lv_at hl 1 rfl) ?_
      refine gi_i hf (fun hi37 hj38 hf => ?_)
      refine m_ild C hP mA_4 hi37 dX6_carryAll_117 ?_
      refine bd_i hf (fun v39 S39 hq39 hf => ?_)
      refine goI (runV (rest := [.int x3, .ref (Γ.2.2 (4))]) (b := 0) (mX6_carry l Γ  hq39) C hP hl.1 (by decide) mE0 rfl k4_194 qX6_carry.1 qX6_carry.2.1 qX6_carry.2.2.1 qX6_carry.2.2.2.1 rfl qX6_carry.2.2.2.2 ⟨Nat.le_of_ble_eq_true rfl, Nat.le_of_ble_eq_true rfl⟩ ⟨Nat.le_refl 0, Nat.le_refl 0⟩ (Nat.le_of_ble_eq_true rfl) dX6_carryAll_118) hP (fun H locs hP => ?_)
      refine gi_i hf (fun hi40 hj41 hf => ?_)
      refine m_ist C hP mA_4 hi40 dX6_carryAll_121 (fun H locs hP => ?_)
      refine sv_i hf (fun S42 e42 hf => ?_)
      rw [← e42] at hP
      refine lv_aload_n hx hb dX6_carryAll_122 rfl (lv_at hl 0 rfl) ?_
      refine m_get C hP 7 (by decide) k4_60 rfl (v := .ref (Γ.2.2 (5))) rfl dX6_carryAll_123 ?_
      refine lv_iload_n hx hb dX6_carryAll_126 rfl (lv_at hl 1 rfl) ?_
      refine lv_aload_n hx hb dX6_carryAll_127 rfl (lv_at hl 0 rfl) ?_
      refine lv_aload_n hx hb dX6_carryAll_128 rfl (lv_at hl 0 rfl) ?_
      refine m_get C hP 7 (by decide) k4_60 rfl (v := .ref (Γ.2.2 (5))) rfl dX6_carryAll_129 ?_
      refine lv_iload_n hx hb dX6_carryAll_132 rfl (lv_at hl 1 rfl) ?_
      refine gi_i hf (fun hi43 hj44 hf => ?_)
      refine m_ild C hP mA_5 hi43 dX6_carryAll_133 ?_
      refine bd_i hf (fun v45 S45 hq45 hf => ?_)
      refine goI (runV (rest := [.int x3, .ref (Γ.2.2 (5))]) (b := 0) (mX6_carry l Γ  hq45) C hP hl.1 (by decide) mE0 rfl k4_194 qX6_carry.1 qX6_carry.2.1 qX6_carry.2.2.1 qX6_carry.2.2.2.1 rfl qX6_carry.2.2.2.2 ⟨Nat.le_of_ble_eq_true rfl, Nat.le_of_ble_eq_true rfl⟩ ⟨Nat.le_refl 0, Nat.le_refl 0⟩ (Nat.le_of_ble_eq_true rfl) dX6_carryAll_134) hP (fun H locs hP => ?_)
      refine gi_i hf (fun hi46 hj47 hf => ?_)
      refine m_ist C hP mA_5 hi46 dX6_carryAll_137 (fun H locs hP => ?_)
      refine sv_i hf (fun S48 e48 hf => ?_)
      rw [← e48] at hP
      refine lv_iinc (v := x3 + (nI 1)) (lv' := [(3, .int (x3 + (nI 1))), (0, .ref (Γ.2.2 (0)))]) hx hb dX6_carryAll_138 hl (k := 1) rfl rfl (by decide) rfl (fun ls hl => ?_)
      refine lv_goto (tgt := 53) hx hb dX6_carryAll_141 (by decide) ?_
      exact ih S48 (x3 + (nI 1))  hf _ _ _ hP (lv_sub hl [1, 0] rfl)
def fX6_carryAll (u1 : Nat) (S : mM) (x2 : Int32) : Option mM :=
  sv ((S.1, S.2.1, u1)) fun S1 => ( gb x2 (sv (mS S1 0 15 x2) fun S3 => ( sv (mS S3 0 14 (nI 0)) fun S4 => ( bd (fX6_carry S4 (S4.1 0 0)) fun v5 S5 => ( sv (mS S5 0 0 v5) fun S6 => ( bd (fX6_carry S6 (S6.1 0 1)) fun v7 S7 => ( sv (mS S7 0 1 v7) fun S8 => ( bd (fX6_carry S8 (S8.1 0 2)) fun v9 S9 => ( sv (mS S9 0 2 v9) fun S10 => ( fX6_carryAll_53 u1  lF S10 (nI 0)))))))))))
set_option maxHeartbeats 4000000 in
set_option maxRecDepth 100000 in
theorem mX6_carryAll (l : Launch) (Γ : gG) {u1 : Nat} (hu1 : mAr u1 68) {S : mM} {x2 : Int32} {Sz : mM} (hf : fX6_carryAll u1 S x2 = some Sz) : CtV l Γ 28 yX6_carryAll cX6_carryAll 4 1 21 [.ref (Γ.2.2 (0)), .ref (Γ.2.2 (u1)), .int x2] (mE Γ S) (mE Γ Sz) := by
  refine met_body (Γ := Γ) (lv := [(0, .ref (Γ.2.2 (0))), (1, .ref (Γ.2.2 (u1))), (2, .int x2)]) RX6 (by decide) rfl rfl rfl ?_
  intro p e s m below meth c H locs ls C hP hl
  obtain ⟨hx, hb, -, -, hown, hts, -, hwx, -⟩ := id C
  unfold fX6_carryAll at hf
  refine lv_aload_n hx hb dX6_carryAll_0 rfl (lv_at hl 0 rfl) ?_
  refine lv_aload_n hx hb dX6_carryAll_1 rfl (lv_at hl 1 rfl) ?_
  refine m_putK C hP hu1 k4_69 dX6_carryAll_2 (fun H locs hP => ?_)
  refine sv_i hf (fun S1 e1 hf => ?_)
  rw [← e1] at hP
  refine lv_aload_n hx hb dX6_carryAll_5 rfl (lv_at hl 0 rfl) ?_
  refine lv_iload_n hx hb dX6_carryAll_6 rfl (lv_at hl 2 rfl) ?_
  refine gb_i hf (fun hz2 hf => ?_)
  refine m_putZ C hP 15 (by decide) k4_68 hz2 dX6_carryAll_7 (fun H locs hP => ?_)
  refine sv_i hf (fun S3 e3 hf => ?_)
  rw [← e3] at hP
  refine lv_aload_n hx hb dX6_carryAll_10 rfl (lv_at hl 0 rfl) ?_
  refine lv_iconst (v := nI 0) hx hb dX6_carryAll_11 rfl ?_
  refine m_put C hP 14 (by decide) k4_67 dX6_carryAll_12 (fun H locs hP => ?_)
  refine sv_i hf (fun S4 e4 hf => ?_)
  rw [← e4] at hP
  refine lv_aload_n hx hb dX6_carryAll_15 rfl (lv_at hl 0 rfl) ?_
  refine lv_aload_n hx hb dX6_carryAll_16 rfl (lv_at hl 0 rfl) ?_
  refine lv_aload_n hx hb dX6_carryAll_17 rfl (lv_at hl 0 rfl) ?_
  refine m_get C hP 0 (by decide) k4_53 rfl (v := .int (S4.1 0 0)) rfl dX6_carryAll_18 ?_
  refine bd_i hf (fun v5 S5 hq5 hf => ?_)
  refine goI (runV (rest := [.ref (Γ.2.2 (0))]) (b := 0) (mX6_carry l Γ  hq5) C hP hl.1 (by decide) mE0 rfl k4_194 qX6_carry.1 qX6_carry.2.1 qX6_carry.2.2.1 qX6_carry.2.2.2.1 rfl qX6_carry.2.2.2.2 ⟨Nat.le_of_ble_eq_true rfl, Nat.le_of_ble_eq_true rfl⟩ ⟨Nat.le_refl 0, Nat.le_refl 0⟩ (Nat.le_of_ble_eq_true rfl) dX6_carryAll_21) hP (fun H locs hP => ?_)
  refine m_put C hP 0 (by decide) k4_53 dX6_carryAll_24 (fun H locs hP => ?_)
  refine sv_i hf (fun S6 e6 hf => ?_)
  rw [← e6] at hP
  refine lv_aload_n hx hb dX6_carryAll_27 rfl (lv_at hl 0 rfl) ?_
  refine lv_aload_n hx hb dX6_carryAll_28 rfl (lv_at hl 0 rfl) ?_
  refine lv_aload_n hx hb dX6_carryAll_29 rfl (lv_at hl 0 rfl) ?_
  refine m_get C hP 1 (by decide) k4_54 rfl (v := .int (S6.1 0 1)) rfl dX6_carryAll_30 ?_
  refine bd_i hf (fun v7 S7 hq7 hf => ?_)
  refine goI (runV (rest := [.ref (Γ.2.2 (0))]) (b := 0) (mX6_carry l Γ  hq7) C hP hl.1 (by decide) mE0 rfl k4_194 qX6_carry.1 qX6_carry.2.1 qX6_carry.2.2.1 qX6_carry.2.2.2.1 rfl qX6_carry.2.2.2.2 ⟨Nat.le_of_ble_eq_true rfl, Nat.le_of_ble_eq_true rfl⟩ ⟨Nat.le_refl 0, Nat.le_refl 0⟩ (Nat.le_of_ble_eq_true rfl) dX6_carryAll_33) hP (fun H locs hP => ?_)
  refine m_put C hP 1 (by decide) k4_54 dX6_carryAll_36 (fun H locs hP => ?_)
  refine sv_i hf (fun S8 e8 hf => ?_)
  rw [← e8] at hP
  refine lv_aload_n hx hb dX6_carryAll_39 rfl (lv_at hl 0 rfl) ?_
  refine lv_aload_n hx hb dX6_carryAll_40 rfl (lv_at hl 0 rfl) ?_
  refine lv_aload_n hx hb dX6_carryAll_41 rfl (lv_at hl 0 rfl) ?_
  refine m_get C hP 2 (by decide) k4_55 rfl (v := .int (S8.1 0 2)) rfl dX6_carryAll_42 ?_
  refine bd_i hf (fun v9 S9 hq9 hf => ?_)
  refine goI (runV (rest := [.ref (Γ.2.2 (0))]) (b := 0) (mX6_carry l Γ  hq9) C hP hl.1 (by decide) mE0 rfl k4_194 qX6_carry.1 qX6_carry.2.1 qX6_carry.2.2.1 qX6_carry.2.2.2.1 rfl qX6_carry.2.2.2.2 ⟨Nat.le_of_ble_eq_true rfl, Nat.le_of_ble_eq_true rfl⟩ ⟨Nat.le_refl 0, Nat.le_refl 0⟩ (Nat.le_of_ble_eq_true rfl) dX6_carryAll_45) hP (fun H locs hP => ?_)
  refine m_put C hP 2 (by decide) k4_55 dX6_carryAll_48 (fun H locs hP => ?_)
  refine sv_i hf (fun S10 e10 hf => ?_)
  rw [← e10] at hP
  refine lv_iconst (v := nI 0) hx hb dX6_carryAll_51 rfl ?_
  refine lv_istore_n (lv' := [(3, .int (nI 0)), (0, .ref (Γ.2.2 (0))), (1, .ref (Γ.2.2 (u1))), (2, .int x2)]) hx hb dX6_carryAll_52 rfl hl (by decide) rfl (fun ls hl => ?_)
  exact wX6_carryAll_53 C hu1  lF S10 (nI 0)  hf _ _ _ hP (lv_sub hl [1, 0] rfl)
-- X6_open
theorem qX6_open : Cond.instanceMethod yX6_open ∈ Ub ∧ Cond.selects RX6 yX6_open yX6_open ∈ Ub ∧ Cond.initialized RX6 ∈ Ub ∧ Cond.code yX6_open cX6_open 1 (none : Option Jvm.ClassFile.FieldType) ∈ Ub ∧ (yX6_open.cls = RX6 ∧ yX6_open.cls ≠ "java/lang/invoke/MethodHandle" ∧ yX6_open.cls ≠ "java/lang/invoke/VarHandle" ∧ (parseMethodDescriptor yX6_open.desc).map (fun d => d.parameters.length) = some 0) := ⟨k4_234, ks_30, k1_5, k4_235, by decide +kernel⟩
def fX6_open  (S : mM)  : Option mM :=
  bv (fX6_carryAll 8 S (nI 1)) fun S1 => ( some S1)
set_option maxHeartbeats 4000000 in
set_option maxRecDepth 100000 in
theorem mX6_open (l : Launch) (Γ : gG)   {S : mM}  {Sz : mM} (hf : fX6_open S = some Sz) : CtV l Γ 28 yX6_open cX6_open 1 2 44 [.ref (Γ.2.2 (0))] (mE Γ S) (mE Γ Sz) := by
  refine met_body (Γ := Γ) (lv := [(0, .ref (Γ.2.2 (0)))]) RX6 (by decide) rfl rfl rfl ?_
  intro p e s m below meth c H locs ls C hP hl
  obtain ⟨hx, hb, -, -, hown, hts, -, hwx, -⟩ := id C
  unfold fX6_open at hf
  refine lv_aload_n hx hb dX6_open_0 rfl (lv_at hl 0 rfl) ?_
  refine lv_aload_n hx hb dX6_open_1 rfl (lv_at hl 0 rfl) ?_
  refine m_get C hP 11 (by decide) k4_64 rfl (v := .ref (Γ.2.2 (8))) rfl dX6_open_2 ?_
  refine lv_iconst (v := nI 1) hx hb dX6_open_5 rfl ?_
  refine bv_i hf (fun S1 hq1 hf => ?_)
  refine goV (runV (rest := []) (b := 0) (mX6_carryAll l Γ mA_8 hq1) C hP hl.1 (by decide) mE0 rfl k4_190 qX6_carryAll.1 qX6_carryAll.2.1 qX6_carryAll.2.2.1 qX6_carryAll.2.2.2.1 rfl qX6_carryAll.2.2.2.2 ⟨Nat.le_of_ble_eq_true rfl, Nat.le_of_ble_eq_true rfl⟩ ⟨Nat.le_refl 0, Nat.le_refl 0⟩ (Nat.le_of_ble_eq_true rfl) dX6_open_6) hP (fun H locs hP => ?_)
  exact r_vret (X := mE Γ) C hP hf dX6_open_9
-- X6_close
theorem qX6_close : Cond.instanceMethod yX6_close ∈ Ub ∧ Cond.selects RX6 yX6_close yX6_close ∈ Ub ∧ Cond.initialized RX6 ∈ Ub ∧ Cond.code yX6_close cX6_close 1 (none : Option Jvm.ClassFile.FieldType) ∈ Ub ∧ (yX6_close.cls = RX6 ∧ yX6_close.cls ≠ "java/lang/invoke/MethodHandle" ∧ yX6_close.cls ≠ "java/lang/invoke/VarHandle" ∧ (parseMethodDescriptor yX6_close.desc).map (fun d => d.parameters.length) = some 0) := ⟨k5_36, ks_39, k1_5, k5_37, by decide +kernel⟩
def fX6_close  (S : mM)  : Option mM :=
  bv (fX6_carryAll 8 S (nI 0)) fun S1 => ( some S1)
set_option maxHeartbeats 4000000 in
set_option maxRecDepth 100000 in
theorem mX6_close (l : Launch) (Γ : gG)   {S : mM}  {Sz : mM} (hf : fX6_close S = some Sz) : CtV l Γ 28 yX6_close cX6_close 1 2 44 [.ref (Γ.2.2 (0))] (mE Γ S) (mE Γ Sz) := by
  refine met_body (Γ := Γ) (lv := [(0, .ref (Γ.2.2 (0)))]) RX6 (by decide) rfl rfl rfl ?_
  intro p e s m below meth c H locs ls C hP hl
  obtain ⟨hx, hb, -, -, hown, hts, -, hwx, -⟩ := id C
  unfold fX6_close at hf
  refine lv_aload_n hx hb dX6_close_0 rfl (lv_at hl 0 rfl) ?_
  refine lv_aload_n hx hb dX6_close_1 rfl (lv_at hl 0 rfl) ?_
  refine m_get C hP 11 (by decide) k4_64 rfl (v := .ref (Γ.2.2 (8))) rfl dX6_close_2 ?_
  refine lv_iconst (v := nI 0) hx hb dX6_close_5 rfl ?_
  refine bv_i hf (fun S1 hq1 hf => ?_)
  refine goV (runV (rest := []) (b := 0) (mX6_carryAll l Γ mA_8 hq1) C hP hl.1 (by decide) mE0 rfl k4_190 qX6_carryAll.1 qX6_carryAll.2.1 qX6_carryAll.2.2.1 qX6_carryAll.2.2.2.1 rfl qX6_carryAll.2.2.2.2 ⟨Nat.le_of_ble_eq_true rfl, Nat.le_of_ble_eq_true rfl⟩ ⟨Nat.le_refl 0, Nat.le_refl 0⟩ (Nat.le_of_ble_eq_true rfl) dX6_close_6) hP (fun H locs hP => ?_)
  exact r_vret (X := mE Γ) C hP hf dX6_close_9
-- X6_image
theorem qX6_image : Cond.instanceMethod yX6_image ∈ Ub ∧ Cond.selects RX6 yX6_image yX6_image ∈ Ub ∧ Cond.initialized RX6 ∈ Ub ∧ Cond.code yX6_image cX6_image 1 (some FieldType.int) ∈ Ub ∧ (yX6_image.cls = RX6 ∧ yX6_image.cls ≠ "java/lang/invoke/MethodHandle" ∧ yX6_image.cls ≠ "java/lang/invoke/VarHandle" ∧ (parseMethodDescriptor yX6_image.desc).map (fun d => d.parameters.length) = some 0) := ⟨k4_187, k4_188, k1_5, k4_189, by decide +kernel⟩
def fX6_image  (S : mM)  : Option (Int32 × mM) :=
  sv (mS S 0 9 (nI 0)) fun S1 => ( sv (mS S1 0 13 (nI 1)) fun S2 => ( bv (fX6_carryAll 9 S2 (nI 1)) fun S3 => ( some (S3.1 0 1, S3))))
set_option maxHeartbeats 4000000 in
set_option maxRecDepth 100000 in
theorem mX6_image (l : Launch) (Γ : gG)   {S : mM}  {rz : Int32} {Sz : mM} (hf : fX6_image S = some (rz, Sz)) : CtI l Γ 28 yX6_image cX6_image 1 .int 2 44 [.ref (Γ.2.2 (0))] (mE Γ S) rz (mE Γ Sz) := by
  refine met_body (Γ := Γ) (lv := [(0, .ref (Γ.2.2 (0)))]) RX6 (by decide) rfl rfl rfl ?_
  intro p e s m below meth c H locs ls C hP hl
  obtain ⟨hx, hb, -, -, hown, hts, -, hwx, -⟩ := id C
  unfold fX6_image at hf
  refine lv_aload_n hx hb dX6_image_0 rfl (lv_at hl 0 rfl) ?_
  refine lv_iconst (v := nI 0) hx hb dX6_image_1 rfl ?_
  refine m_put C hP 9 (by decide) k4_62 dX6_image_2 (fun H locs hP => ?_)
  refine sv_i hf (fun S1 e1 hf => ?_)
  rw [← e1] at hP
  refine lv_aload_n hx hb dX6_image_5 rfl (lv_at hl 0 rfl) ?_
  refine lv_iconst (v := nI 1) hx hb dX6_image_6 rfl ?_
  refine m_putZ C hP 13 (by decide) k4_66 (Or.inr rfl) dX6_image_7 (fun H locs hP => ?_)
  refine sv_i hf (fun S2 e2 hf => ?_)
  rw [← e2] at hP
  refine lv_aload_n hx hb dX6_image_10 rfl (lv_at hl 0 rfl) ?_
  refine lv_aload_n hx hb dX6_image_11 rfl (lv_at hl 0 rfl) ?_
  refine m_get C hP 12 (by decide) k4_65 rfl (v := .ref (Γ.2.2 (9))) rfl dX6_image_12 ?_
  refine lv_iconst (v := nI 1) hx hb dX6_image_15 rfl ?_
  refine bv_i hf (fun S3 hq3 hf => ?_)
  refine goV (runV (rest := []) (b := 0) (mX6_carryAll l Γ mA_9 hq3) C hP hl.1 (by decide) mE0 rfl k4_190 qX6_carryAll.1 qX6_carryAll.2.1 qX6_carryAll.2.2.1 qX6_carryAll.2.2.2.1 rfl qX6_carryAll.2.2.2.2 ⟨Nat.le_of_ble_eq_true rfl, Nat.le_of_ble_eq_true rfl⟩ ⟨Nat.le_refl 0, Nat.le_refl 0⟩ (Nat.le_of_ble_eq_true rfl) dX6_image_16) hP (fun H locs hP => ?_)
  refine lv_aload_n hx hb dX6_image_19 rfl (lv_at hl 0 rfl) ?_
  refine m_get C hP 1 (by decide) k4_54 rfl (v := .int (S3.1 0 1)) rfl dX6_image_20 ?_
  exact r_iret (X := mE Γ) C hP hf dX6_image_23
-- X6_restore
theorem qX6_restore : Cond.instanceMethod yX6_restore ∈ Ub ∧ Cond.selects RX6 yX6_restore yX6_restore ∈ Ub ∧ Cond.initialized RX6 ∈ Ub ∧ Cond.code yX6_restore cX6_restore 1 (some FieldType.int) ∈ Ub ∧ (yX6_restore.cls = RX6 ∧ yX6_restore.cls ≠ "java/lang/invoke/MethodHandle" ∧ yX6_restore.cls ≠ "java/lang/invoke/VarHandle" ∧ (parseMethodDescriptor yX6_restore.desc).map (fun d => d.parameters.length) = some 0) := ⟨k4_199, k4_200, k1_5, k4_201, by decide +kernel⟩
def fX6_restore  (S : mM)  : Option (Int32 × mM) :=
  sv (mS S 0 9 (nI 0)) fun S1 => ( if (S1.1 0 13) = 0 then some ((-3), S1) else bv (fX6_carryAll 9 S1 (nI 0)) fun S3 => ( some (S3.1 0 1, S3)))
set_option maxHeartbeats 4000000 in
set_option maxRecDepth 100000 in
theorem mX6_restore (l : Launch) (Γ : gG)   {S : mM}  {rz : Int32} {Sz : mM} (hf : fX6_restore S = some (rz, Sz)) : CtI l Γ 28 yX6_restore cX6_restore 1 .int 2 44 [.ref (Γ.2.2 (0))] (mE Γ S) rz (mE Γ Sz) := by
  refine met_body (Γ := Γ) (lv := [(0, .ref (Γ.2.2 (0)))]) RX6 (by decide) rfl rfl rfl ?_
  intro p e s m below meth c H locs ls C hP hl
  obtain ⟨hx, hb, -, -, hown, hts, -, hwx, -⟩ := id C
  unfold fX6_restore at hf
  refine lv_aload_n hx hb dX6_restore_0 rfl (lv_at hl 0 rfl) ?_
  refine lv_iconst (v := nI 0) hx hb dX6_restore_1 rfl ?_
  refine m_put C hP 9 (by decide) k4_62 dX6_restore_2 (fun H locs hP => ?_)
  refine sv_i hf (fun S1 e1 hf => ?_)
  rw [← e1] at hP
  refine lv_aload_n hx hb dX6_restore_5 rfl (lv_at hl 0 rfl) ?_
  refine m_get C hP 13 (by decide) k4_66 rfl (v := .int (S1.1 0 13)) rfl dX6_restore_6 ?_
  refine lv_if_ne (tgt := 15) hx hb dX6_restore_9 (by decide) (fun hc2 => ?_) (fun hc2 => ?_)
  · have hf := if_f hc2 hf
    refine lv_aload_n hx hb dX6_restore_15 rfl (lv_at hl 0 rfl) ?_
    refine lv_aload_n hx hb dX6_restore_16 rfl (lv_at hl 0 rfl) ?_
    refine m_get C hP 12 (by decide) k4_65 rfl (v := .ref (Γ.2.2 (9))) rfl dX6_restore_17 ?_
    refine lv_iconst (v := nI 0) hx hb dX6_restore_20 rfl ?_
    refine bv_i hf (fun S3 hq3 hf => ?_)
    refine goV (runV (rest := []) (b := 0) (mX6_carryAll l Γ mA_9 hq3) C hP hl.1 (by decide) mE0 rfl k4_190 qX6_carryAll.1 qX6_carryAll.2.1 qX6_carryAll.2.2.1 qX6_carryAll.2.2.2.1 rfl qX6_carryAll.2.2.2.2 ⟨Nat.le_of_ble_eq_true rfl, Nat.le_of_ble_eq_true rfl⟩ ⟨Nat.le_refl 0, Nat.le_refl 0⟩ (Nat.le_of_ble_eq_true rfl) dX6_restore_21) hP (fun H locs hP => ?_)
    refine lv_aload_n hx hb dX6_restore_24 rfl (lv_at hl 0 rfl) ?_
    refine m_get C hP 1 (by decide) k4_54 rfl (v := .int (S3.1 0 1)) rfl dX6_restore_25 ?_
    exact r_iret (X := mE Γ) C hP hf dX6_restore_28
  · have hf := if_t hc2 hf
    refine lv_bipush (v := (-3)) hx hb dX6_restore_12 rfl ?_
    exact r_iret (X := mE Γ) C hP hf dX6_restore_14
