-- X2_laneMinutes
theorem qX2_laneMinutes : Cond.static yX2_laneMinutes ∈ Ub ∧ Cond.initialized RX2 ∈ Ub ∧ Cond.code yX2_laneMinutes cX2_laneMinutes 1 (some FieldType.int) ∈ Ub ∧ (yX2_laneMinutes.cls = RX2 ∧ yX2_laneMinutes.cls ≠ "java/lang/invoke/MethodHandle" ∧ yX2_laneMinutes.cls ≠ "java/lang/invoke/VarHandle" ∧ (parseMethodDescriptor yX2_laneMinutes.desc).map (fun d => d.parameters.length) = some 1) := ⟨k1_225, k1_8, k1_226, by decide +kernel⟩
def fX2_laneMinutes  (S : cM) (x0 : Int32) : Option (Int32 × cM) :=
  (if x0 = nI 0 then some (nI 2, S) else if x0 = nI 1 then some (nI 3, S) else if x0 = nI 2 then some (nI 5, S) else some (nI 8, S))
set_option maxHeartbeats 4000000 in
set_option maxRecDepth 100000 in
theorem mX2_laneMinutes (l : Launch) (Γ : gG)   {S : cM} {x0 : Int32} {rz : Int32} {Sz : cM} (hf : fX2_laneMinutes S x0 = some (rz, Sz)) : CtI l Γ 74 yX2_laneMinutes cX2_laneMinutes 1 .int 0 0 [.int x0] (cE Γ S) rz (cE Γ Sz) := by
  refine met_body (Γ := Γ) (lv := [(0, .int x0)]) RX2 (by decide) rfl rfl rfl ?_
  intro p e s m below meth c H locs ls C hP hl
  obtain ⟨hx, hb, -, -, hown, hts, -, hwx, -⟩ := id C
  unfold fX2_laneMinutes at hf
  refine lv_iload_n hx hb dX2_laneMinutes_0 rfl (lv_at hl 0 rfl) ?_
  by_cases hs1 : x0 = nI 0
  · have hf := if_t hs1 hf
    refine lv_tableIn (tgt := 28) hx hb dX2_laneMinutes_1 (by rw [hs1]; decide) (by rw [hs1]; decide) (by rw [hs1]; rfl) (by decide) ?_
    refine lv_iconst (v := nI 2) hx hb dX2_laneMinutes_28 rfl ?_
    exact r_iret (X := cE Γ) C hP hf dX2_laneMinutes_29
  · have hf := if_f hs1 hf
    by_cases hs2 : x0 = nI 1
    · have hf := if_t hs2 hf
      refine lv_tableIn (tgt := 30) hx hb dX2_laneMinutes_1 (by rw [hs2]; decide) (by rw [hs2]; decide) (by rw [hs2]; rfl) (by decide) ?_
      refine lv_iconst (v := nI 3) hx hb dX2_laneMinutes_30 rfl ?_
      exact r_iret (X := cE Γ) C hP hf dX2_laneMinutes_31
    · have hf := if_f hs2 hf
      by_cases hs3 : x0 = nI 2
      · have hf := if_t hs3 hf
        refine lv_tableIn (tgt := 32) hx hb dX2_laneMinutes_1 (by rw [hs3]; decide) (by rw [hs3]; decide) (by rw [hs3]; rfl) (by decide) ?_
        refine lv_iconst (v := nI 5) hx hb dX2_laneMinutes_32 rfl ?_
        exact r_iret (X := cE Γ) C hP hf dX2_laneMinutes_33
      · have hf := if_f hs3 hf
        refine lv_tableOut (tgt := 34) hx hb dX2_laneMinutes_1 (by have q0 := ne_toInt hs1; have q1 := ne_toInt hs2; have q2 := ne_toInt hs3; rw [show (nI 0).toInt = 0 from by decide] at q0; rw [show (nI 1).toInt = 1 from by decide] at q1; rw [show (nI 2).toInt = 2 from by decide] at q2;  omega) (by decide) ?_
        refine lv_bipush (v := nI 8) hx hb dX2_laneMinutes_34 rfl ?_
        exact r_iret (X := cE Γ) C hP hf dX2_laneMinutes_36
-- X2_minutesFor
theorem qX2_minutesFor : Cond.static yX2_minutesFor ∈ Ub ∧ Cond.initialized RX2 ∈ Ub ∧ Cond.code yX2_minutesFor cX2_minutesFor 6 (some FieldType.int) ∈ Ub ∧ (yX2_minutesFor.cls = RX2 ∧ yX2_minutesFor.cls ≠ "java/lang/invoke/MethodHandle" ∧ yX2_minutesFor.cls ≠ "java/lang/invoke/VarHandle" ∧ (parseMethodDescriptor yX2_minutesFor.desc).map (fun d => d.parameters.length) = some 3) := ⟨k1_222, k1_8, k1_223, by decide +kernel⟩
def fX2_minutesFor  (S : cM) (x0 : Int32) (x1 : Int32) (x2 : Int32) : Option (Int32 × cM) :=
  bd (fX2_laneMinutes S x2) fun v1 S1 => ( (if x0 = nI 1 then some (v1 - (nI 1), S1) else if x0 = nI 2 then some ((nI 2) * v1, S1) else if x0 = nI 3 then if x2 = (nI 3) then some (((nI 2) * v1) + x1, S1) else some ((nI 2) * v1, S1) else if x0 = nI 4 then some (v1, S1) else if x0 = nI 5 then some (((nI 2) * v1) + (nI 1), S1) else if x0 = nI 6 then some (((v1 - (nI 1)) + (nI 1)) / (nI 2), S1) else if x0 = nI 7 then some (v1 + x1, S1) else some (v1, S1)))
set_option maxHeartbeats 4000000 in
set_option maxRecDepth 100000 in
theorem mX2_minutesFor (l : Launch) (Γ : gG)   {S : cM} {x0 : Int32} {x1 : Int32} {x2 : Int32} {rz : Int32} {Sz : cM} (hf : fX2_minutesFor S x0 x1 x2 = some (rz, Sz)) : CtI l Γ 74 yX2_minutesFor cX2_minutesFor 6 .int 1 20 [.int x0, .int x1, .int x2] (cE Γ S) rz (cE Γ Sz) := by
  refine met_body (Γ := Γ) (lv := [(0, .int x0), (1, .int x1), (2, .int x2)]) RX2 (by decide) rfl rfl rfl ?_
  intro p e s m below meth c H locs ls C hP hl
  obtain ⟨hx, hb, -, -, hown, hts, -, hwx, -⟩ := id C
  unfold fX2_minutesFor at hf
  refine lv_iload_n hx hb dX2_minutesFor_0 rfl (lv_at hl 2 rfl) ?_
  refine bd_i hf (fun v1 S1 hq1 hf => ?_)
  refine goI (runS (rest := []) (mX2_laneMinutes l Γ  hq1) C hP hl.1 k1_224 qX2_laneMinutes.1 qX2_laneMinutes.2.1 qX2_laneMinutes.2.2.1 rfl qX2_laneMinutes.2.2.2 ⟨Nat.le_of_ble_eq_true rfl, Nat.le_of_ble_eq_true rfl⟩ ⟨Nat.le_refl 0, Nat.le_refl 0⟩ (Nat.le_of_ble_eq_true rfl) dX2_minutesFor_1) hP (fun H locs hP => ?_)
  refine lv_istore_n (lv' := [(3, .int v1), (0, .int x0), (1, .int x1), (2, .int x2)]) hx hb dX2_minutesFor_4 rfl hl (by decide) rfl (fun ls hl => ?_)
  refine lv_iload_n hx hb dX2_minutesFor_5 rfl (lv_at hl 0 rfl) ?_
  refine lv_iconst (v := nI 1) hx hb dX2_minutesFor_6 rfl ?_
  refine lv_isub hx hb dX2_minutesFor_7 ?_
  refine lv_istore (lv' := [(4, .int (v1 - (nI 1))), (3, .int v1), (0, .int x0), (1, .int x1), (2, .int x2)]) hx hb dX2_minutesFor_8 hl (by decide) rfl (fun ls hl => ?_)
  refine lv_iconst (v := nI 2) hx hb dX2_minutesFor_10 rfl ?_
  refine lv_iload_n hx hb dX2_minutesFor_11 rfl (lv_at hl 1 rfl) ?_
  refine lv_imul hx hb dX2_minutesFor_12 ?_
  refine lv_istore (lv' := [(5, .int ((nI 2) * v1)), (4, .int (v1 - (nI 1))), (3, .int v1), (0, .int x0), (1, .int x1), (2, .int x2)]) hx hb dX2_minutesFor_13 hl (by decide) rfl (fun ls hl => ?_)
  refine lv_iload_n hx hb dX2_minutesFor_15 rfl (lv_at hl 3 rfl) ?_
  by_cases hs2 : x0 = nI 1
  · have hf := if_t hs2 hf
    refine lv_tableIn (tgt := 60) hx hb dX2_minutesFor_16 (by rw [hs2]; decide) (by rw [hs2]; decide) (by rw [hs2]; rfl) (by decide) ?_
    refine lv_iload hx hb dX2_minutesFor_60 (lv_at hl 1 rfl) ?_
    exact r_iret (X := cE Γ) C hP hf dX2_minutesFor_62
  · have hf := if_f hs2 hf
    by_cases hs3 : x0 = nI 2
    · have hf := if_t hs3 hf
      refine lv_tableIn (tgt := 63) hx hb dX2_minutesFor_16 (by rw [hs3]; decide) (by rw [hs3]; decide) (by rw [hs3]; rfl) (by decide) ?_
      refine lv_iload hx hb dX2_minutesFor_63 (lv_at hl 0 rfl) ?_
      exact r_iret (X := cE Γ) C hP hf dX2_minutesFor_65
    · have hf := if_f hs3 hf
      by_cases hs4 : x0 = nI 3
      · have hf := if_t hs4 hf
        refine lv_tableIn (tgt := 66) hx hb dX2_minutesFor_16 (by rw [hs4]; decide) (by rw [hs4]; decide) (by rw [hs4]; rfl) (by decide) ?_
        refine lv_iload_n hx hb dX2_minutesFor_66 rfl (lv_at hl 5 rfl) ?_
        refine lv_iconst (v := nI 3) hx hb dX2_minutesFor_67 rfl ?_
        refine lv_icmp_ne (tgt := 78) hx hb dX2_minutesFor_68 (by decide) (fun hc5 => ?_) (fun hc5 => ?_)
        · have hf := if_f hc5 hf
          refine lv_iload hx hb dX2_minutesFor_78 (lv_at hl 0 rfl) ?_
          exact r_iret (X := cE Γ) C hP hf dX2_minutesFor_80
        · have hf := if_t hc5 hf
          refine lv_iload hx hb dX2_minutesFor_71 (lv_at hl 0 rfl) ?_
          refine lv_iload_n hx hb dX2_minutesFor_73 rfl (lv_at hl 4 rfl) ?_
          refine lv_iadd hx hb dX2_minutesFor_74 ?_
          refine lv_goto (tgt := 80) hx hb dX2_minutesFor_75 (by decide) ?_
          exact r_iret (X := cE Γ) C hP hf dX2_minutesFor_80
      · have hf := if_f hs4 hf
        by_cases hs6 : x0 = nI 4
        · have hf := if_t hs6 hf
          refine lv_tableIn (tgt := 97) hx hb dX2_minutesFor_16 (by rw [hs6]; decide) (by rw [hs6]; decide) (by rw [hs6]; rfl) (by decide) ?_
          refine lv_iload_n hx hb dX2_minutesFor_97 rfl (lv_at hl 2 rfl) ?_
          exact r_iret (X := cE Γ) C hP hf dX2_minutesFor_98
        · have hf := if_f hs6 hf
          by_cases hs7 : x0 = nI 5
          · have hf := if_t hs7 hf
            refine lv_tableIn (tgt := 81) hx hb dX2_minutesFor_16 (by rw [hs7]; decide) (by rw [hs7]; decide) (by rw [hs7]; rfl) (by decide) ?_
            refine lv_iload hx hb dX2_minutesFor_81 (lv_at hl 0 rfl) ?_
            refine lv_iconst (v := nI 1) hx hb dX2_minutesFor_83 rfl ?_
            refine lv_iadd hx hb dX2_minutesFor_84 ?_
            exact r_iret (X := cE Γ) C hP hf dX2_minutesFor_85
          · have hf := if_f hs7 hf
            by_cases hs8 : x0 = nI 6
            · have hf := if_t hs8 hf
              refine lv_tableIn (tgt := 86) hx hb dX2_minutesFor_16 (by rw [hs8]; decide) (by rw [hs8]; decide) (by rw [hs8]; rfl) (by decide) ?_
              refine lv_iload hx hb dX2_minutesFor_86 (lv_at hl 1 rfl) ?_
              refine lv_iconst (v := nI 1) hx hb dX2_minutesFor_88 rfl ?_
              refine lv_iadd hx hb dX2_minutesFor_89 ?_
              refine lv_iconst (v := nI 2) hx hb dX2_minutesFor_90 rfl ?_
              refine lv_idiv hx hb dX2_minutesFor_91 (by decide) ?_
              exact r_iret (X := cE Γ) C hP hf dX2_minutesFor_92
            · have hf := if_f hs8 hf
              by_cases hs9 : x0 = nI 7
              · have hf := if_t hs9 hf
                refine lv_tableIn (tgt := 93) hx hb dX2_minutesFor_16 (by rw [hs9]; decide) (by rw [hs9]; decide) (by rw [hs9]; rfl) (by decide) ?_
                refine lv_iload_n hx hb dX2_minutesFor_93 rfl (lv_at hl 2 rfl) ?_
                refine lv_iload_n hx hb dX2_minutesFor_94 rfl (lv_at hl 4 rfl) ?_
                refine lv_iadd hx hb dX2_minutesFor_95 ?_
                exact r_iret (X := cE Γ) C hP hf dX2_minutesFor_96
              · have hf := if_f hs9 hf
                refine lv_tableOut (tgt := 97) hx hb dX2_minutesFor_16 (by have q0 := ne_toInt hs2; have q1 := ne_toInt hs3; have q2 := ne_toInt hs4; have q3 := ne_toInt hs6; have q4 := ne_toInt hs7; have q5 := ne_toInt hs8; have q6 := ne_toInt hs9; rw [show (nI 1).toInt = 1 from by decide] at q0; rw [show (nI 2).toInt = 2 from by decide] at q1; rw [show (nI 3).toInt = 3 from by decide] at q2; rw [show (nI 4).toInt = 4 from by decide] at q3; rw [show (nI 5).toInt = 5 from by decide] at q4; rw [show (nI 6).toInt = 6 from by decide] at q5; rw [show (nI 7).toInt = 7 from by decide] at q6;  omega) (by decide) ?_
                refine lv_iload_n hx hb dX2_minutesFor_97 rfl (lv_at hl 2 rfl) ?_
                exact r_iret (X := cE Γ) C hP hf dX2_minutesFor_98
-- X2_seenOf
theorem qX2_seenOf : Cond.static yX2_seenOf ∈ Ub ∧ Cond.initialized RX2 ∈ Ub ∧ Cond.code yX2_seenOf cX2_seenOf 4 (some FieldType.int) ∈ Ub ∧ (yX2_seenOf.cls = RX2 ∧ yX2_seenOf.cls ≠ "java/lang/invoke/MethodHandle" ∧ yX2_seenOf.cls ≠ "java/lang/invoke/VarHandle" ∧ (parseMethodDescriptor yX2_seenOf.desc).map (fun d => d.parameters.length) = some 3) := ⟨k2_43, k1_8, k2_44, by decide +kernel⟩
def fX2_seenOf  (S : cM) (x0 : Int32) (x1 : Int32) (x2 : Int32) : Option (Int32 × cM) :=
  (if x0 = nI 2 then some (if (nI 0) < (x2 - (nI 1)) then (x2 - (nI 1)) else (nI 0), S) else if x0 = nI 3 then some (if (nI 0) < (x2 - (nI 1)) then (x2 - (nI 1)) else (nI 0), S) else if x0 = nI 4 then some (if x1 < x2 then x1 else x2, S) else if x0 = nI 5 then some ((if (nI 0) < (x2 - (nI 1)) then (x2 - (nI 1)) else (nI 0)) / (nI 2), S) else if x0 = nI 6 then some (x2, S) else if x0 = nI 7 then some ((x2 + (nI 1)) / (nI 2), S) else some (x2, S))
set_option maxHeartbeats 4000000 in
set_option maxRecDepth 100000 in
theorem mX2_seenOf (l : Launch) (Γ : gG)   {S : cM} {x0 : Int32} {x1 : Int32} {x2 : Int32} {rz : Int32} {Sz : cM} (hf : fX2_seenOf S x0 x1 x2 = some (rz, Sz)) : CtI l Γ 74 yX2_seenOf cX2_seenOf 4 .int 1 21 [.int x0, .int x1, .int x2] (cE Γ S) rz (cE Γ Sz) := by
  refine met_body (Γ := Γ) (lv := [(0, .int x0), (1, .int x1), (2, .int x2)]) RX2 (by decide) rfl rfl rfl ?_
  intro p e s m below meth c H locs ls C hP hl
  obtain ⟨hx, hb, -, -, hown, hts, -, hwx, -⟩ := id C
  unfold fX2_seenOf at hf
  refine lv_iconst (v := nI 0) hx hb dX2_seenOf_0 rfl ?_
  refine lv_iload_n hx hb dX2_seenOf_1 rfl (lv_at hl 2 rfl) ?_
  refine lv_iconst (v := nI 1) hx hb dX2_seenOf_2 rfl ?_
  refine lv_isub hx hb dX2_seenOf_3 ?_
  refine va_mmax hx hb (by rw [C.2.2.2.1]; exact hl.1.symm) hown (hts _ k2_45) (hts _ k2_46) (hts _ k1_9) (hts _ k2_47) (Nat.le_of_ble_eq_true rfl) (Nat.le_of_ble_eq_true rfl) (Nat.le_refl 0) (Nat.le_refl 0) dX2_seenOf_4 ?_
  refine lv_istore_n (lv' := [(3, .int (if (nI 0) < (x2 - (nI 1)) then (x2 - (nI 1)) else (nI 0))), (0, .int x0), (1, .int x1), (2, .int x2)]) hx hb dX2_seenOf_7 rfl hl (by decide) rfl (fun ls hl => ?_)
  refine lv_iload_n hx hb dX2_seenOf_8 rfl (lv_at hl 1 rfl) ?_
  by_cases hs1 : x0 = nI 2
  · have hf := if_t hs1 hf
    refine lv_tableIn (tgt := 48) hx hb dX2_seenOf_9 (by rw [hs1]; decide) (by rw [hs1]; decide) (by rw [hs1]; rfl) (by decide) ?_
    refine lv_iload_n hx hb dX2_seenOf_48 rfl (lv_at hl 0 rfl) ?_
    exact r_iret (X := cE Γ) C hP hf dX2_seenOf_49
  · have hf := if_f hs1 hf
    by_cases hs2 : x0 = nI 3
    · have hf := if_t hs2 hf
      refine lv_tableIn (tgt := 50) hx hb dX2_seenOf_9 (by rw [hs2]; decide) (by rw [hs2]; decide) (by rw [hs2]; rfl) (by decide) ?_
      refine lv_iload_n hx hb dX2_seenOf_50 rfl (lv_at hl 0 rfl) ?_
      exact r_iret (X := cE Γ) C hP hf dX2_seenOf_51
    · have hf := if_f hs2 hf
      by_cases hs3 : x0 = nI 4
      · have hf := if_t hs3 hf
        refine lv_tableIn (tgt := 52) hx hb dX2_seenOf_9 (by rw [hs3]; decide) (by rw [hs3]; decide) (by rw [hs3]; rfl) (by decide) ?_
        refine lv_iload_n hx hb dX2_seenOf_52 rfl (lv_at hl 3 rfl) ?_
        refine lv_iload_n hx hb dX2_seenOf_53 rfl (lv_at hl 2 rfl) ?_
        refine va_mmin hx hb (by rw [C.2.2.2.1]; exact hl.1.symm) hown (hts _ k2_48) (hts _ k2_49) (hts _ k1_9) (hts _ k2_50) (Nat.le_of_ble_eq_true rfl) (Nat.le_of_ble_eq_true rfl) (Nat.le_refl 0) (Nat.le_refl 0) dX2_seenOf_54 ?_
        exact r_iret (X := cE Γ) C hP hf dX2_seenOf_57
      · have hf := if_f hs3 hf
        by_cases hs4 : x0 = nI 5
        · have hf := if_t hs4 hf
          refine lv_tableIn (tgt := 58) hx hb dX2_seenOf_9 (by rw [hs4]; decide) (by rw [hs4]; decide) (by rw [hs4]; rfl) (by decide) ?_
          refine lv_iload_n hx hb dX2_seenOf_58 rfl (lv_at hl 0 rfl) ?_
          refine lv_iconst (v := nI 2) hx hb dX2_seenOf_59 rfl ?_
          refine lv_idiv hx hb dX2_seenOf_60 (by decide) ?_
          exact r_iret (X := cE Γ) C hP hf dX2_seenOf_61
        · have hf := if_f hs4 hf
          by_cases hs5 : x0 = nI 6
          · have hf := if_t hs5 hf
            refine lv_tableIn (tgt := 68) hx hb dX2_seenOf_9 (by rw [hs5]; decide) (by rw [hs5]; decide) (by rw [hs5]; rfl) (by decide) ?_
            refine lv_iload_n hx hb dX2_seenOf_68 rfl (lv_at hl 3 rfl) ?_
            exact r_iret (X := cE Γ) C hP hf dX2_seenOf_69
          · have hf := if_f hs5 hf
            by_cases hs6 : x0 = nI 7
            · have hf := if_t hs6 hf
              refine lv_tableIn (tgt := 62) hx hb dX2_seenOf_9 (by rw [hs6]; decide) (by rw [hs6]; decide) (by rw [hs6]; rfl) (by decide) ?_
              refine lv_iload_n hx hb dX2_seenOf_62 rfl (lv_at hl 3 rfl) ?_
              refine lv_iconst (v := nI 1) hx hb dX2_seenOf_63 rfl ?_
              refine lv_iadd hx hb dX2_seenOf_64 ?_
              refine lv_iconst (v := nI 2) hx hb dX2_seenOf_65 rfl ?_
              refine lv_idiv hx hb dX2_seenOf_66 (by decide) ?_
              exact r_iret (X := cE Γ) C hP hf dX2_seenOf_67
            · have hf := if_f hs6 hf
              refine lv_tableOut (tgt := 68) hx hb dX2_seenOf_9 (by have q0 := ne_toInt hs1; have q1 := ne_toInt hs2; have q2 := ne_toInt hs3; have q3 := ne_toInt hs4; have q4 := ne_toInt hs5; have q5 := ne_toInt hs6; rw [show (nI 2).toInt = 2 from by decide] at q0; rw [show (nI 3).toInt = 3 from by decide] at q1; rw [show (nI 4).toInt = 4 from by decide] at q2; rw [show (nI 5).toInt = 5 from by decide] at q3; rw [show (nI 6).toInt = 6 from by decide] at q4; rw [show (nI 7).toInt = 7 from by decide] at q5;  omega) (by decide) ?_
              refine lv_iload_n hx hb dX2_seenOf_68 rfl (lv_at hl 3 rfl) ?_
              exact r_iret (X := cE Γ) C hP hf dX2_seenOf_69
-- X2_letsIn
theorem qX2_letsIn : Cond.static yX2_letsIn ∈ Ub ∧ Cond.initialized RX2 ∈ Ub ∧ Cond.code yX2_letsIn cX2_letsIn 3 (some FieldType.boolean) ∈ Ub ∧ (yX2_letsIn.cls = RX2 ∧ yX2_letsIn.cls ≠ "java/lang/invoke/MethodHandle" ∧ yX2_letsIn.cls ≠ "java/lang/invoke/VarHandle" ∧ (parseMethodDescriptor yX2_letsIn.desc).map (fun d => d.parameters.length) = some 3) := ⟨k2_63, k1_8, k2_64, by decide +kernel⟩
def fX2_letsIn_10   (S : cM)  : Option (Int32 × cM) :=
  some (nI 1, S)
set_option maxHeartbeats 4000000 in
set_option maxRecDepth 100000 in
theorem wX2_letsIn_10 {p : Program} {l : Launch} {e : Env} {s : State} {m : MethodId} {args : Array Value} {below : List Frame} {meth : Method} {c : Code} {Γ : gG} {rz : Int32} {Sz : cM} (C : Cx Γ 74 p s m args meth c RX2 cX2_letsIn 3 (some .boolean))   : ∀ (S : cM)  , fX2_letsIn_10   S  = some (rz, Sz) → ∀ (H : Heap) (locs : List Loc) (ls : Array Slot), St Γ 74 (cE Γ S) s.heap H locs → lv_has ls 3 [] → W p l e { frames := 0, cells := 0, slots := 0, locals := 0 } s m args below meth c H locs 0 0 (MQ below (gQi Γ 74 rz (cE Γ Sz)) args s 0 0 (wA Γ 74)) (F0 m 10 ls []) := by
  obtain ⟨hx, hb, -, -, hown, hts, -, hwx, -⟩ := id C
  intro S  hf H locs ls hP hl
  unfold fX2_letsIn_10 at hf
  refine lv_iconst (v := nI 1) hx hb dX2_letsIn_10 rfl ?_
  refine lv_goto (tgt := 15) hx hb dX2_letsIn_11 (by decide) ?_
  exact r_zret (X := cE Γ) C hP (Or.inr rfl) hf dX2_letsIn_15
def fX2_letsIn  (S : cM) (x0 : Int32) (x1 : Int32) (x2 : Int32) : Option (Int32 × cM) :=
  if x0 = (nI 5) then if x1 ≤ x2 then some (nI 0, S) else fX2_letsIn_10    S  else fX2_letsIn_10    S 
set_option maxHeartbeats 4000000 in
set_option maxRecDepth 100000 in
theorem mX2_letsIn (l : Launch) (Γ : gG)   {S : cM} {x0 : Int32} {x1 : Int32} {x2 : Int32} {rz : Int32} {Sz : cM} (hf : fX2_letsIn S x0 x1 x2 = some (rz, Sz)) : CtI l Γ 74 yX2_letsIn cX2_letsIn 3 .boolean 0 0 [.int x0, .int x1, .int x2] (cE Γ S) rz (cE Γ Sz) := by
  refine met_body (Γ := Γ) (lv := [(0, .int x0), (1, .int x1), (2, .int x2)]) RX2 (by decide) rfl rfl rfl ?_
  intro p e s m below meth c H locs ls C hP hl
  obtain ⟨hx, hb, -, -, hown, hts, -, hwx, -⟩ := id C
  unfold fX2_letsIn at hf
  refine lv_iload_n hx hb dX2_letsIn_0 rfl (lv_at hl 0 rfl) ?_
  refine lv_iconst (v := nI 5) hx hb dX2_letsIn_1 rfl ?_
  refine lv_icmp_ne (tgt := 10) hx hb dX2_letsIn_2 (by decide) (fun hc1 => ?_) (fun hc1 => ?_)
  · have hf := if_f hc1 hf
    exact wX2_letsIn_10 C    S   hf _ _ _ hP (lv_sub hl [] rfl)
  · have hf := if_t hc1 hf
    refine lv_iload_n hx hb dX2_letsIn_5 rfl (lv_at hl 2 rfl) ?_
    refine lv_iload_n hx hb dX2_letsIn_6 rfl (lv_at hl 1 rfl) ?_
    refine lv_icmp_ge (tgt := 14) hx hb dX2_letsIn_7 (by decide) (fun hc2 => ?_) (fun hc2 => ?_)
    · have hf := if_t hc2 hf
      refine lv_iconst (v := nI 0) hx hb dX2_letsIn_14 rfl ?_
      exact r_zret (X := cE Γ) C hP (Or.inl rfl) hf dX2_letsIn_15
    · have hf := if_f hc2 hf
      exact wX2_letsIn_10 C    S   hf _ _ _ hP (lv_sub hl [] rfl)
-- X2_toPay
theorem qX2_toPay : Cond.static yX2_toPay ∈ Ub ∧ Cond.initialized RX2 ∈ Ub ∧ Cond.code yX2_toPay cX2_toPay 5 (some FieldType.int) ∈ Ub ∧ (yX2_toPay.cls = RX2 ∧ yX2_toPay.cls ≠ "java/lang/invoke/MethodHandle" ∧ yX2_toPay.cls ≠ "java/lang/invoke/VarHandle" ∧ (parseMethodDescriptor yX2_toPay.desc).map (fun d => d.parameters.length) = some 2) := ⟨k3_162, k1_8, k3_163, by decide +kernel⟩
def fX2_toPay  (S : cM) (x0 : Int32) (x1 : Int32) : Option (Int32 × cM) :=
  (if x0 = nI 1 then some ((nI 4) + x1, S) else if x0 = nI 2 then some ((nI 4) - (nI 2), S) else if x0 = nI 3 then some ((nI 3) * ((nI 4) - (nI 2)), S) else if x0 = nI 4 then some (nI 4, S) else if x0 = nI 5 then some (((nI 4) - (nI 2)) + (nI 5), S) else if x0 = nI 6 then some ((nI 2) * ((nI 4) + x1), S) else if x0 = nI 7 then some ((nI 4) - x1, S) else some (nI 4, S))
set_option maxHeartbeats 4000000 in
set_option maxRecDepth 100000 in
theorem mX2_toPay (l : Launch) (Γ : gG)   {S : cM} {x0 : Int32} {x1 : Int32} {rz : Int32} {Sz : cM} (hf : fX2_toPay S x0 x1 = some (rz, Sz)) : CtI l Γ 74 yX2_toPay cX2_toPay 5 .int 0 0 [.int x0, .int x1] (cE Γ S) rz (cE Γ Sz) := by
  refine met_body (Γ := Γ) (lv := [(0, .int x0), (1, .int x1)]) RX2 (by decide) rfl rfl rfl ?_
  intro p e s m below meth c H locs ls C hP hl
  obtain ⟨hx, hb, -, -, hown, hts, -, hwx, -⟩ := id C
  unfold fX2_toPay at hf
  refine lv_iconst (v := nI 4) hx hb dX2_toPay_0 rfl ?_
  refine lv_istore_n (lv' := [(2, .int (nI 4)), (0, .int x0), (1, .int x1)]) hx hb dX2_toPay_1 rfl hl (by decide) rfl (fun ls hl => ?_)
  refine lv_iload_n hx hb dX2_toPay_2 rfl (lv_at hl 0 rfl) ?_
  refine lv_iload_n hx hb dX2_toPay_3 rfl (lv_at hl 2 rfl) ?_
  refine lv_iadd hx hb dX2_toPay_4 ?_
  refine lv_istore_n (lv' := [(3, .int ((nI 4) + x1)), (2, .int (nI 4)), (0, .int x0), (1, .int x1)]) hx hb dX2_toPay_5 rfl hl (by decide) rfl (fun ls hl => ?_)
  refine lv_iload_n hx hb dX2_toPay_6 rfl (lv_at hl 1 rfl) ?_
  refine lv_iconst (v := nI 2) hx hb dX2_toPay_7 rfl ?_
  refine lv_isub hx hb dX2_toPay_8 ?_
  refine lv_istore (lv' := [(4, .int ((nI 4) - (nI 2))), (3, .int ((nI 4) + x1)), (2, .int (nI 4)), (0, .int x0), (1, .int x1)]) hx hb dX2_toPay_9 hl (by decide) rfl (fun ls hl => ?_)
  refine lv_iload_n hx hb dX2_toPay_11 rfl (lv_at hl 3 rfl) ?_
  by_cases hs1 : x0 = nI 1
  · have hf := if_t hs1 hf
    refine lv_tableIn (tgt := 56) hx hb dX2_toPay_12 (by rw [hs1]; decide) (by rw [hs1]; decide) (by rw [hs1]; rfl) (by decide) ?_
    refine lv_iload_n hx hb dX2_toPay_56 rfl (lv_at hl 1 rfl) ?_
    exact r_iret (X := cE Γ) C hP hf dX2_toPay_57
  · have hf := if_f hs1 hf
    by_cases hs2 : x0 = nI 2
    · have hf := if_t hs2 hf
      refine lv_tableIn (tgt := 58) hx hb dX2_toPay_12 (by rw [hs2]; decide) (by rw [hs2]; decide) (by rw [hs2]; rfl) (by decide) ?_
      refine lv_iload hx hb dX2_toPay_58 (lv_at hl 0 rfl) ?_
      exact r_iret (X := cE Γ) C hP hf dX2_toPay_60
    · have hf := if_f hs2 hf
      by_cases hs3 : x0 = nI 3
      · have hf := if_t hs3 hf
        refine lv_tableIn (tgt := 61) hx hb dX2_toPay_12 (by rw [hs3]; decide) (by rw [hs3]; decide) (by rw [hs3]; rfl) (by decide) ?_
        refine lv_iconst (v := nI 3) hx hb dX2_toPay_61 rfl ?_
        refine lv_iload hx hb dX2_toPay_62 (lv_at hl 0 rfl) ?_
        refine lv_imul hx hb dX2_toPay_64 ?_
        exact r_iret (X := cE Γ) C hP hf dX2_toPay_65
      · have hf := if_f hs3 hf
        by_cases hs4 : x0 = nI 4
        · have hf := if_t hs4 hf
          refine lv_tableIn (tgt := 79) hx hb dX2_toPay_12 (by rw [hs4]; decide) (by rw [hs4]; decide) (by rw [hs4]; rfl) (by decide) ?_
          refine lv_iload_n hx hb dX2_toPay_79 rfl (lv_at hl 2 rfl) ?_
          exact r_iret (X := cE Γ) C hP hf dX2_toPay_80
        · have hf := if_f hs4 hf
          by_cases hs5 : x0 = nI 5
          · have hf := if_t hs5 hf
            refine lv_tableIn (tgt := 66) hx hb dX2_toPay_12 (by rw [hs5]; decide) (by rw [hs5]; decide) (by rw [hs5]; rfl) (by decide) ?_
            refine lv_iload hx hb dX2_toPay_66 (lv_at hl 0 rfl) ?_
            refine lv_iconst (v := nI 5) hx hb dX2_toPay_68 rfl ?_
            refine lv_iadd hx hb dX2_toPay_69 ?_
            exact r_iret (X := cE Γ) C hP hf dX2_toPay_70
          · have hf := if_f hs5 hf
            by_cases hs6 : x0 = nI 6
            · have hf := if_t hs6 hf
              refine lv_tableIn (tgt := 71) hx hb dX2_toPay_12 (by rw [hs6]; decide) (by rw [hs6]; decide) (by rw [hs6]; rfl) (by decide) ?_
              refine lv_iconst (v := nI 2) hx hb dX2_toPay_71 rfl ?_
              refine lv_iload_n hx hb dX2_toPay_72 rfl (lv_at hl 1 rfl) ?_
              refine lv_imul hx hb dX2_toPay_73 ?_
              exact r_iret (X := cE Γ) C hP hf dX2_toPay_74
            · have hf := if_f hs6 hf
              by_cases hs7 : x0 = nI 7
              · have hf := if_t hs7 hf
                refine lv_tableIn (tgt := 75) hx hb dX2_toPay_12 (by rw [hs7]; decide) (by rw [hs7]; decide) (by rw [hs7]; rfl) (by decide) ?_
                refine lv_iload_n hx hb dX2_toPay_75 rfl (lv_at hl 2 rfl) ?_
                refine lv_iload_n hx hb dX2_toPay_76 rfl (lv_at hl 4 rfl) ?_
                refine lv_isub hx hb dX2_toPay_77 ?_
                exact r_iret (X := cE Γ) C hP hf dX2_toPay_78
              · have hf := if_f hs7 hf
                refine lv_tableOut (tgt := 79) hx hb dX2_toPay_12 (by have q0 := ne_toInt hs1; have q1 := ne_toInt hs2; have q2 := ne_toInt hs3; have q3 := ne_toInt hs4; have q4 := ne_toInt hs5; have q5 := ne_toInt hs6; have q6 := ne_toInt hs7; rw [show (nI 1).toInt = 1 from by decide] at q0; rw [show (nI 2).toInt = 2 from by decide] at q1; rw [show (nI 3).toInt = 3 from by decide] at q2; rw [show (nI 4).toInt = 4 from by decide] at q3; rw [show (nI 5).toInt = 5 from by decide] at q4; rw [show (nI 6).toInt = 6 from by decide] at q5; rw [show (nI 7).toInt = 7 from by decide] at q6;  omega) (by decide) ?_
                refine lv_iload_n hx hb dX2_toPay_79 rfl (lv_at hl 2 rfl) ?_
                exact r_iret (X := cE Γ) C hP hf dX2_toPay_80
-- X3_begin
theorem qX3_begin : Cond.instanceMethod yX3_begin ∈ Ub ∧ Cond.selects RX3 yX3_begin yX3_begin ∈ Ub ∧ Cond.initialized RX3 ∈ Ub ∧ Cond.code yX3_begin cX3_begin 4 (none : Option Jvm.ClassFile.FieldType) ∈ Ub ∧ (yX3_begin.cls = RX3 ∧ yX3_begin.cls ≠ "java/lang/invoke/MethodHandle" ∧ yX3_begin.cls ≠ "java/lang/invoke/VarHandle" ∧ (parseMethodDescriptor yX3_begin.desc).map (fun d => d.parameters.length) = some 2) := ⟨k1_218, k1_219, k1_3, k1_220, by decide +kernel⟩
def fX3_begin_27 (u0 : Nat)  : Nat → cM → Int32 → Int32 → Int32 → Option cM
  | 0, _, _, _, _ => none
  | n + 1, S, x1, x2, x3 =>
    if (nI 4) ≤ x3 then some S else bd (fX2_minutesFor S x1 x2 x3) fun v7 S7 => ( gi x3 4 (sv (cS S7 (u0 + 30) ((x3).toNatClampNeg) v7) fun S10 => ( (fX3_begin_27 u0  n) S10 x1 x2 (x3 + (nI 1)))))
set_option maxHeartbeats 4000000 in
set_option maxRecDepth 100000 in
theorem wX3_begin_27 {p : Program} {l : Launch} {e : Env} {s : State} {m : MethodId} {args : Array Value} {below : List Frame} {meth : Method} {c : Code} {Γ : gG} {Sz : cM} (C : Cx Γ 74 p s m args meth c RX3 cX3_begin 4 none) {u0 : Nat} (hu0 : 7 ≤ u0 ∧ u0 ≤ 21)  : ∀ n : Nat, ∀ (S : cM) (x1 : Int32) (x2 : Int32) (x3 : Int32) , fX3_begin_27 u0  n S x1 x2 x3 = some Sz → ∀ (H : Heap) (locs : List Loc) (ls : Array Slot), St Γ 74 (cE Γ S) s.heap H locs → lv_has ls 4 [(0, .ref (Γ.2.2 (u0))), (1, .int x1), (2, .int x2), (3, .int x3)] → W p l e { frames := 2, cells := 0, slots := 0, locals := 45 } s m args below meth c H locs 0 0 (MQ below (gQv Γ 74 (cE Γ Sz)) args s 0 0 (wA Γ 74)) (F0 m 27 ls []) := by
  obtain ⟨hx, hb, -, -, hown, hts, -, hwx, -⟩ := id C
  intro n
  induction n with
  | zero =>
    intro S x1 x2 x3 hf
    unfold fX3_begin_27 at hf
    cases hf
  | succ n ih =>
    intro S x1 x2 x3 hf H locs ls hP hl
    unfold fX3_begin_27 at hf
    refine lv_iload_n hx hb dX3_begin_27 rfl (lv_at hl 3 rfl) ?_
    refine lv_iconst (v := nI 4) hx hb dX3_begin_28 rfl ?_
    refine lv_icmp_ge (tgt := 50) hx hb dX3_begin_29 (by decide) (fun hc6 => ?_) (fun hc6 => ?_)
    · have hf := if_t hc6 hf
      exact r_vret (X := cE Γ) C hP hf dX3_begin_50
    · have hf := if_f hc6 hf
      refine lv_aload_n hx hb dX3_begin_32 rfl (lv_at hl 0 rfl) ?_
      refine c3_get C hP hu0 6 (by decide) k1_53 rfl (v := .ref (Γ.2.2 (u0 + 30))) rfl dX3_begin_33 ?_
      refine lv_iload_n hx hb dX3_begin_36 rfl (lv_at hl 3 rfl) ?_
      refine lv_iload_n hx hb dX3_begin_37 rfl (lv_at hl 1 rfl) ?_
      refine lv_iload_n hx hb dX3_begin_38 rfl (lv_at hl 2 rfl) ?_
      refine lv_iload_n hx hb dX3_begin_39 rfl (lv_at hl 3 rfl) ?_
      refine bd_i hf (fun v7 S7 hq7 hf => ?_)
      refine goI (runS (rest := [.int x3, .ref (Γ.2.2 (u0 + 30))]) (mX2_minutesFor l Γ  hq7) C hP hl.1 k1_221 qX2_minutesFor.1 qX2_minutesFor.2.1 qX2_minutesFor.2.2.1 rfl qX2_minutesFor.2.2.2 ⟨Nat.le_of_ble_eq_true rfl, Nat.le_of_ble_eq_true rfl⟩ ⟨Nat.le_refl 0, Nat.le_refl 0⟩ (Nat.le_of_ble_eq_true rfl) dX3_begin_40) hP (fun H locs hP => ?_)
      refine gi_i hf (fun hi8 hj9 hf => ?_)
      refine c_ist C hP (cA_ne hu0) hi8 dX3_begin_43 (fun H locs hP => ?_)
      refine sv_i hf (fun S10 e10 hf => ?_)
      rw [← e10] at hP
      refine lv_iinc (v := x3 + (nI 1)) (lv' := [(3, .int (x3 + (nI 1))), (0, .ref (Γ.2.2 (u0))), (1, .int x1), (2, .int x2)]) hx hb dX3_begin_44 hl (k := 3) rfl rfl (by decide) rfl (fun ls hl => ?_)
      refine lv_goto (tgt := 27) hx hb dX3_begin_47 (by decide) ?_
      exact ih S10 x1 x2 (x3 + (nI 1))  hf _ _ _ hP (lv_sub hl [1, 2, 3, 0] rfl)
def fX3_begin (u0 : Nat) (S : cM) (x1 : Int32) (x2 : Int32) : Option cM :=
  sv (cS S u0 0 x1) fun S1 => ( sv (cS S1 u0 1 x2) fun S2 => ( sv (cS S2 u0 2 (nI 0)) fun S3 => ( sv (cS S3 u0 3 (nI 0)) fun S4 => ( sv (cS S4 u0 4 (nI 0)) fun S5 => ( fX3_begin_27 u0  lF S5 x1 x2 (nI 0))))))
set_option maxHeartbeats 4000000 in
set_option maxRecDepth 100000 in
theorem mX3_begin (l : Launch) (Γ : gG) {u0 : Nat} (hu0 : 7 ≤ u0 ∧ u0 ≤ 21) {S : cM} {x1 : Int32} {x2 : Int32} {Sz : cM} (hf : fX3_begin u0 S x1 x2 = some Sz) : CtV l Γ 74 yX3_begin cX3_begin 4 2 45 [.ref (Γ.2.2 (u0)), .int x1, .int x2] (cE Γ S) (cE Γ Sz) := by
  refine met_body (Γ := Γ) (lv := [(0, .ref (Γ.2.2 (u0))), (1, .int x1), (2, .int x2)]) RX3 (by decide) rfl rfl rfl ?_
  intro p e s m below meth c H locs ls C hP hl
  obtain ⟨hx, hb, -, -, hown, hts, -, hwx, -⟩ := id C
  unfold fX3_begin at hf
  refine lv_aload_n hx hb dX3_begin_0 rfl (lv_at hl 0 rfl) ?_
  refine lv_iload_n hx hb dX3_begin_1 rfl (lv_at hl 1 rfl) ?_
  refine c3_put C hP hu0 0 (by decide) k1_37 dX3_begin_2 (fun H locs hP => ?_)
  refine sv_i hf (fun S1 e1 hf => ?_)
  rw [← e1] at hP
  refine lv_aload_n hx hb dX3_begin_5 rfl (lv_at hl 0 rfl) ?_
  refine lv_iload_n hx hb dX3_begin_6 rfl (lv_at hl 2 rfl) ?_
  refine c3_put C hP hu0 1 (by decide) k1_40 dX3_begin_7 (fun H locs hP => ?_)
  refine sv_i hf (fun S2 e2 hf => ?_)
  rw [← e2] at hP
  refine lv_aload_n hx hb dX3_begin_10 rfl (lv_at hl 0 rfl) ?_
  refine lv_iconst (v := nI 0) hx hb dX3_begin_11 rfl ?_
  refine c3_put C hP hu0 2 (by decide) k1_43 dX3_begin_12 (fun H locs hP => ?_)
  refine sv_i hf (fun S3 e3 hf => ?_)
  rw [← e3] at hP
  refine lv_aload_n hx hb dX3_begin_15 rfl (lv_at hl 0 rfl) ?_
  refine lv_iconst (v := nI 0) hx hb dX3_begin_16 rfl ?_
  refine c3_put C hP hu0 3 (by decide) k1_46 dX3_begin_17 (fun H locs hP => ?_)
  refine sv_i hf (fun S4 e4 hf => ?_)
  rw [← e4] at hP
  refine lv_aload_n hx hb dX3_begin_20 rfl (lv_at hl 0 rfl) ?_
  refine lv_iconst (v := nI 0) hx hb dX3_begin_21 rfl ?_
  refine c3_put C hP hu0 4 (by decide) k1_48 dX3_begin_22 (fun H locs hP => ?_)
  refine sv_i hf (fun S5 e5 hf => ?_)
  rw [← e5] at hP
  refine lv_iconst (v := nI 0) hx hb dX3_begin_25 rfl ?_
  refine lv_istore_n (lv' := [(3, .int (nI 0)), (0, .ref (Γ.2.2 (u0))), (1, .int x1), (2, .int x2)]) hx hb dX3_begin_26 rfl hl (by decide) rfl (fun ls hl => ?_)
  exact wX3_begin_27 C hu0  lF S5 x1 x2 (nI 0)  hf _ _ _ hP (lv_sub hl [1, 2, 3, 0] rfl)
-- X3_becomeLike
theorem qX3_becomeLike : Cond.instanceMethod yX3_becomeLike ∈ Ub ∧ Cond.selects RX3 yX3_becomeLike yX3_becomeLike ∈ Ub ∧ Cond.initialized RX3 ∈ Ub ∧ Cond.code yX3_becomeLike cX3_becomeLike 2 (none : Option Jvm.ClassFile.FieldType) ∈ Ub ∧ (yX3_becomeLike.cls = RX3 ∧ yX3_becomeLike.cls ≠ "java/lang/invoke/MethodHandle" ∧ yX3_becomeLike.cls ≠ "java/lang/invoke/VarHandle" ∧ (parseMethodDescriptor yX3_becomeLike.desc).map (fun d => d.parameters.length) = some 1) := ⟨k1_194, k1_195, k1_3, k1_196, by decide +kernel⟩
def fX3_becomeLike (u0 : Nat) (u1 : Nat) (S : cM)  : Option cM :=
  sv (cS S u0 0 (S.1 u1 0)) fun S1 => ( sv (cS S1 u0 1 (S1.1 u1 1)) fun S2 => ( sv (cS S2 u0 2 (S2.1 u1 2)) fun S3 => ( sv (cS S3 u0 3 (S3.1 u1 3)) fun S4 => ( sv (cS S4 u0 4 (S4.1 u1 4)) fun S5 => ( gc (nI 0) (nI 0) (nI 8) 8 8 (sv (cW S5 (u0 + 15) (va_cpy (S5.1 (u1 + 15)) (S5.1 (u0 + 15)) (nI 0).toNatClampNeg (nI 0).toNatClampNeg (nI 8).toNatClampNeg)) fun S7 => ( gc (nI 0) (nI 0) (nI 4) 4 4 (sv (cW S7 (u0 + 30) (va_cpy (S7.1 (u1 + 30)) (S7.1 (u0 + 30)) (nI 0).toNatClampNeg (nI 0).toNatClampNeg (nI 4).toNatClampNeg)) fun S9 => ( some S9)))))))))
set_option maxHeartbeats 4000000 in
set_option maxRecDepth 100000 in
theorem mX3_becomeLike (l : Launch) (Γ : gG) {u0 : Nat} {u1 : Nat} (hu0 : 7 ≤ u0 ∧ u0 ≤ 21) (hu1 : 7 ≤ u1 ∧ u1 ≤ 21) {S : cM}  {Sz : cM} (hf : fX3_becomeLike u0 u1 S = some Sz) : CtV l Γ 74 yX3_becomeLike cX3_becomeLike 2 1 26 [.ref (Γ.2.2 (u0)), .ref (Γ.2.2 (u1))] (cE Γ S) (cE Γ Sz) := by
  refine met_body (Γ := Γ) (lv := [(0, .ref (Γ.2.2 (u0))), (1, .ref (Γ.2.2 (u1)))]) RX3 (by decide) rfl rfl rfl ?_
  intro p e s m below meth c H locs ls C hP hl
  obtain ⟨hx, hb, -, -, hown, hts, -, hwx, -⟩ := id C
  unfold fX3_becomeLike at hf
  refine lv_aload_n hx hb dX3_becomeLike_0 rfl (lv_at hl 0 rfl) ?_
  refine lv_aload_n hx hb dX3_becomeLike_1 rfl (lv_at hl 1 rfl) ?_
  refine c3_get C hP hu1 0 (by decide) k1_37 rfl (v := .int (S.1 u1 0)) rfl dX3_becomeLike_2 ?_
  refine c3_put C hP hu0 0 (by decide) k1_37 dX3_becomeLike_5 (fun H locs hP => ?_)
  refine sv_i hf (fun S1 e1 hf => ?_)
  rw [← e1] at hP
  refine lv_aload_n hx hb dX3_becomeLike_8 rfl (lv_at hl 0 rfl) ?_
  refine lv_aload_n hx hb dX3_becomeLike_9 rfl (lv_at hl 1 rfl) ?_
  refine c3_get C hP hu1 1 (by decide) k1_40 rfl (v := .int (S1.1 u1 1)) rfl dX3_becomeLike_10 ?_
  refine c3_put C hP hu0 1 (by decide) k1_40 dX3_becomeLike_13 (fun H locs hP => ?_)
  refine sv_i hf (fun S2 e2 hf => ?_)
  rw [← e2] at hP
  refine lv_aload_n hx hb dX3_becomeLike_16 rfl (lv_at hl 0 rfl) ?_
  refine lv_aload_n hx hb dX3_becomeLike_17 rfl (lv_at hl 1 rfl) ?_
  refine c3_get C hP hu1 2 (by decide) k1_43 rfl (v := .int (S2.1 u1 2)) rfl dX3_becomeLike_18 ?_
  refine c3_put C hP hu0 2 (by decide) k1_43 dX3_becomeLike_21 (fun H locs hP => ?_)
  refine sv_i hf (fun S3 e3 hf => ?_)
  rw [← e3] at hP
  refine lv_aload_n hx hb dX3_becomeLike_24 rfl (lv_at hl 0 rfl) ?_
  refine lv_aload_n hx hb dX3_becomeLike_25 rfl (lv_at hl 1 rfl) ?_
  refine c3_get C hP hu1 3 (by decide) k1_46 rfl (v := .int (S3.1 u1 3)) rfl dX3_becomeLike_26 ?_
  refine c3_put C hP hu0 3 (by decide) k1_46 dX3_becomeLike_29 (fun H locs hP => ?_)
  refine sv_i hf (fun S4 e4 hf => ?_)
  rw [← e4] at hP
  refine lv_aload_n hx hb dX3_becomeLike_32 rfl (lv_at hl 0 rfl) ?_
  refine lv_aload_n hx hb dX3_becomeLike_33 rfl (lv_at hl 1 rfl) ?_
  refine c3_get C hP hu1 4 (by decide) k1_48 rfl (v := .int (S4.1 u1 4)) rfl dX3_becomeLike_34 ?_
  refine c3_put C hP hu0 4 (by decide) k1_48 dX3_becomeLike_37 (fun H locs hP => ?_)
  refine sv_i hf (fun S5 e5 hf => ?_)
  rw [← e5] at hP
  refine lv_aload_n hx hb dX3_becomeLike_40 rfl (lv_at hl 1 rfl) ?_
  refine c3_get C hP hu1 5 (by decide) k1_50 rfl (v := .ref (Γ.2.2 (u1 + 15))) rfl dX3_becomeLike_41 ?_
  refine lv_iconst (v := nI 0) hx hb dX3_becomeLike_44 rfl ?_
  refine lv_aload_n hx hb dX3_becomeLike_45 rfl (lv_at hl 0 rfl) ?_
  refine c3_get C hP hu0 5 (by decide) k1_50 rfl (v := .ref (Γ.2.2 (u0 + 15))) rfl dX3_becomeLike_46 ?_
  refine lv_iconst (v := nI 0) hx hb dX3_becomeLike_49 rfl ?_
  refine lv_bipush (v := nI 8) hx hb dX3_becomeLike_50 rfl ?_
  refine gc_i hf (fun hc6 hf => ?_)
  refine c_copy C hP hl.1 k1_197 k1_199 k1_198 k1_7 (cA_so hu1) (cA_so hu0) hc6 (Nat.le_of_ble_eq_true rfl) (Nat.le_of_ble_eq_true rfl) dX3_becomeLike_52 (fun H locs hP => ?_)
  refine sv_i hf (fun S7 e7 hf => ?_)
  rw [← e7] at hP
  refine lv_aload_n hx hb dX3_becomeLike_55 rfl (lv_at hl 1 rfl) ?_
  refine c3_get C hP hu1 6 (by decide) k1_53 rfl (v := .ref (Γ.2.2 (u1 + 30))) rfl dX3_becomeLike_56 ?_
  refine lv_iconst (v := nI 0) hx hb dX3_becomeLike_59 rfl ?_
  refine lv_aload_n hx hb dX3_becomeLike_60 rfl (lv_at hl 0 rfl) ?_
  refine c3_get C hP hu0 6 (by decide) k1_53 rfl (v := .ref (Γ.2.2 (u0 + 30))) rfl dX3_becomeLike_61 ?_
  refine lv_iconst (v := nI 0) hx hb dX3_becomeLike_64 rfl ?_
  refine lv_iconst (v := nI 4) hx hb dX3_becomeLike_65 rfl ?_
  refine gc_i hf (fun hc8 hf => ?_)
  refine c_copy C hP hl.1 k1_197 k1_199 k1_198 k1_7 (cA_ne hu1) (cA_ne hu0) hc8 (Nat.le_of_ble_eq_true rfl) (Nat.le_of_ble_eq_true rfl) dX3_becomeLike_66 (fun H locs hP => ?_)
  refine sv_i hf (fun S9 e9 hf => ?_)
  rw [← e9] at hP
  exact r_vret (X := cE Γ) C hP hf dX3_becomeLike_69
-- X3_needs
theorem qX3_needs : Cond.instanceMethod yX3_needs ∈ Ub ∧ Cond.selects RX3 yX3_needs yX3_needs ∈ Ub ∧ Cond.initialized RX3 ∈ Ub ∧ Cond.code yX3_needs cX3_needs 2 (some FieldType.int) ∈ Ub ∧ (yX3_needs.cls = RX3 ∧ yX3_needs.cls ≠ "java/lang/invoke/MethodHandle" ∧ yX3_needs.cls ≠ "java/lang/invoke/VarHandle" ∧ (parseMethodDescriptor yX3_needs.desc).map (fun d => d.parameters.length) = some 1) := ⟨k2_7, k2_8, k1_3, k2_9, by decide +kernel⟩
def fX3_needs (u0 : Nat) (S : cM) (x1 : Int32) : Option (Int32 × cM) :=
  if x1 < 0 then some (nI 0, S) else if (nI 4) ≤ x1 then some (nI 0, S) else gi x1 4 (some (S.1 (u0 + 30) (x1).toNatClampNeg, S))
set_option maxHeartbeats 4000000 in
set_option maxRecDepth 100000 in
theorem mX3_needs (l : Launch) (Γ : gG) {u0 : Nat} (hu0 : 7 ≤ u0 ∧ u0 ≤ 21) {S : cM} {x1 : Int32} {rz : Int32} {Sz : cM} (hf : fX3_needs u0 S x1 = some (rz, Sz)) : CtI l Γ 74 yX3_needs cX3_needs 2 .int 0 0 [.ref (Γ.2.2 (u0)), .int x1] (cE Γ S) rz (cE Γ Sz) := by
  refine met_body (Γ := Γ) (lv := [(0, .ref (Γ.2.2 (u0))), (1, .int x1)]) RX3 (by decide) rfl rfl rfl ?_
  intro p e s m below meth c H locs ls C hP hl
  obtain ⟨hx, hb, -, -, hown, hts, -, hwx, -⟩ := id C
  unfold fX3_needs at hf
  refine lv_iload_n hx hb dX3_needs_0 rfl (lv_at hl 1 rfl) ?_
  refine lv_if_lt (tgt := 18) hx hb dX3_needs_1 (by decide) (fun hc1 => ?_) (fun hc1 => ?_)
  · have hf := if_t hc1 hf
    refine lv_iconst (v := nI 0) hx hb dX3_needs_18 rfl ?_
    exact r_iret (X := cE Γ) C hP hf dX3_needs_19
  · have hf := if_f hc1 hf
    refine lv_iload_n hx hb dX3_needs_4 rfl (lv_at hl 1 rfl) ?_
    refine lv_iconst (v := nI 4) hx hb dX3_needs_5 rfl ?_
    refine lv_icmp_ge (tgt := 18) hx hb dX3_needs_6 (by decide) (fun hc2 => ?_) (fun hc2 => ?_)
    · have hf := if_t hc2 hf
      refine lv_iconst (v := nI 0) hx hb dX3_needs_18 rfl ?_
      exact r_iret (X := cE Γ) C hP hf dX3_needs_19
    · have hf := if_f hc2 hf
      refine lv_aload_n hx hb dX3_needs_9 rfl (lv_at hl 0 rfl) ?_
      refine c3_get C hP hu0 6 (by decide) k1_53 rfl (v := .ref (Γ.2.2 (u0 + 30))) rfl dX3_needs_10 ?_
      refine lv_iload_n hx hb dX3_needs_13 rfl (lv_at hl 1 rfl) ?_
      refine gi_i hf (fun hi3 hj4 hf => ?_)
      refine c_ild C hP (cA_ne hu0) hi3 dX3_needs_14 ?_
      refine lv_goto (tgt := 19) hx hb dX3_needs_15 (by decide) ?_
      exact r_iret (X := cE Γ) C hP hf dX3_needs_19
-- X3_hasRoom
theorem qX3_hasRoom : Cond.instanceMethod yX3_hasRoom ∈ Ub ∧ Cond.selects RX3 yX3_hasRoom yX3_hasRoom ∈ Ub ∧ Cond.initialized RX3 ∈ Ub ∧ Cond.code yX3_hasRoom cX3_hasRoom 1 (some FieldType.boolean) ∈ Ub ∧ (yX3_hasRoom.cls = RX3 ∧ yX3_hasRoom.cls ≠ "java/lang/invoke/MethodHandle" ∧ yX3_hasRoom.cls ≠ "java/lang/invoke/VarHandle" ∧ (parseMethodDescriptor yX3_hasRoom.desc).map (fun d => d.parameters.length) = some 0) := ⟨k1_238, k1_239, k1_3, k2_0, by decide +kernel⟩
def fX3_hasRoom (u0 : Nat) (S : cM)  : Option (Int32 × cM) :=
  if (nI 8) ≤ (S.1 u0 2) then some (nI 0, S) else some (nI 1, S)
set_option maxHeartbeats 4000000 in
set_option maxRecDepth 100000 in
theorem mX3_hasRoom (l : Launch) (Γ : gG) {u0 : Nat} (hu0 : 7 ≤ u0 ∧ u0 ≤ 21) {S : cM}  {rz : Int32} {Sz : cM} (hf : fX3_hasRoom u0 S = some (rz, Sz)) : CtI l Γ 74 yX3_hasRoom cX3_hasRoom 1 .boolean 0 0 [.ref (Γ.2.2 (u0))] (cE Γ S) rz (cE Γ Sz) := by
  refine met_body (Γ := Γ) (lv := [(0, .ref (Γ.2.2 (u0)))]) RX3 (by decide) rfl rfl rfl ?_
  intro p e s m below meth c H locs ls C hP hl
  obtain ⟨hx, hb, -, -, hown, hts, -, hwx, -⟩ := id C
  unfold fX3_hasRoom at hf
  refine lv_aload_n hx hb dX3_hasRoom_0 rfl (lv_at hl 0 rfl) ?_
  refine c3_get C hP hu0 2 (by decide) k1_43 rfl (v := .int (S.1 u0 2)) rfl dX3_hasRoom_1 ?_
  refine lv_bipush (v := nI 8) hx hb dX3_hasRoom_4 rfl ?_
  refine lv_icmp_ge (tgt := 13) hx hb dX3_hasRoom_6 (by decide) (fun hc1 => ?_) (fun hc1 => ?_)
  · have hf := if_t hc1 hf
    refine lv_iconst (v := nI 0) hx hb dX3_hasRoom_13 rfl ?_
    exact r_zret (X := cE Γ) C hP (Or.inl rfl) hf dX3_hasRoom_14
  · have hf := if_f hc1 hf
    refine lv_iconst (v := nI 1) hx hb dX3_hasRoom_9 rfl ?_
    refine lv_goto (tgt := 14) hx hb dX3_hasRoom_10 (by decide) ?_
    exact r_zret (X := cE Γ) C hP (Or.inr rfl) hf dX3_hasRoom_14
-- X3_isOpen
theorem qX3_isOpen : Cond.instanceMethod yX3_isOpen ∈ Ub ∧ Cond.selects RX3 yX3_isOpen yX3_isOpen ∈ Ub ∧ Cond.initialized RX3 ∈ Ub ∧ Cond.code yX3_isOpen cX3_isOpen 1 (some FieldType.boolean) ∈ Ub ∧ (yX3_isOpen.cls = RX3 ∧ yX3_isOpen.cls ≠ "java/lang/invoke/MethodHandle" ∧ yX3_isOpen.cls ≠ "java/lang/invoke/VarHandle" ∧ (parseMethodDescriptor yX3_isOpen.desc).map (fun d => d.parameters.length) = some 0) := ⟨k2_59, k2_60, k1_3, k2_61, by decide +kernel⟩
def fX3_isOpen (u0 : Nat) (S : cM)  : Option (Int32 × cM) :=
  bd (fX2_letsIn S (S.1 u0 0) (S.1 u0 1) (S.1 u0 2)) fun v1 S1 => ( gb v1 (some (v1, S1)))
set_option maxHeartbeats 4000000 in
set_option maxRecDepth 100000 in
theorem mX3_isOpen (l : Launch) (Γ : gG) {u0 : Nat} (hu0 : 7 ≤ u0 ∧ u0 ≤ 21) {S : cM}  {rz : Int32} {Sz : cM} (hf : fX3_isOpen u0 S = some (rz, Sz)) : CtI l Γ 74 yX3_isOpen cX3_isOpen 1 .boolean 1 22 [.ref (Γ.2.2 (u0))] (cE Γ S) rz (cE Γ Sz) := by
  refine met_body (Γ := Γ) (lv := [(0, .ref (Γ.2.2 (u0)))]) RX3 (by decide) rfl rfl rfl ?_
  intro p e s m below meth c H locs ls C hP hl
  obtain ⟨hx, hb, -, -, hown, hts, -, hwx, -⟩ := id C
  unfold fX3_isOpen at hf
  refine lv_aload_n hx hb dX3_isOpen_0 rfl (lv_at hl 0 rfl) ?_
  refine c3_get C hP hu0 0 (by decide) k1_37 rfl (v := .int (S.1 u0 0)) rfl dX3_isOpen_1 ?_
  refine lv_aload_n hx hb dX3_isOpen_4 rfl (lv_at hl 0 rfl) ?_
  refine c3_get C hP hu0 1 (by decide) k1_40 rfl (v := .int (S.1 u0 1)) rfl dX3_isOpen_5 ?_
  refine lv_aload_n hx hb dX3_isOpen_8 rfl (lv_at hl 0 rfl) ?_
  refine c3_get C hP hu0 2 (by decide) k1_43 rfl (v := .int (S.1 u0 2)) rfl dX3_isOpen_9 ?_
  refine bd_i hf (fun v1 S1 hq1 hf => ?_)
  refine goI (runS (rest := []) (mX2_letsIn l Γ  hq1) C hP hl.1 k2_62 qX2_letsIn.1 qX2_letsIn.2.1 qX2_letsIn.2.2.1 rfl qX2_letsIn.2.2.2 ⟨Nat.le_of_ble_eq_true rfl, Nat.le_of_ble_eq_true rfl⟩ ⟨Nat.le_refl 0, Nat.le_refl 0⟩ (Nat.le_of_ble_eq_true rfl) dX3_isOpen_12) hP (fun H locs hP => ?_)
  refine gb_i hf (fun hz2 hf => ?_)
  exact r_zret (X := cE Γ) C hP hz2 hf dX3_isOpen_15
-- X3_mayBeChosen
theorem qX3_mayBeChosen : Cond.instanceMethod yX3_mayBeChosen ∈ Ub ∧ Cond.selects RX3 yX3_mayBeChosen yX3_mayBeChosen ∈ Ub ∧ Cond.initialized RX3 ∈ Ub ∧ Cond.code yX3_mayBeChosen cX3_mayBeChosen 1 (some FieldType.boolean) ∈ Ub ∧ (yX3_mayBeChosen.cls = RX3 ∧ yX3_mayBeChosen.cls ≠ "java/lang/invoke/MethodHandle" ∧ yX3_mayBeChosen.cls ≠ "java/lang/invoke/VarHandle" ∧ (parseMethodDescriptor yX3_mayBeChosen.desc).map (fun d => d.parameters.length) = some 0) := ⟨k2_106, k2_107, k1_3, k2_108, by decide +kernel⟩
def fX3_mayBeChosen (u0 : Nat) (S : cM)  : Option (Int32 × cM) :=
  bd (fX3_isOpen u0 S) fun v1 S1 => ( if v1 = 0 then some (nI 0, S1) else bd (fX3_hasRoom u0 S1) fun v3 S3 => ( if v3 = 0 then some (nI 0, S3) else some (nI 1, S3)))
set_option maxHeartbeats 4000000 in
set_option maxRecDepth 100000 in
theorem mX3_mayBeChosen (l : Launch) (Γ : gG) {u0 : Nat} (hu0 : 7 ≤ u0 ∧ u0 ≤ 21) {S : cM}  {rz : Int32} {Sz : cM} (hf : fX3_mayBeChosen u0 S = some (rz, Sz)) : CtI l Γ 74 yX3_mayBeChosen cX3_mayBeChosen 1 .boolean 2 42 [.ref (Γ.2.2 (u0))] (cE Γ S) rz (cE Γ Sz) := by
  refine met_body (Γ := Γ) (lv := [(0, .ref (Γ.2.2 (u0)))]) RX3 (by decide) rfl rfl rfl ?_
  intro p e s m below meth c H locs ls C hP hl
  obtain ⟨hx, hb, -, -, hown, hts, -, hwx, -⟩ := id C
  unfold fX3_mayBeChosen at hf
  refine lv_aload_n hx hb dX3_mayBeChosen_0 rfl (lv_at hl 0 rfl) ?_
  refine bd_i hf (fun v1 S1 hq1 hf => ?_)
  refine goI (runV (rest := []) (mX3_isOpen l Γ hu0 hq1) C hP hl.1 (by have := hu0; omega) (cE3 hu0) rfl k2_109 qX3_isOpen.1 qX3_isOpen.2.1 qX3_isOpen.2.2.1 qX3_isOpen.2.2.2.1 rfl qX3_isOpen.2.2.2.2 ⟨Nat.le_of_ble_eq_true rfl, Nat.le_of_ble_eq_true rfl⟩ ⟨Nat.le_refl 0, Nat.le_refl 0⟩ (Nat.le_of_ble_eq_true rfl) dX3_mayBeChosen_1) hP (fun H locs hP => ?_)
  refine lv_if_eq (tgt := 18) hx hb dX3_mayBeChosen_4 (by decide) (fun hc2 => ?_) (fun hc2 => ?_)
  · have hf := if_t hc2 hf
    refine lv_iconst (v := nI 0) hx hb dX3_mayBeChosen_18 rfl ?_
    exact r_zret (X := cE Γ) C hP (Or.inl rfl) hf dX3_mayBeChosen_19
  · have hf := if_f hc2 hf
    refine lv_aload_n hx hb dX3_mayBeChosen_7 rfl (lv_at hl 0 rfl) ?_
    refine bd_i hf (fun v3 S3 hq3 hf => ?_)
    refine goI (runV (rest := []) (mX3_hasRoom l Γ hu0 hq3) C hP hl.1 (by have := hu0; omega) (cE3 hu0) rfl k2_5 qX3_hasRoom.1 qX3_hasRoom.2.1 qX3_hasRoom.2.2.1 qX3_hasRoom.2.2.2.1 rfl qX3_hasRoom.2.2.2.2 ⟨Nat.le_of_ble_eq_true rfl, Nat.le_of_ble_eq_true rfl⟩ ⟨Nat.le_refl 0, Nat.le_refl 0⟩ (Nat.le_of_ble_eq_true rfl) dX3_mayBeChosen_8) hP (fun H locs hP => ?_)
    refine lv_if_eq (tgt := 18) hx hb dX3_mayBeChosen_11 (by decide) (fun hc4 => ?_) (fun hc4 => ?_)
    · have hf := if_t hc4 hf
      refine lv_iconst (v := nI 0) hx hb dX3_mayBeChosen_18 rfl ?_
      exact r_zret (X := cE Γ) C hP (Or.inl rfl) hf dX3_mayBeChosen_19
    · have hf := if_f hc4 hf
      refine lv_iconst (v := nI 1) hx hb dX3_mayBeChosen_14 rfl ?_
      refine lv_goto (tgt := 19) hx hb dX3_mayBeChosen_15 (by decide) ?_
      exact r_zret (X := cE Γ) C hP (Or.inr rfl) hf dX3_mayBeChosen_19
-- X3_seenCars
theorem qX3_seenCars : Cond.instanceMethod yX3_seenCars ∈ Ub ∧ Cond.selects RX3 yX3_seenCars yX3_seenCars ∈ Ub ∧ Cond.initialized RX3 ∈ Ub ∧ Cond.code yX3_seenCars cX3_seenCars 1 (some FieldType.int) ∈ Ub ∧ (yX3_seenCars.cls = RX3 ∧ yX3_seenCars.cls ≠ "java/lang/invoke/MethodHandle" ∧ yX3_seenCars.cls ≠ "java/lang/invoke/VarHandle" ∧ (parseMethodDescriptor yX3_seenCars.desc).map (fun d => d.parameters.length) = some 0) := ⟨k2_39, k2_40, k1_3, k2_41, by decide +kernel⟩
def fX3_seenCars (u0 : Nat) (S : cM)  : Option (Int32 × cM) :=
  bd (fX2_seenOf S (S.1 u0 0) (S.1 u0 1) (S.1 u0 2)) fun v1 S1 => ( some (v1, S1))
set_option maxHeartbeats 4000000 in
set_option maxRecDepth 100000 in
theorem mX3_seenCars (l : Launch) (Γ : gG) {u0 : Nat} (hu0 : 7 ≤ u0 ∧ u0 ≤ 21) {S : cM}  {rz : Int32} {Sz : cM} (hf : fX3_seenCars u0 S = some (rz, Sz)) : CtI l Γ 74 yX3_seenCars cX3_seenCars 1 .int 2 44 [.ref (Γ.2.2 (u0))] (cE Γ S) rz (cE Γ Sz) := by
  refine met_body (Γ := Γ) (lv := [(0, .ref (Γ.2.2 (u0)))]) RX3 (by decide) rfl rfl rfl ?_
  intro p e s m below meth c H locs ls C hP hl
  obtain ⟨hx, hb, -, -, hown, hts, -, hwx, -⟩ := id C
  unfold fX3_seenCars at hf
  refine lv_aload_n hx hb dX3_seenCars_0 rfl (lv_at hl 0 rfl) ?_
  refine c3_get C hP hu0 0 (by decide) k1_37 rfl (v := .int (S.1 u0 0)) rfl dX3_seenCars_1 ?_
  refine lv_aload_n hx hb dX3_seenCars_4 rfl (lv_at hl 0 rfl) ?_
  refine c3_get C hP hu0 1 (by decide) k1_40 rfl (v := .int (S.1 u0 1)) rfl dX3_seenCars_5 ?_
  refine lv_aload_n hx hb dX3_seenCars_8 rfl (lv_at hl 0 rfl) ?_
  refine c3_get C hP hu0 2 (by decide) k1_43 rfl (v := .int (S.1 u0 2)) rfl dX3_seenCars_9 ?_
  refine bd_i hf (fun v1 S1 hq1 hf => ?_)
  refine goI (runS (rest := []) (mX2_seenOf l Γ  hq1) C hP hl.1 k2_42 qX2_seenOf.1 qX2_seenOf.2.1 qX2_seenOf.2.2.1 rfl qX2_seenOf.2.2.2 ⟨Nat.le_of_ble_eq_true rfl, Nat.le_of_ble_eq_true rfl⟩ ⟨Nat.le_refl 0, Nat.le_refl 0⟩ (Nat.le_of_ble_eq_true rfl) dX3_seenCars_12) hP (fun H locs hP => ?_)
  exact r_iret (X := cE Γ) C hP hf dX3_seenCars_15
-- X3_seemsNow
theorem qX3_seemsNow : Cond.instanceMethod yX3_seemsNow ∈ Ub ∧ Cond.selects RX3 yX3_seemsNow yX3_seemsNow ∈ Ub ∧ Cond.initialized RX3 ∈ Ub ∧ Cond.code yX3_seemsNow cX3_seemsNow 4 (some FieldType.int) ∈ Ub ∧ (yX3_seemsNow.cls = RX3 ∧ yX3_seemsNow.cls ≠ "java/lang/invoke/MethodHandle" ∧ yX3_seemsNow.cls ≠ "java/lang/invoke/VarHandle" ∧ (parseMethodDescriptor yX3_seemsNow.desc).map (fun d => d.parameters.length) = some 0) := ⟨k2_52, k2_53, k1_3, k2_54, by decide +kernel⟩
def fX3_seemsNow_16 (u0 : Nat)  : Nat → cM → Int32 → Int32 → Int32 → Option (Int32 × cM)
  | 0, _, _, _, _ => none
  | n + 1, S, x1, x2, x3 =>
    if x1 ≤ x3 then some (x2, S) else gi x3 8 (bd (fX2_laneMinutes S (S.1 (u0 + 15) (x3).toNatClampNeg)) fun v5 S5 => ( (fX3_seemsNow_16 u0  n) S5 x1 (x2 + v5) (x3 + (nI 1))))
set_option maxHeartbeats 4000000 in
set_option maxRecDepth 100000 in
theorem wX3_seemsNow_16 {p : Program} {l : Launch} {e : Env} {s : State} {m : MethodId} {args : Array Value} {below : List Frame} {meth : Method} {c : Code} {Γ : gG} {rz : Int32} {Sz : cM} (C : Cx Γ 74 p s m args meth c RX3 cX3_seemsNow 4 (some .int)) {u0 : Nat} (hu0 : 7 ≤ u0 ∧ u0 ≤ 21)  : ∀ n : Nat, ∀ (S : cM) (x1 : Int32) (x2 : Int32) (x3 : Int32) , fX3_seemsNow_16 u0  n S x1 x2 x3 = some (rz, Sz) → ∀ (H : Heap) (locs : List Loc) (ls : Array Slot), St Γ 74 (cE Γ S) s.heap H locs → lv_has ls 4 [(0, .ref (Γ.2.2 (u0))), (1, .int x1), (2, .int x2), (3, .int x3)] → W p l e { frames := 3, cells := 0, slots := 0, locals := 64 } s m args below meth c H locs 0 0 (MQ below (gQi Γ 74 rz (cE Γ Sz)) args s 0 0 (wA Γ 74)) (F0 m 16 ls []) := by
  obtain ⟨hx, hb, -, -, hown, hts, -, hwx, -⟩ := id C
  intro n
  induction n with
  | zero =>
    intro S x1 x2 x3 hf
    unfold fX3_seemsNow_16 at hf
    cases hf
  | succ n ih =>
    intro S x1 x2 x3 hf H locs ls hP hl
    unfold fX3_seemsNow_16 at hf
    refine lv_iload_n hx hb dX3_seemsNow_16 rfl (lv_at hl 3 rfl) ?_
    refine lv_iload_n hx hb dX3_seemsNow_17 rfl (lv_at hl 1 rfl) ?_
    refine lv_icmp_ge (tgt := 39) hx hb dX3_seemsNow_18 (by decide) (fun hc2 => ?_) (fun hc2 => ?_)
    · have hf := if_t hc2 hf
      refine lv_iload_n hx hb dX3_seemsNow_39 rfl (lv_at hl 2 rfl) ?_
      exact r_iret (X := cE Γ) C hP hf dX3_seemsNow_40
    · have hf := if_f hc2 hf
      refine lv_iload_n hx hb dX3_seemsNow_21 rfl (lv_at hl 2 rfl) ?_
      refine lv_aload_n hx hb dX3_seemsNow_22 rfl (lv_at hl 0 rfl) ?_
      refine c3_get C hP hu0 5 (by decide) k1_50 rfl (v := .ref (Γ.2.2 (u0 + 15))) rfl dX3_seemsNow_23 ?_
      refine lv_iload_n hx hb dX3_seemsNow_26 rfl (lv_at hl 3 rfl) ?_
      refine gi_i hf (fun hi3 hj4 hf => ?_)
      refine c_ild C hP (cA_so hu0) hi3 dX3_seemsNow_27 ?_
      refine bd_i hf (fun v5 S5 hq5 hf => ?_)
      refine goI (runS (rest := [.int x2]) (mX2_laneMinutes l Γ  hq5) C hP hl.1 k2_57 qX2_laneMinutes.1 qX2_laneMinutes.2.1 qX2_laneMinutes.2.2.1 rfl qX2_laneMinutes.2.2.2 ⟨Nat.le_of_ble_eq_true rfl, Nat.le_of_ble_eq_true rfl⟩ ⟨Nat.le_refl 0, Nat.le_refl 0⟩ (Nat.le_of_ble_eq_true rfl) dX3_seemsNow_28) hP (fun H locs hP => ?_)
      refine lv_iadd hx hb dX3_seemsNow_31 ?_
      refine lv_istore_n (lv' := [(2, .int (x2 + v5)), (0, .ref (Γ.2.2 (u0))), (1, .int x1), (3, .int x3)]) hx hb dX3_seemsNow_32 rfl hl (by decide) rfl (fun ls hl => ?_)
      refine lv_iinc (v := x3 + (nI 1)) (lv' := [(3, .int (x3 + (nI 1))), (2, .int (x2 + v5)), (0, .ref (Γ.2.2 (u0))), (1, .int x1)]) hx hb dX3_seemsNow_33 hl (k := 3) rfl rfl (by decide) rfl (fun ls hl => ?_)
      refine lv_goto (tgt := 16) hx hb dX3_seemsNow_36 (by decide) ?_
      exact ih S5 x1 (x2 + v5) (x3 + (nI 1))  hf _ _ _ hP (lv_sub hl [2, 3, 1, 0] rfl)
def fX3_seemsNow (u0 : Nat) (S : cM)  : Option (Int32 × cM) :=
  bd (fX3_seenCars u0 S) fun v1 S1 => ( fX3_seemsNow_16 u0  lF S1 (if (S1.1 u0 2) < v1 then (S1.1 u0 2) else v1) (nI 0) (nI 0))
set_option maxHeartbeats 4000000 in
set_option maxRecDepth 100000 in
theorem mX3_seemsNow (l : Launch) (Γ : gG) {u0 : Nat} (hu0 : 7 ≤ u0 ∧ u0 ≤ 21) {S : cM}  {rz : Int32} {Sz : cM} (hf : fX3_seemsNow u0 S = some (rz, Sz)) : CtI l Γ 74 yX3_seemsNow cX3_seemsNow 4 .int 3 64 [.ref (Γ.2.2 (u0))] (cE Γ S) rz (cE Γ Sz) := by
  refine met_body (Γ := Γ) (lv := [(0, .ref (Γ.2.2 (u0)))]) RX3 (by decide) rfl rfl rfl ?_
  intro p e s m below meth c H locs ls C hP hl
  obtain ⟨hx, hb, -, -, hown, hts, -, hwx, -⟩ := id C
  unfold fX3_seemsNow at hf
  refine lv_aload_n hx hb dX3_seemsNow_0 rfl (lv_at hl 0 rfl) ?_
  refine bd_i hf (fun v1 S1 hq1 hf => ?_)
  refine goI (runV (rest := []) (mX3_seenCars l Γ hu0 hq1) C hP hl.1 (by have := hu0; omega) (cE3 hu0) rfl k2_55 qX3_seenCars.1 qX3_seenCars.2.1 qX3_seenCars.2.2.1 qX3_seenCars.2.2.2.1 rfl qX3_seenCars.2.2.2.2 ⟨Nat.le_of_ble_eq_true rfl, Nat.le_of_ble_eq_true rfl⟩ ⟨Nat.le_refl 0, Nat.le_refl 0⟩ (Nat.le_of_ble_eq_true rfl) dX3_seemsNow_1) hP (fun H locs hP => ?_)
  refine lv_aload_n hx hb dX3_seemsNow_4 rfl (lv_at hl 0 rfl) ?_
  refine c3_get C hP hu0 2 (by decide) k1_43 rfl (v := .int (S1.1 u0 2)) rfl dX3_seemsNow_5 ?_
  refine va_mmin hx hb (by rw [C.2.2.2.1]; exact hl.1.symm) hown (hts _ k2_56) (hts _ k2_49) (hts _ k1_9) (hts _ k2_50) (Nat.le_of_ble_eq_true rfl) (Nat.le_of_ble_eq_true rfl) (Nat.le_refl 0) (Nat.le_refl 0) dX3_seemsNow_8 ?_
  refine lv_istore_n (lv' := [(1, .int (if (S1.1 u0 2) < v1 then (S1.1 u0 2) else v1)), (0, .ref (Γ.2.2 (u0)))]) hx hb dX3_seemsNow_11 rfl hl (by decide) rfl (fun ls hl => ?_)
  refine lv_iconst (v := nI 0) hx hb dX3_seemsNow_12 rfl ?_
  refine lv_istore_n (lv' := [(2, .int (nI 0)), (1, .int (if (S1.1 u0 2) < v1 then (S1.1 u0 2) else v1)), (0, .ref (Γ.2.2 (u0)))]) hx hb dX3_seemsNow_13 rfl hl (by decide) rfl (fun ls hl => ?_)
  refine lv_iconst (v := nI 0) hx hb dX3_seemsNow_14 rfl ?_
  refine lv_istore_n (lv' := [(3, .int (nI 0)), (2, .int (nI 0)), (1, .int (if (S1.1 u0 2) < v1 then (S1.1 u0 2) else v1)), (0, .ref (Γ.2.2 (u0)))]) hx hb dX3_seemsNow_15 rfl hl (by decide) rfl (fun ls hl => ?_)
  exact wX3_seemsNow_16 C hu0  lF S1 (if (S1.1 u0 2) < v1 then (S1.1 u0 2) else v1) (nI 0) (nI 0)  hf _ _ _ hP (lv_sub hl [3, 2, 1, 0] rfl)
-- X3_timeAt
theorem qX3_timeAt : Cond.instanceMethod yX3_timeAt ∈ Ub ∧ Cond.selects RX3 yX3_timeAt yX3_timeAt ∈ Ub ∧ Cond.initialized RX3 ∈ Ub ∧ Cond.code yX3_timeAt cX3_timeAt 4 (some FieldType.int) ∈ Ub ∧ (yX3_timeAt.cls = RX3 ∧ yX3_timeAt.cls ≠ "java/lang/invoke/MethodHandle" ∧ yX3_timeAt.cls ≠ "java/lang/invoke/VarHandle" ∧ (parseMethodDescriptor yX3_timeAt.desc).map (fun d => d.parameters.length) = some 1) := ⟨k2_35, k2_36, k1_3, k2_37, by decide +kernel⟩
def fX3_timeAt_7 (u0 : Nat)  : Nat → cM → Int32 → Int32 → Int32 → Option (Int32 × cM)
  | 0, _, _, _, _ => none
  | n + 1, S, x1, x2, x3 =>
    if x1 < x3 then some (x2, S) else if (S.1 u0 2) ≤ x3 then some (x2, S) else gi x3 8 (bd (fX3_needs u0 S (S.1 (u0 + 15) (x3).toNatClampNeg)) fun v5 S5 => ( (fX3_timeAt_7 u0  n) S5 x1 (x2 + v5) (x3 + (nI 1))))
set_option maxHeartbeats 4000000 in
set_option maxRecDepth 100000 in
theorem wX3_timeAt_7 {p : Program} {l : Launch} {e : Env} {s : State} {m : MethodId} {args : Array Value} {below : List Frame} {meth : Method} {c : Code} {Γ : gG} {rz : Int32} {Sz : cM} (C : Cx Γ 74 p s m args meth c RX3 cX3_timeAt 4 (some .int)) {u0 : Nat} (hu0 : 7 ≤ u0 ∧ u0 ≤ 21)  : ∀ n : Nat, ∀ (S : cM) (x1 : Int32) (x2 : Int32) (x3 : Int32) , fX3_timeAt_7 u0  n S x1 x2 x3 = some (rz, Sz) → ∀ (H : Heap) (locs : List Loc) (ls : Array Slot), St Γ 74 (cE Γ S) s.heap H locs → lv_has ls 4 [(0, .ref (Γ.2.2 (u0))), (1, .int x1), (2, .int x2), (3, .int x3)] → W p l e { frames := 1, cells := 0, slots := 0, locals := 21 } s m args below meth c H locs 0 0 (MQ below (gQi Γ 74 rz (cE Γ Sz)) args s 0 0 (wA Γ 74)) (F0 m 7 ls []) := by
  obtain ⟨hx, hb, -, -, hown, hts, -, hwx, -⟩ := id C
  intro n
  induction n with
  | zero =>
    intro S x1 x2 x3 hf
    unfold fX3_timeAt_7 at hf
    cases hf
  | succ n ih =>
    intro S x1 x2 x3 hf H locs ls hP hl
    unfold fX3_timeAt_7 at hf
    refine lv_iload_n hx hb dX3_timeAt_7 rfl (lv_at hl 3 rfl) ?_
    refine lv_iload_n hx hb dX3_timeAt_8 rfl (lv_at hl 1 rfl) ?_
    refine lv_icmp_gt (tgt := 39) hx hb dX3_timeAt_9 (by decide) (fun hc1 => ?_) (fun hc1 => ?_)
    · have hf := if_t hc1 hf
      refine lv_iload_n hx hb dX3_timeAt_39 rfl (lv_at hl 2 rfl) ?_
      exact r_iret (X := cE Γ) C hP hf dX3_timeAt_40
    · have hf := if_f hc1 hf
      refine lv_iload_n hx hb dX3_timeAt_12 rfl (lv_at hl 3 rfl) ?_
      refine lv_aload_n hx hb dX3_timeAt_13 rfl (lv_at hl 0 rfl) ?_
      refine c3_get C hP hu0 2 (by decide) k1_43 rfl (v := .int (S.1 u0 2)) rfl dX3_timeAt_14 ?_
      refine lv_icmp_ge (tgt := 39) hx hb dX3_timeAt_17 (by decide) (fun hc2 => ?_) (fun hc2 => ?_)
      · have hf := if_t hc2 hf
        refine lv_iload_n hx hb dX3_timeAt_39 rfl (lv_at hl 2 rfl) ?_
        exact r_iret (X := cE Γ) C hP hf dX3_timeAt_40
      · have hf := if_f hc2 hf
        refine lv_iload_n hx hb dX3_timeAt_20 rfl (lv_at hl 2 rfl) ?_
        refine lv_aload_n hx hb dX3_timeAt_21 rfl (lv_at hl 0 rfl) ?_
        refine lv_aload_n hx hb dX3_timeAt_22 rfl (lv_at hl 0 rfl) ?_
        refine c3_get C hP hu0 5 (by decide) k1_50 rfl (v := .ref (Γ.2.2 (u0 + 15))) rfl dX3_timeAt_23 ?_
        refine lv_iload_n hx hb dX3_timeAt_26 rfl (lv_at hl 3 rfl) ?_
        refine gi_i hf (fun hi3 hj4 hf => ?_)
        refine c_ild C hP (cA_so hu0) hi3 dX3_timeAt_27 ?_
        refine bd_i hf (fun v5 S5 hq5 hf => ?_)
        refine goI (runV (rest := [.int x2]) (mX3_needs l Γ hu0 hq5) C hP hl.1 (by have := hu0; omega) (cE3 hu0) rfl k2_6 qX3_needs.1 qX3_needs.2.1 qX3_needs.2.2.1 qX3_needs.2.2.2.1 rfl qX3_needs.2.2.2.2 ⟨Nat.le_of_ble_eq_true rfl, Nat.le_of_ble_eq_true rfl⟩ ⟨Nat.le_refl 0, Nat.le_refl 0⟩ (Nat.le_of_ble_eq_true rfl) dX3_timeAt_28) hP (fun H locs hP => ?_)
        refine lv_iadd hx hb dX3_timeAt_31 ?_
        refine lv_istore_n (lv' := [(2, .int (x2 + v5)), (0, .ref (Γ.2.2 (u0))), (1, .int x1), (3, .int x3)]) hx hb dX3_timeAt_32 rfl hl (by decide) rfl (fun ls hl => ?_)
        refine lv_iinc (v := x3 + (nI 1)) (lv' := [(3, .int (x3 + (nI 1))), (2, .int (x2 + v5)), (0, .ref (Γ.2.2 (u0))), (1, .int x1)]) hx hb dX3_timeAt_33 hl (k := 3) rfl rfl (by decide) rfl (fun ls hl => ?_)
        refine lv_goto (tgt := 7) hx hb dX3_timeAt_36 (by decide) ?_
        exact ih S5 x1 (x2 + v5) (x3 + (nI 1))  hf _ _ _ hP (lv_sub hl [2, 3, 1, 0] rfl)
def fX3_timeAt (u0 : Nat) (S : cM) (x1 : Int32) : Option (Int32 × cM) :=
  fX3_timeAt_7 u0  lF S x1 (S.1 u0 3) (nI 1)
set_option maxHeartbeats 4000000 in
set_option maxRecDepth 100000 in
theorem mX3_timeAt (l : Launch) (Γ : gG) {u0 : Nat} (hu0 : 7 ≤ u0 ∧ u0 ≤ 21) {S : cM} {x1 : Int32} {rz : Int32} {Sz : cM} (hf : fX3_timeAt u0 S x1 = some (rz, Sz)) : CtI l Γ 74 yX3_timeAt cX3_timeAt 4 .int 1 21 [.ref (Γ.2.2 (u0)), .int x1] (cE Γ S) rz (cE Γ Sz) := by
  refine met_body (Γ := Γ) (lv := [(0, .ref (Γ.2.2 (u0))), (1, .int x1)]) RX3 (by decide) rfl rfl rfl ?_
  intro p e s m below meth c H locs ls C hP hl
  obtain ⟨hx, hb, -, -, hown, hts, -, hwx, -⟩ := id C
  unfold fX3_timeAt at hf
  refine lv_aload_n hx hb dX3_timeAt_0 rfl (lv_at hl 0 rfl) ?_
  refine c3_get C hP hu0 3 (by decide) k1_46 rfl (v := .int (S.1 u0 3)) rfl dX3_timeAt_1 ?_
  refine lv_istore_n (lv' := [(2, .int (S.1 u0 3)), (0, .ref (Γ.2.2 (u0))), (1, .int x1)]) hx hb dX3_timeAt_4 rfl hl (by decide) rfl (fun ls hl => ?_)
  refine lv_iconst (v := nI 1) hx hb dX3_timeAt_5 rfl ?_
  refine lv_istore_n (lv' := [(3, .int (nI 1)), (2, .int (S.1 u0 3)), (0, .ref (Γ.2.2 (u0))), (1, .int x1)]) hx hb dX3_timeAt_6 rfl hl (by decide) rfl (fun ls hl => ?_)
  exact wX3_timeAt_7 C hu0  lF S x1 (S.1 u0 3) (nI 1)  hf _ _ _ hP (lv_sub hl [2, 3, 1, 0] rfl)
-- X3_waitNow
theorem qX3_waitNow : Cond.instanceMethod yX3_waitNow ∈ Ub ∧ Cond.selects RX3 yX3_waitNow yX3_waitNow ∈ Ub ∧ Cond.initialized RX3 ∈ Ub ∧ Cond.code yX3_waitNow cX3_waitNow 1 (some FieldType.int) ∈ Ub ∧ (yX3_waitNow.cls = RX3 ∧ yX3_waitNow.cls ≠ "java/lang/invoke/MethodHandle" ∧ yX3_waitNow.cls ≠ "java/lang/invoke/VarHandle" ∧ (parseMethodDescriptor yX3_waitNow.desc).map (fun d => d.parameters.length) = some 0) := ⟨k2_31, k2_32, k1_3, k2_33, by decide +kernel⟩
def fX3_waitNow (u0 : Nat) (S : cM)  : Option (Int32 × cM) :=
  bd (fX3_timeAt u0 S ((S.1 u0 2) - (nI 1))) fun v1 S1 => ( some (v1, S1))
set_option maxHeartbeats 4000000 in
set_option maxRecDepth 100000 in
theorem mX3_waitNow (l : Launch) (Γ : gG) {u0 : Nat} (hu0 : 7 ≤ u0 ∧ u0 ≤ 21) {S : cM}  {rz : Int32} {Sz : cM} (hf : fX3_waitNow u0 S = some (rz, Sz)) : CtI l Γ 74 yX3_waitNow cX3_waitNow 1 .int 2 44 [.ref (Γ.2.2 (u0))] (cE Γ S) rz (cE Γ Sz) := by
  refine met_body (Γ := Γ) (lv := [(0, .ref (Γ.2.2 (u0)))]) RX3 (by decide) rfl rfl rfl ?_
  intro p e s m below meth c H locs ls C hP hl
  obtain ⟨hx, hb, -, -, hown, hts, -, hwx, -⟩ := id C
  unfold fX3_waitNow at hf
  refine lv_aload_n hx hb dX3_waitNow_0 rfl (lv_at hl 0 rfl) ?_
  refine lv_aload_n hx hb dX3_waitNow_1 rfl (lv_at hl 0 rfl) ?_
  refine c3_get C hP hu0 2 (by decide) k1_43 rfl (v := .int (S.1 u0 2)) rfl dX3_waitNow_2 ?_
  refine lv_iconst (v := nI 1) hx hb dX3_waitNow_5 rfl ?_
  refine lv_isub hx hb dX3_waitNow_6 ?_
  refine bd_i hf (fun v1 S1 hq1 hf => ?_)
  refine goI (runV (rest := []) (mX3_timeAt l Γ hu0 hq1) C hP hl.1 (by have := hu0; omega) (cE3 hu0) rfl k2_34 qX3_timeAt.1 qX3_timeAt.2.1 qX3_timeAt.2.2.1 qX3_timeAt.2.2.2.1 rfl qX3_timeAt.2.2.2.2 ⟨Nat.le_of_ble_eq_true rfl, Nat.le_of_ble_eq_true rfl⟩ ⟨Nat.le_refl 0, Nat.le_refl 0⟩ (Nat.le_of_ble_eq_true rfl) dX3_waitNow_7) hP (fun H locs hP => ?_)
  exact r_iret (X := cE Γ) C hP hf dX3_waitNow_10
-- X3_timeOfNext
theorem qX3_timeOfNext : Cond.instanceMethod yX3_timeOfNext ∈ Ub ∧ Cond.selects RX3 yX3_timeOfNext yX3_timeOfNext ∈ Ub ∧ Cond.initialized RX3 ∈ Ub ∧ Cond.code yX3_timeOfNext cX3_timeOfNext 2 (some FieldType.int) ∈ Ub ∧ (yX3_timeOfNext.cls = RX3 ∧ yX3_timeOfNext.cls ≠ "java/lang/invoke/MethodHandle" ∧ yX3_timeOfNext.cls ≠ "java/lang/invoke/VarHandle" ∧ (parseMethodDescriptor yX3_timeOfNext.desc).map (fun d => d.parameters.length) = some 1) := ⟨k2_86, k2_87, k1_3, k2_88, by decide +kernel⟩
def fX3_timeOfNext (u0 : Nat) (S : cM) (x1 : Int32) : Option (Int32 × cM) :=
  bd (fX3_timeAt u0 S ((S.1 u0 2) - (nI 1))) fun v1 S1 => ( bd (fX3_needs u0 S1 x1) fun v2 S2 => ( some (v1 + v2, S2)))
set_option maxHeartbeats 4000000 in
set_option maxRecDepth 100000 in
theorem mX3_timeOfNext (l : Launch) (Γ : gG) {u0 : Nat} (hu0 : 7 ≤ u0 ∧ u0 ≤ 21) {S : cM} {x1 : Int32} {rz : Int32} {Sz : cM} (hf : fX3_timeOfNext u0 S x1 = some (rz, Sz)) : CtI l Γ 74 yX3_timeOfNext cX3_timeOfNext 2 .int 2 44 [.ref (Γ.2.2 (u0)), .int x1] (cE Γ S) rz (cE Γ Sz) := by
  refine met_body (Γ := Γ) (lv := [(0, .ref (Γ.2.2 (u0))), (1, .int x1)]) RX3 (by decide) rfl rfl rfl ?_
  intro p e s m below meth c H locs ls C hP hl
  obtain ⟨hx, hb, -, -, hown, hts, -, hwx, -⟩ := id C
  unfold fX3_timeOfNext at hf
  refine lv_aload_n hx hb dX3_timeOfNext_0 rfl (lv_at hl 0 rfl) ?_
  refine lv_aload_n hx hb dX3_timeOfNext_1 rfl (lv_at hl 0 rfl) ?_
  refine c3_get C hP hu0 2 (by decide) k1_43 rfl (v := .int (S.1 u0 2)) rfl dX3_timeOfNext_2 ?_
  refine lv_iconst (v := nI 1) hx hb dX3_timeOfNext_5 rfl ?_
  refine lv_isub hx hb dX3_timeOfNext_6 ?_
  refine bd_i hf (fun v1 S1 hq1 hf => ?_)
  refine goI (runV (rest := []) (mX3_timeAt l Γ hu0 hq1) C hP hl.1 (by have := hu0; omega) (cE3 hu0) rfl k2_34 qX3_timeAt.1 qX3_timeAt.2.1 qX3_timeAt.2.2.1 qX3_timeAt.2.2.2.1 rfl qX3_timeAt.2.2.2.2 ⟨Nat.le_of_ble_eq_true rfl, Nat.le_of_ble_eq_true rfl⟩ ⟨Nat.le_refl 0, Nat.le_refl 0⟩ (Nat.le_of_ble_eq_true rfl) dX3_timeOfNext_7) hP (fun H locs hP => ?_)
  refine lv_aload_n hx hb dX3_timeOfNext_10 rfl (lv_at hl 0 rfl) ?_
  refine lv_iload_n hx hb dX3_timeOfNext_11 rfl (lv_at hl 1 rfl) ?_
  refine bd_i hf (fun v2 S2 hq2 hf => ?_)
  refine goI (runV (rest := [.int v1]) (mX3_needs l Γ hu0 hq2) C hP hl.1 (by have := hu0; omega) (cE3 hu0) rfl k2_6 qX3_needs.1 qX3_needs.2.1 qX3_needs.2.2.1 qX3_needs.2.2.2.1 rfl qX3_needs.2.2.2.2 ⟨Nat.le_of_ble_eq_true rfl, Nat.le_of_ble_eq_true rfl⟩ ⟨Nat.le_refl 0, Nat.le_refl 0⟩ (Nat.le_of_ble_eq_true rfl) dX3_timeOfNext_12) hP (fun H locs hP => ?_)
  refine lv_iadd hx hb dX3_timeOfNext_15 ?_
  exact r_iret (X := cE Γ) C hP hf dX3_timeOfNext_16
-- X3_timesTogether
theorem qX3_timesTogether : Cond.instanceMethod yX3_timesTogether ∈ Ub ∧ Cond.selects RX3 yX3_timesTogether yX3_timesTogether ∈ Ub ∧ Cond.initialized RX3 ∈ Ub ∧ Cond.code yX3_timesTogether cX3_timesTogether 4 (some FieldType.int) ∈ Ub ∧ (yX3_timesTogether.cls = RX3 ∧ yX3_timesTogether.cls ≠ "java/lang/invoke/MethodHandle" ∧ yX3_timesTogether.cls ≠ "java/lang/invoke/VarHandle" ∧ (parseMethodDescriptor yX3_timesTogether.desc).map (fun d => d.parameters.length) = some 0) := ⟨k2_146, k2_147, k1_3, k2_148, by decide +kernel⟩
def fX3_timesTogether_12 (u0 : Nat)  : Nat → cM → Int32 → Int32 → Int32 → Option (Int32 × cM)
  | 0, _, _, _, _ => none
  | n + 1, S, x1, x2, x3 =>
    if (S.1 u0 2) ≤ x3 then some (x2, S) else gi x3 8 (bd (fX3_needs u0 S (S.1 (u0 + 15) (x3).toNatClampNeg)) fun v4 S4 => ( (fX3_timesTogether_12 u0  n) S4 (x1 + v4) (x2 + (x1 + v4)) (x3 + (nI 1))))
set_option maxHeartbeats 4000000 in
set_option maxRecDepth 100000 in
theorem wX3_timesTogether_12 {p : Program} {l : Launch} {e : Env} {s : State} {m : MethodId} {args : Array Value} {below : List Frame} {meth : Method} {c : Code} {Γ : gG} {rz : Int32} {Sz : cM} (C : Cx Γ 74 p s m args meth c RX3 cX3_timesTogether 4 (some .int)) {u0 : Nat} (hu0 : 7 ≤ u0 ∧ u0 ≤ 21)  : ∀ n : Nat, ∀ (S : cM) (x1 : Int32) (x2 : Int32) (x3 : Int32) , fX3_timesTogether_12 u0  n S x1 x2 x3 = some (rz, Sz) → ∀ (H : Heap) (locs : List Loc) (ls : Array Slot), St Γ 74 (cE Γ S) s.heap H locs → lv_has ls 4 [(0, .ref (Γ.2.2 (u0))), (1, .int x1), (2, .int x2), (3, .int x3)] → W p l e { frames := 1, cells := 0, slots := 0, locals := 21 } s m args below meth c H locs 0 0 (MQ below (gQi Γ 74 rz (cE Γ Sz)) args s 0 0 (wA Γ 74)) (F0 m 12 ls []) := by
  obtain ⟨hx, hb, -, -, hown, hts, -, hwx, -⟩ := id C
  intro n
  induction n with
  | zero =>
    intro S x1 x2 x3 hf
    unfold fX3_timesTogether_12 at hf
    cases hf
  | succ n ih =>
    intro S x1 x2 x3 hf H locs ls hP hl
    unfold fX3_timesTogether_12 at hf
    refine lv_iload_n hx hb dX3_timesTogether_12 rfl (lv_at hl 3 rfl) ?_
    refine lv_aload_n hx hb dX3_timesTogether_13 rfl (lv_at hl 0 rfl) ?_
    refine c3_get C hP hu0 2 (by decide) k1_43 rfl (v := .int (S.1 u0 2)) rfl dX3_timesTogether_14 ?_
    refine lv_icmp_ge (tgt := 43) hx hb dX3_timesTogether_17 (by decide) (fun hc1 => ?_) (fun hc1 => ?_)
    · have hf := if_t hc1 hf
      refine lv_iload_n hx hb dX3_timesTogether_43 rfl (lv_at hl 2 rfl) ?_
      exact r_iret (X := cE Γ) C hP hf dX3_timesTogether_44
    · have hf := if_f hc1 hf
      refine lv_iload_n hx hb dX3_timesTogether_20 rfl (lv_at hl 1 rfl) ?_
      refine lv_aload_n hx hb dX3_timesTogether_21 rfl (lv_at hl 0 rfl) ?_
      refine lv_aload_n hx hb dX3_timesTogether_22 rfl (lv_at hl 0 rfl) ?_
      refine c3_get C hP hu0 5 (by decide) k1_50 rfl (v := .ref (Γ.2.2 (u0 + 15))) rfl dX3_timesTogether_23 ?_
      refine lv_iload_n hx hb dX3_timesTogether_26 rfl (lv_at hl 3 rfl) ?_
      refine gi_i hf (fun hi2 hj3 hf => ?_)
      refine c_ild C hP (cA_so hu0) hi2 dX3_timesTogether_27 ?_
      refine bd_i hf (fun v4 S4 hq4 hf => ?_)
      refine goI (runV (rest := [.int x1]) (mX3_needs l Γ hu0 hq4) C hP hl.1 (by have := hu0; omega) (cE3 hu0) rfl k2_6 qX3_needs.1 qX3_needs.2.1 qX3_needs.2.2.1 qX3_needs.2.2.2.1 rfl qX3_needs.2.2.2.2 ⟨Nat.le_of_ble_eq_true rfl, Nat.le_of_ble_eq_true rfl⟩ ⟨Nat.le_refl 0, Nat.le_refl 0⟩ (Nat.le_of_ble_eq_true rfl) dX3_timesTogether_28) hP (fun H locs hP => ?_)
      refine lv_iadd hx hb dX3_timesTogether_31 ?_
      refine lv_istore_n (lv' := [(1, .int (x1 + v4)), (0, .ref (Γ.2.2 (u0))), (2, .int x2), (3, .int x3)]) hx hb dX3_timesTogether_32 rfl hl (by decide) rfl (fun ls hl => ?_)
      refine lv_iload_n hx hb dX3_timesTogether_33 rfl (lv_at hl 2 rfl) ?_
      refine lv_iload_n hx hb dX3_timesTogether_34 rfl (lv_at hl 0 rfl) ?_
      refine lv_iadd hx hb dX3_timesTogether_35 ?_
      refine lv_istore_n (lv' := [(2, .int (x2 + (x1 + v4))), (1, .int (x1 + v4)), (0, .ref (Γ.2.2 (u0))), (3, .int x3)]) hx hb dX3_timesTogether_36 rfl hl (by decide) rfl (fun ls hl => ?_)
      refine lv_iinc (v := x3 + (nI 1)) (lv' := [(3, .int (x3 + (nI 1))), (2, .int (x2 + (x1 + v4))), (1, .int (x1 + v4)), (0, .ref (Γ.2.2 (u0)))]) hx hb dX3_timesTogether_37 hl (k := 3) rfl rfl (by decide) rfl (fun ls hl => ?_)
      refine lv_goto (tgt := 12) hx hb dX3_timesTogether_40 (by decide) ?_
      exact ih S4 (x1 + v4) (x2 + (x1 + v4)) (x3 + (nI 1))  hf _ _ _ hP (lv_sub hl [3, 2, 1, 0] rfl)
def fX3_timesTogether (u0 : Nat) (S : cM)  : Option (Int32 × cM) :=
  fX3_timesTogether_12 u0  lF S (S.1 u0 3) (S.1 u0 3) (nI 1)
set_option maxHeartbeats 4000000 in
set_option maxRecDepth 100000 in
theorem mX3_timesTogether (l : Launch) (Γ : gG) {u0 : Nat} (hu0 : 7 ≤ u0 ∧ u0 ≤ 21) {S : cM}  {rz : Int32} {Sz : cM} (hf : fX3_timesTogether u0 S = some (rz, Sz)) : CtI l Γ 74 yX3_timesTogether cX3_timesTogether 4 .int 1 21 [.ref (Γ.2.2 (u0))] (cE Γ S) rz (cE Γ Sz) := by
  refine met_body (Γ := Γ) (lv := [(0, .ref (Γ.2.2 (u0)))]) RX3 (by decide) rfl rfl rfl ?_
  intro p e s m below meth c H locs ls C hP hl
  obtain ⟨hx, hb, -, -, hown, hts, -, hwx, -⟩ := id C
  unfold fX3_timesTogether at hf
  refine lv_aload_n hx hb dX3_timesTogether_0 rfl (lv_at hl 0 rfl) ?_
  refine c3_get C hP hu0 3 (by decide) k1_46 rfl (v := .int (S.1 u0 3)) rfl dX3_timesTogether_1 ?_
  refine lv_istore_n (lv' := [(1, .int (S.1 u0 3)), (0, .ref (Γ.2.2 (u0)))]) hx hb dX3_timesTogether_4 rfl hl (by decide) rfl (fun ls hl => ?_)
  refine lv_aload_n hx hb dX3_timesTogether_5 rfl (lv_at hl 1 rfl) ?_
  refine c3_get C hP hu0 3 (by decide) k1_46 rfl (v := .int (S.1 u0 3)) rfl dX3_timesTogether_6 ?_
  refine lv_istore_n (lv' := [(2, .int (S.1 u0 3)), (1, .int (S.1 u0 3)), (0, .ref (Γ.2.2 (u0)))]) hx hb dX3_timesTogether_9 rfl hl (by decide) rfl (fun ls hl => ?_)
  refine lv_iconst (v := nI 1) hx hb dX3_timesTogether_10 rfl ?_
  refine lv_istore_n (lv' := [(3, .int (nI 1)), (2, .int (S.1 u0 3)), (1, .int (S.1 u0 3)), (0, .ref (Γ.2.2 (u0)))]) hx hb dX3_timesTogether_11 rfl hl (by decide) rfl (fun ls hl => ?_)
  exact wX3_timesTogether_12 C hu0  lF S (S.1 u0 3) (S.1 u0 3) (nI 1)  hf _ _ _ hP (lv_sub hl [3, 2, 1, 0] rfl)
-- X3_comeIn
theorem qX3_comeIn : Cond.instanceMethod yX3_comeIn ∈ Ub ∧ Cond.selects RX3 yX3_comeIn yX3_comeIn ∈ Ub ∧ Cond.initialized RX3 ∈ Ub ∧ Cond.code yX3_comeIn cX3_comeIn 2 (none : Option Jvm.ClassFile.FieldType) ∈ Ub ∧ (yX3_comeIn.cls = RX3 ∧ yX3_comeIn.cls ≠ "java/lang/invoke/MethodHandle" ∧ yX3_comeIn.cls ≠ "java/lang/invoke/VarHandle" ∧ (parseMethodDescriptor yX3_comeIn.desc).map (fun d => d.parameters.length) = some 1) := ⟨k2_2, k2_3, k1_3, k2_4, by decide +kernel⟩
def fX3_comeIn (u0 : Nat) (S : cM) (x1 : Int32) : Option cM :=
  bd (fX3_hasRoom u0 S) fun v1 S1 => ( if v1 = 0 then some S1 else gi (S1.1 u0 2) 8 (sv (cS S1 (u0 + 15) ((S1.1 u0 2).toNatClampNeg) x1) fun S5 => ( sv (cS S5 u0 2 ((S5.1 u0 2) + (nI 1))) fun S6 => ( if (S6.1 u0 2) = (nI 1) then bd (fX3_needs u0 S6 x1) fun v8 S8 => ( sv (cS S8 u0 3 v8) fun S9 => ( some S9)) else some S6))))
set_option maxHeartbeats 4000000 in
set_option maxRecDepth 100000 in
theorem mX3_comeIn (l : Launch) (Γ : gG) {u0 : Nat} (hu0 : 7 ≤ u0 ∧ u0 ≤ 21) {S : cM} {x1 : Int32} {Sz : cM} (hf : fX3_comeIn u0 S x1 = some Sz) : CtV l Γ 74 yX3_comeIn cX3_comeIn 2 1 21 [.ref (Γ.2.2 (u0)), .int x1] (cE Γ S) (cE Γ Sz) := by
  refine met_body (Γ := Γ) (lv := [(0, .ref (Γ.2.2 (u0))), (1, .int x1)]) RX3 (by decide) rfl rfl rfl ?_
  intro p e s m below meth c H locs ls C hP hl
  obtain ⟨hx, hb, -, -, hown, hts, -, hwx, -⟩ := id C
  unfold fX3_comeIn at hf
  refine lv_aload_n hx hb dX3_comeIn_0 rfl (lv_at hl 0 rfl) ?_
  refine bd_i hf (fun v1 S1 hq1 hf => ?_)
  refine goI (runV (rest := []) (mX3_hasRoom l Γ hu0 hq1) C hP hl.1 (by have := hu0; omega) (cE3 hu0) rfl k2_5 qX3_hasRoom.1 qX3_hasRoom.2.1 qX3_hasRoom.2.2.1 qX3_hasRoom.2.2.2.1 rfl qX3_hasRoom.2.2.2.2 ⟨Nat.le_of_ble_eq_true rfl, Nat.le_of_ble_eq_true rfl⟩ ⟨Nat.le_refl 0, Nat.le_refl 0⟩ (Nat.le_of_ble_eq_true rfl) dX3_comeIn_1) hP (fun H locs hP => ?_)
  refine lv_if_ne (tgt := 8) hx hb dX3_comeIn_4 (by decide) (fun hc2 => ?_) (fun hc2 => ?_)
  · have hf := if_f hc2 hf
    refine lv_aload_n hx hb dX3_comeIn_8 rfl (lv_at hl 0 rfl) ?_
    refine c3_get C hP hu0 5 (by decide) k1_50 rfl (v := .ref (Γ.2.2 (u0 + 15))) rfl dX3_comeIn_9 ?_
    refine lv_aload_n hx hb dX3_comeIn_12 rfl (lv_at hl 0 rfl) ?_
    refine c3_get C hP hu0 2 (by decide) k1_43 rfl (v := .int (S1.1 u0 2)) rfl dX3_comeIn_13 ?_
    refine lv_iload_n hx hb dX3_comeIn_16 rfl (lv_at hl 1 rfl) ?_
    refine gi_i hf (fun hi3 hj4 hf => ?_)
    refine c_ist C hP (cA_so hu0) hi3 dX3_comeIn_17 (fun H locs hP => ?_)
    refine sv_i hf (fun S5 e5 hf => ?_)
    rw [← e5] at hP
    refine lv_aload_n hx hb dX3_comeIn_18 rfl (lv_at hl 0 rfl) ?_
    refine lv_dup hx hb dX3_comeIn_19 rfl ?_
    refine c3_get C hP hu0 2 (by decide) k1_43 rfl (v := .int (S5.1 u0 2)) rfl dX3_comeIn_20 ?_
    refine lv_iconst (v := nI 1) hx hb dX3_comeIn_23 rfl ?_
    refine lv_iadd hx hb dX3_comeIn_24 ?_
    refine c3_put C hP hu0 2 (by decide) k1_43 dX3_comeIn_25 (fun H locs hP => ?_)
    refine sv_i hf (fun S6 e6 hf => ?_)
    rw [← e6] at hP
    refine lv_aload_n hx hb dX3_comeIn_28 rfl (lv_at hl 0 rfl) ?_
    refine c3_get C hP hu0 2 (by decide) k1_43 rfl (v := .int (S6.1 u0 2)) rfl dX3_comeIn_29 ?_
    refine lv_iconst (v := nI 1) hx hb dX3_comeIn_32 rfl ?_
    refine lv_icmp_ne (tgt := 45) hx hb dX3_comeIn_33 (by decide) (fun hc7 => ?_) (fun hc7 => ?_)
    · have hf := if_f hc7 hf
      exact r_vret (X := cE Γ) C hP hf dX3_comeIn_45
    · have hf := if_t hc7 hf
      refine lv_aload_n hx hb dX3_comeIn_36 rfl (lv_at hl 0 rfl) ?_
      refine lv_aload_n hx hb dX3_comeIn_37 rfl (lv_at hl 0 rfl) ?_
      refine lv_iload_n hx hb dX3_comeIn_38 rfl (lv_at hl 1 rfl) ?_
      refine bd_i hf (fun v8 S8 hq8 hf => ?_)
      refine goI (runV (rest := [.ref (Γ.2.2 (u0))]) (mX3_needs l Γ hu0 hq8) C hP hl.1 (by have := hu0; omega) (cE3 hu0) rfl k2_6 qX3_needs.1 qX3_needs.2.1 qX3_needs.2.2.1 qX3_needs.2.2.2.1 rfl qX3_needs.2.2.2.2 ⟨Nat.le_of_ble_eq_true rfl, Nat.le_of_ble_eq_true rfl⟩ ⟨Nat.le_refl 0, Nat.le_refl 0⟩ (Nat.le_of_ble_eq_true rfl) dX3_comeIn_39) hP (fun H locs hP => ?_)
      refine c3_put C hP hu0 3 (by decide) k1_46 dX3_comeIn_42 (fun H locs hP => ?_)
      refine sv_i hf (fun S9 e9 hf => ?_)
      rw [← e9] at hP
      exact r_vret (X := cE Γ) C hP hf dX3_comeIn_45
  · have hf := if_t hc2 hf
    exact r_vret (X := cE Γ) C hP hf dX3_comeIn_7
-- X3_closeUp
theorem qX3_closeUp : Cond.instanceMethod yX3_closeUp ∈ Ub ∧ Cond.selects RX3 yX3_closeUp yX3_closeUp ∈ Ub ∧ Cond.initialized RX3 ∈ Ub ∧ Cond.code yX3_closeUp cX3_closeUp 3 (none : Option Jvm.ClassFile.FieldType) ∈ Ub ∧ (yX3_closeUp.cls = RX3 ∧ yX3_closeUp.cls ≠ "java/lang/invoke/MethodHandle" ∧ yX3_closeUp.cls ≠ "java/lang/invoke/VarHandle" ∧ (parseMethodDescriptor yX3_closeUp.desc).map (fun d => d.parameters.length) = some 1) := ⟨k2_23, ks_3, k1_3, k2_24, by decide +kernel⟩
def fX3_closeUp_4 (u0 : Nat)  : Nat → cM → Int32 → Option cM
  | 0, _, _ => none
  | n + 1, S, x2 =>
    if (S.1 u0 2) ≤ x2 then sv (cS S u0 2 ((S.1 u0 2) - (nI 1))) fun S2 => ( some S2) else gi x2 8 (gi (x2 - (nI 1)) 8 (sv (cS S (u0 + 15) ((x2 - (nI 1)).toNatClampNeg) (S.1 (u0 + 15) (x2).toNatClampNeg)) fun S7 => ( (fX3_closeUp_4 u0  n) S7 (x2 + (nI 1)))))
set_option maxHeartbeats 4000000 in
set_option maxRecDepth 100000 in
theorem wX3_closeUp_4 {p : Program} {l : Launch} {e : Env} {s : State} {m : MethodId} {args : Array Value} {below : List Frame} {meth : Method} {c : Code} {Γ : gG} {Sz : cM} (C : Cx Γ 74 p s m args meth c RX3 cX3_closeUp 3 none) {u0 : Nat} (hu0 : 7 ≤ u0 ∧ u0 ≤ 21)  : ∀ n : Nat, ∀ (S : cM) (x2 : Int32) , fX3_closeUp_4 u0  n S x2 = some Sz → ∀ (H : Heap) (locs : List Loc) (ls : Array Slot), St Γ 74 (cE Γ S) s.heap H locs → lv_has ls 3 [(0, .ref (Γ.2.2 (u0))), (2, .int x2)] → W p l e { frames := 0, cells := 0, slots := 0, locals := 0 } s m args below meth c H locs 0 0 (MQ below (gQv Γ 74 (cE Γ Sz)) args s 0 0 (wA Γ 74)) (F0 m 4 ls []) := by
  obtain ⟨hx, hb, -, -, hown, hts, -, hwx, -⟩ := id C
  intro n
  induction n with
  | zero =>
    intro S x2 hf
    unfold fX3_closeUp_4 at hf
    cases hf
  | succ n ih =>
    intro S x2 hf H locs ls hP hl
    unfold fX3_closeUp_4 at hf
    refine lv_iload_n hx hb dX3_closeUp_4 rfl (lv_at hl 1 rfl) ?_
    refine lv_aload_n hx hb dX3_closeUp_5 rfl (lv_at hl 0 rfl) ?_
    refine c3_get C hP hu0 2 (by decide) k1_43 rfl (v := .int (S.1 u0 2)) rfl dX3_closeUp_6 ?_
    refine lv_icmp_ge (tgt := 32) hx hb dX3_closeUp_9 (by decide) (fun hc1 => ?_) (fun hc1 => ?_)
    · have hf := if_t hc1 hf
      refine lv_aload_n hx hb dX3_closeUp_32 rfl (lv_at hl 0 rfl) ?_
      refine lv_dup hx hb dX3_closeUp_33 rfl ?_
      refine c3_get C hP hu0 2 (by decide) k1_43 rfl (v := .int (S.1 u0 2)) rfl dX3_closeUp_34 ?_
      refine lv_iconst (v := nI 1) hx hb dX3_closeUp_37 rfl ?_
      refine lv_isub hx hb dX3_closeUp_38 ?_
      refine c3_put C hP hu0 2 (by decide) k1_43 dX3_closeUp_39 (fun H locs hP => ?_)
      refine sv_i hf (fun S2 e2 hf => ?_)
      rw [← e2] at hP
      exact r_vret (X := cE Γ) C hP hf dX3_closeUp_42
    · have hf := if_f hc1 hf
      refine lv_aload_n hx hb dX3_closeUp_12 rfl (lv_at hl 0 rfl) ?_
      refine c3_get C hP hu0 5 (by decide) k1_50 rfl (v := .ref (Γ.2.2 (u0 + 15))) rfl dX3_closeUp_13 ?_
      refine lv_iload_n hx hb dX3_closeUp_16 rfl (lv_at hl 1 rfl) ?_
      refine lv_iconst (v := nI 1) hx hb dX3_closeUp_17 rfl ?_
      refine lv_isub hx hb dX3_closeUp_18 ?_
      refine lv_aload_n hx hb dX3_closeUp_19 rfl (lv_at hl 0 rfl) ?_
      refine c3_get C hP hu0 5 (by decide) k1_50 rfl (v := .ref (Γ.2.2 (u0 + 15))) rfl dX3_closeUp_20 ?_
      refine lv_iload_n hx hb dX3_closeUp_23 rfl (lv_at hl 1 rfl) ?_
      refine gi_i hf (fun hi3 hj4 hf => ?_)
      refine c_ild C hP (cA_so hu0) hi3 dX3_closeUp_24 ?_
      refine gi_i hf (fun hi5 hj6 hf => ?_)
      refine c_ist C hP (cA_so hu0) hi5 dX3_closeUp_25 (fun H locs hP => ?_)
      refine sv_i hf (fun S7 e7 hf => ?_)
      rw [← e7] at hP
      refine lv_iinc (v := x2 + (nI 1)) (lv' := [(2, .int (x2 + (nI 1))), (0, .ref (Γ.2.2 (u0)))]) hx hb dX3_closeUp_26 hl (k := 1) rfl rfl (by decide) rfl (fun ls hl => ?_)
      refine lv_goto (tgt := 4) hx hb dX3_closeUp_29 (by decide) ?_
      exact ih S7 (x2 + (nI 1))  hf _ _ _ hP (lv_sub hl [1, 0] rfl)
def fX3_closeUp (u0 : Nat) (S : cM) (x1 : Int32) : Option cM :=
  fX3_closeUp_4 u0  lF S (x1 + (nI 1))
set_option maxHeartbeats 4000000 in
set_option maxRecDepth 100000 in
theorem mX3_closeUp (l : Launch) (Γ : gG) {u0 : Nat} (hu0 : 7 ≤ u0 ∧ u0 ≤ 21) {S : cM} {x1 : Int32} {Sz : cM} (hf : fX3_closeUp u0 S x1 = some Sz) : CtV l Γ 74 yX3_closeUp cX3_closeUp 3 0 0 [.ref (Γ.2.2 (u0)), .int x1] (cE Γ S) (cE Γ Sz) := by
  refine met_body (Γ := Γ) (lv := [(0, .ref (Γ.2.2 (u0))), (1, .int x1)]) RX3 (by decide) rfl rfl rfl ?_
  intro p e s m below meth c H locs ls C hP hl
  obtain ⟨hx, hb, -, -, hown, hts, -, hwx, -⟩ := id C
  unfold fX3_closeUp at hf
  refine lv_iload_n hx hb dX3_closeUp_0 rfl (lv_at hl 1 rfl) ?_
  refine lv_iconst (v := nI 1) hx hb dX3_closeUp_1 rfl ?_
  refine lv_iadd hx hb dX3_closeUp_2 ?_
  refine lv_istore_n (lv' := [(2, .int (x1 + (nI 1))), (0, .ref (Γ.2.2 (u0))), (1, .int x1)]) hx hb dX3_closeUp_3 rfl hl (by decide) rfl (fun ls hl => ?_)
  exact wX3_closeUp_4 C hu0  lF S (x1 + (nI 1))  hf _ _ _ hP (lv_sub hl [1, 0] rfl)
-- X3_goOut
theorem qX3_goOut : Cond.instanceMethod yX3_goOut ∈ Ub ∧ Cond.selects RX3 yX3_goOut yX3_goOut ∈ Ub ∧ Cond.initialized RX3 ∈ Ub ∧ Cond.code yX3_goOut cX3_goOut 3 (some FieldType.int) ∈ Ub ∧ (yX3_goOut.cls = RX3 ∧ yX3_goOut.cls ≠ "java/lang/invoke/MethodHandle" ∧ yX3_goOut.cls ≠ "java/lang/invoke/VarHandle" ∧ (parseMethodDescriptor yX3_goOut.desc).map (fun d => d.parameters.length) = some 1) := ⟨k2_176, k2_177, k1_3, k2_178, by decide +kernel⟩
def fX3_goOut (u0 : Nat) (S : cM) (x1 : Int32) : Option (Int32 × cM) :=
  gi x1 8 (bv (fX3_closeUp u0 S x1) fun S3 => ( some (S.1 (u0 + 15) (x1).toNatClampNeg, S3)))
set_option maxHeartbeats 4000000 in
set_option maxRecDepth 100000 in
theorem mX3_goOut (l : Launch) (Γ : gG) {u0 : Nat} (hu0 : 7 ≤ u0 ∧ u0 ≤ 21) {S : cM} {x1 : Int32} {rz : Int32} {Sz : cM} (hf : fX3_goOut u0 S x1 = some (rz, Sz)) : CtI l Γ 74 yX3_goOut cX3_goOut 3 .int 1 22 [.ref (Γ.2.2 (u0)), .int x1] (cE Γ S) rz (cE Γ Sz) := by
  refine met_body (Γ := Γ) (lv := [(0, .ref (Γ.2.2 (u0))), (1, .int x1)]) RX3 (by decide) rfl rfl rfl ?_
  intro p e s m below meth c H locs ls C hP hl
  obtain ⟨hx, hb, -, -, hown, hts, -, hwx, -⟩ := id C
  unfold fX3_goOut at hf
  refine lv_aload_n hx hb dX3_goOut_0 rfl (lv_at hl 0 rfl) ?_
  refine c3_get C hP hu0 5 (by decide) k1_50 rfl (v := .ref (Γ.2.2 (u0 + 15))) rfl dX3_goOut_1 ?_
  refine lv_iload_n hx hb dX3_goOut_4 rfl (lv_at hl 1 rfl) ?_
  refine gi_i hf (fun hi1 hj2 hf => ?_)
  refine c_ild C hP (cA_so hu0) hi1 dX3_goOut_5 ?_
  refine lv_istore_n (lv' := [(2, .int (S.1 (u0 + 15) (x1).toNatClampNeg)), (0, .ref (Γ.2.2 (u0))), (1, .int x1)]) hx hb dX3_goOut_6 rfl hl (by decide) rfl (fun ls hl => ?_)
  refine lv_aload_n hx hb dX3_goOut_7 rfl (lv_at hl 1 rfl) ?_
  refine lv_iload_n hx hb dX3_goOut_8 rfl (lv_at hl 2 rfl) ?_
  refine bv_i hf (fun S3 hq3 hf => ?_)
  refine goV (runV (rest := []) (mX3_closeUp l Γ hu0 hq3) C hP hl.1 (by have := hu0; omega) (cE3 hu0) rfl k2_21 qX3_closeUp.1 qX3_closeUp.2.1 qX3_closeUp.2.2.1 qX3_closeUp.2.2.2.1 rfl qX3_closeUp.2.2.2.2 ⟨Nat.le_of_ble_eq_true rfl, Nat.le_of_ble_eq_true rfl⟩ ⟨Nat.le_refl 0, Nat.le_refl 0⟩ (Nat.le_of_ble_eq_true rfl) dX3_goOut_9) hP (fun H locs hP => ?_)
  refine lv_iload_n hx hb dX3_goOut_12 rfl (lv_at hl 0 rfl) ?_
  exact r_iret (X := cE Γ) C hP hf dX3_goOut_13
-- X3_minuteGoes
theorem qX3_minuteGoes : Cond.instanceMethod yX3_minuteGoes ∈ Ub ∧ Cond.selects RX3 yX3_minuteGoes yX3_minuteGoes ∈ Ub ∧ Cond.initialized RX3 ∈ Ub ∧ Cond.code yX3_minuteGoes cX3_minuteGoes 1 (some FieldType.boolean) ∈ Ub ∧ (yX3_minuteGoes.cls = RX3 ∧ yX3_minuteGoes.cls ≠ "java/lang/invoke/MethodHandle" ∧ yX3_minuteGoes.cls ≠ "java/lang/invoke/VarHandle" ∧ (parseMethodDescriptor yX3_minuteGoes.desc).map (fun d => d.parameters.length) = some 0) := ⟨k2_18, k2_19, k1_3, k2_20, by decide +kernel⟩
def fX3_minuteGoes_65 (u0 : Nat)  (S : cM) (y1 : Int32) : Option (Int32 × cM) :=
  sv (cS S u0 3 y1) fun S7 => ( some (nI 1, S7))
set_option maxHeartbeats 4000000 in
set_option maxRecDepth 100000 in
theorem wX3_minuteGoes_65 {p : Program} {l : Launch} {e : Env} {s : State} {m : MethodId} {args : Array Value} {below : List Frame} {meth : Method} {c : Code} {Γ : gG} {rz : Int32} {Sz : cM} (C : Cx Γ 74 p s m args meth c RX3 cX3_minuteGoes 1 (some .boolean)) {u0 : Nat} (hu0 : 7 ≤ u0 ∧ u0 ≤ 21)  : ∀ (S : cM) (y1 : Int32) , fX3_minuteGoes_65 u0  S y1 = some (rz, Sz) → ∀ (H : Heap) (locs : List Loc) (ls : Array Slot), St Γ 74 (cE Γ S) s.heap H locs → lv_has ls 1 [] → W p l e { frames := 1, cells := 0, slots := 0, locals := 22 } s m args below meth c H locs 0 0 (MQ below (gQi Γ 74 rz (cE Γ Sz)) args s 0 0 (wA Γ 74)) (F0 m 65 ls [.int y1, .ref (Γ.2.2 (u0))]) := by
  obtain ⟨hx, hb, -, -, hown, hts, -, hwx, -⟩ := id C
  intro S y1 hf H locs ls hP hl
  unfold fX3_minuteGoes_65 at hf
  refine c3_put C hP hu0 3 (by decide) k1_46 dX3_minuteGoes_65 (fun H locs hP => ?_)
  refine sv_i hf (fun S7 e7 hf => ?_)
  rw [← e7] at hP
  refine lv_iconst (v := nI 1) hx hb dX3_minuteGoes_68 rfl ?_
  exact r_zret (X := cE Γ) C hP (Or.inr rfl) hf dX3_minuteGoes_69
def fX3_minuteGoes (u0 : Nat) (S : cM)  : Option (Int32 × cM) :=
  if (S.1 u0 2) = 0 then some (nI 0, S) else sv (cS S u0 3 ((S.1 u0 3) - (nI 1))) fun S2 => ( if (S2.1 u0 3) ≤ 0 then bv (fX3_closeUp u0 S2 (nI 0)) fun S4 => ( sv (cS S4 u0 4 ((S4.1 u0 4) + (nI 1))) fun S5 => ( if (S5.1 u0 2) ≤ 0 then fX3_minuteGoes_65 u0   S5 (nI 0) else gi (nI 0) 8 (bd (fX3_needs u0 S5 (S5.1 (u0 + 15) (nI 0).toNatClampNeg)) fun v10 S10 => ( fX3_minuteGoes_65 u0   S10 v10)))) else some (nI 0, S2))
set_option maxHeartbeats 4000000 in
set_option maxRecDepth 100000 in
theorem mX3_minuteGoes (l : Launch) (Γ : gG) {u0 : Nat} (hu0 : 7 ≤ u0 ∧ u0 ≤ 21) {S : cM}  {rz : Int32} {Sz : cM} (hf : fX3_minuteGoes u0 S = some (rz, Sz)) : CtI l Γ 74 yX3_minuteGoes cX3_minuteGoes 1 .boolean 1 22 [.ref (Γ.2.2 (u0))] (cE Γ S) rz (cE Γ Sz) := by
  refine met_body (Γ := Γ) (lv := [(0, .ref (Γ.2.2 (u0)))]) RX3 (by decide) rfl rfl rfl ?_
  intro p e s m below meth c H locs ls C hP hl
  obtain ⟨hx, hb, -, -, hown, hts, -, hwx, -⟩ := id C
  unfold fX3_minuteGoes at hf
  refine lv_aload_n hx hb dX3_minuteGoes_0 rfl (lv_at hl 0 rfl) ?_
  refine c3_get C hP hu0 2 (by decide) k1_43 rfl (v := .int (S.1 u0 2)) rfl dX3_minuteGoes_1 ?_
  refine lv_if_ne (tgt := 9) hx hb dX3_minuteGoes_4 (by decide) (fun hc1 => ?_) (fun hc1 => ?_)
  · have hf := if_f hc1 hf
    refine lv_aload_n hx hb dX3_minuteGoes_9 rfl (lv_at hl 0 rfl) ?_
    refine lv_dup hx hb dX3_minuteGoes_10 rfl ?_
    refine c3_get C hP hu0 3 (by decide) k1_46 rfl (v := .int (S.1 u0 3)) rfl dX3_minuteGoes_11 ?_
    refine lv_iconst (v := nI 1) hx hb dX3_minuteGoes_14 rfl ?_
    refine lv_isub hx hb dX3_minuteGoes_15 ?_
    refine c3_put C hP hu0 3 (by decide) k1_46 dX3_minuteGoes_16 (fun H locs hP => ?_)
    refine sv_i hf (fun S2 e2 hf => ?_)
    rw [← e2] at hP
    refine lv_aload_n hx hb dX3_minuteGoes_19 rfl (lv_at hl 0 rfl) ?_
    refine c3_get C hP hu0 3 (by decide) k1_46 rfl (v := .int (S2.1 u0 3)) rfl dX3_minuteGoes_20 ?_
    refine lv_if_le (tgt := 28) hx hb dX3_minuteGoes_23 (by decide) (fun hc3 => ?_) (fun hc3 => ?_)
    · have hf := if_t hc3 hf
      refine lv_aload_n hx hb dX3_minuteGoes_28 rfl (lv_at hl 0 rfl) ?_
      refine lv_iconst (v := nI 0) hx hb dX3_minuteGoes_29 rfl ?_
      refine bv_i hf (fun S4 hq4 hf => ?_)
      refine goV (runV (rest := []) (mX3_closeUp l Γ hu0 hq4) C hP hl.1 (by have := hu0; omega) (cE3 hu0) rfl k2_21 qX3_closeUp.1 qX3_closeUp.2.1 qX3_closeUp.2.2.1 qX3_closeUp.2.2.2.1 rfl qX3_closeUp.2.2.2.2 ⟨Nat.le_of_ble_eq_true rfl, Nat.le_of_ble_eq_true rfl⟩ ⟨Nat.le_refl 0, Nat.le_refl 0⟩ (Nat.le_of_ble_eq_true rfl) dX3_minuteGoes_30) hP (fun H locs hP => ?_)
      refine lv_aload_n hx hb dX3_minuteGoes_33 rfl (lv_at hl 0 rfl) ?_
      refine lv_dup hx hb dX3_minuteGoes_34 rfl ?_
      refine c3_get C hP hu0 4 (by decide) k1_48 rfl (v := .int (S4.1 u0 4)) rfl dX3_minuteGoes_35 ?_
      refine lv_iconst (v := nI 1) hx hb dX3_minuteGoes_38 rfl ?_
      refine lv_iadd hx hb dX3_minuteGoes_39 ?_
      refine c3_put C hP hu0 4 (by decide) k1_48 dX3_minuteGoes_40 (fun H locs hP => ?_)
      refine sv_i hf (fun S5 e5 hf => ?_)
      rw [← e5] at hP
      refine lv_aload_n hx hb dX3_minuteGoes_43 rfl (lv_at hl 0 rfl) ?_
      refine lv_aload_n hx hb dX3_minuteGoes_44 rfl (lv_at hl 0 rfl) ?_
      refine c3_get C hP hu0 2 (by decide) k1_43 rfl (v := .int (S5.1 u0 2)) rfl dX3_minuteGoes_45 ?_
      refine lv_if_le (tgt := 64) hx hb dX3_minuteGoes_48 (by decide) (fun hc6 => ?_) (fun hc6 => ?_)
      · have hf := if_t hc6 hf
        refine lv_iconst (v := nI 0) hx hb dX3_minuteGoes_64 rfl ?_
        exact wX3_minuteGoes_65 C hu0   S5 (nI 0)  hf _ _ _ hP (lv_sub hl [] rfl)
      · have hf := if_f hc6 hf
        refine lv_aload_n hx hb dX3_minuteGoes_51 rfl (lv_at hl 0 rfl) ?_
        refine lv_aload_n hx hb dX3_minuteGoes_52 rfl (lv_at hl 0 rfl) ?_
        refine c3_get C hP hu0 5 (by decide) k1_50 rfl (v := .ref (Γ.2.2 (u0 + 15))) rfl dX3_minuteGoes_53 ?_
        refine lv_iconst (v := nI 0) hx hb dX3_minuteGoes_56 rfl ?_
        refine gi_i hf (fun hi8 hj9 hf => ?_)
        refine c_ild C hP (cA_so hu0) hi8 dX3_minuteGoes_57 ?_
        refine bd_i hf (fun v10 S10 hq10 hf => ?_)
        refine goI (runV (rest := [.ref (Γ.2.2 (u0))]) (mX3_needs l Γ hu0 hq10) C hP hl.1 (by have := hu0; omega) (cE3 hu0) rfl k2_6 qX3_needs.1 qX3_needs.2.1 qX3_needs.2.2.1 qX3_needs.2.2.2.1 rfl qX3_needs.2.2.2.2 ⟨Nat.le_of_ble_eq_true rfl, Nat.le_of_ble_eq_true rfl⟩ ⟨Nat.le_refl 0, Nat.le_refl 0⟩ (Nat.le_of_ble_eq_true rfl) dX3_minuteGoes_58) hP (fun H locs hP => ?_)
        refine lv_goto (tgt := 65) hx hb dX3_minuteGoes_61 (by decide) ?_
        exact wX3_minuteGoes_65 C hu0   S10 v10  hf _ _ _ hP (lv_sub hl [] rfl)
    · have hf := if_f hc3 hf
      refine lv_iconst (v := nI 0) hx hb dX3_minuteGoes_26 rfl ?_
      exact r_zret (X := cE Γ) C hP (Or.inl rfl) hf dX3_minuteGoes_27
  · have hf := if_t hc1 hf
    refine lv_iconst (v := nI 0) hx hb dX3_minuteGoes_7 rfl ?_
    exact r_zret (X := cE Γ) C hP (Or.inl rfl) hf dX3_minuteGoes_8
-- X4_holdNothing
theorem qX4_holdNothing : Cond.instanceMethod yX4_holdNothing ∈ Ub ∧ Cond.selects RX4 yX4_holdNothing yX4_holdNothing ∈ Ub ∧ Cond.initialized RX4 ∈ Ub ∧ Cond.code yX4_holdNothing cX4_holdNothing 1 (none : Option Jvm.ClassFile.FieldType) ∈ Ub ∧ (yX4_holdNothing.cls = RX4 ∧ yX4_holdNothing.cls ≠ "java/lang/invoke/MethodHandle" ∧ yX4_holdNothing.cls ≠ "java/lang/invoke/VarHandle" ∧ (parseMethodDescriptor yX4_holdNothing.desc).map (fun d => d.parameters.length) = some 0) := ⟨k3_120, k3_121, k1_4, k3_122, by decide +kernel⟩
def fX4_holdNothing (u0 : Nat) (S : cM)  : Option cM :=
  sv (cS S u0 0 (nI 0)) fun S1 => ( some S1)
set_option maxHeartbeats 4000000 in
set_option maxRecDepth 100000 in
theorem mX4_holdNothing (l : Launch) (Γ : gG) {u0 : Nat} (hu0 : 53 ≤ u0 ∧ u0 ≤ 60) {S : cM}  {Sz : cM} (hf : fX4_holdNothing u0 S = some Sz) : CtV l Γ 74 yX4_holdNothing cX4_holdNothing 1 0 0 [.ref (Γ.2.2 (u0))] (cE Γ S) (cE Γ Sz) := by
  refine met_body (Γ := Γ) (lv := [(0, .ref (Γ.2.2 (u0)))]) RX4 (by decide) rfl rfl rfl ?_
  intro p e s m below meth c H locs ls C hP hl
  obtain ⟨hx, hb, -, -, hown, hts, -, hwx, -⟩ := id C
  unfold fX4_holdNothing at hf
  refine lv_aload_n hx hb dX4_holdNothing_0 rfl (lv_at hl 0 rfl) ?_
  refine lv_iconst (v := nI 0) hx hb dX4_holdNothing_1 rfl ?_
  refine c4_put C hP hu0 0 (by decide) k1_96 dX4_holdNothing_2 (fun H locs hP => ?_)
  refine sv_i hf (fun S1 e1 hf => ?_)
  rw [← e1] at hP
  exact r_vret (X := cE Γ) C hP hf dX4_holdNothing_5
-- X4_holdLane
theorem qX4_holdLane : Cond.instanceMethod yX4_holdLane ∈ Ub ∧ Cond.selects RX4 yX4_holdLane yX4_holdLane ∈ Ub ∧ Cond.initialized RX4 ∈ Ub ∧ Cond.code yX4_holdLane cX4_holdLane 3 (none : Option Jvm.ClassFile.FieldType) ∈ Ub ∧ (yX4_holdLane.cls = RX4 ∧ yX4_holdLane.cls ≠ "java/lang/invoke/MethodHandle" ∧ yX4_holdLane.cls ≠ "java/lang/invoke/VarHandle" ∧ (parseMethodDescriptor yX4_holdLane.desc).map (fun d => d.parameters.length) = some 2) := ⟨k3_124, k3_125, k1_4, k3_126, by decide +kernel⟩
def fX4_holdLane (u0 : Nat) (u2 : Nat) (S : cM) (x1 : Int32) : Option cM :=
  sv (cS S u0 0 (nI 1)) fun S1 => ( sv (cS S1 u0 1 x1) fun S2 => ( sv (cS S2 u0 2 (S2.1 u2 0)) fun S3 => ( sv (cS S3 u0 3 (S3.1 u2 1)) fun S4 => ( some S4))))
set_option maxHeartbeats 4000000 in
set_option maxRecDepth 100000 in
theorem mX4_holdLane (l : Launch) (Γ : gG) {u0 : Nat} {u2 : Nat} (hu0 : 53 ≤ u0 ∧ u0 ≤ 60) (hu2 : 7 ≤ u2 ∧ u2 ≤ 21) {S : cM} {x1 : Int32} {Sz : cM} (hf : fX4_holdLane u0 u2 S x1 = some Sz) : CtV l Γ 74 yX4_holdLane cX4_holdLane 3 0 0 [.ref (Γ.2.2 (u0)), .int x1, .ref (Γ.2.2 (u2))] (cE Γ S) (cE Γ Sz) := by
  refine met_body (Γ := Γ) (lv := [(0, .ref (Γ.2.2 (u0))), (1, .int x1), (2, .ref (Γ.2.2 (u2)))]) RX4 (by decide) rfl rfl rfl ?_
  intro p e s m below meth c H locs ls C hP hl
  obtain ⟨hx, hb, -, -, hown, hts, -, hwx, -⟩ := id C
  unfold fX4_holdLane at hf
  refine lv_aload_n hx hb dX4_holdLane_0 rfl (lv_at hl 0 rfl) ?_
  refine lv_iconst (v := nI 1) hx hb dX4_holdLane_1 rfl ?_
  refine c4_put C hP hu0 0 (by decide) k1_96 dX4_holdLane_2 (fun H locs hP => ?_)
  refine sv_i hf (fun S1 e1 hf => ?_)
  rw [← e1] at hP
  refine lv_aload_n hx hb dX4_holdLane_5 rfl (lv_at hl 0 rfl) ?_
  refine lv_iload_n hx hb dX4_holdLane_6 rfl (lv_at hl 1 rfl) ?_
  refine c4_put C hP hu0 1 (by decide) k1_98 dX4_holdLane_7 (fun H locs hP => ?_)
  refine sv_i hf (fun S2 e2 hf => ?_)
  rw [← e2] at hP
  refine lv_aload_n hx hb dX4_holdLane_10 rfl (lv_at hl 0 rfl) ?_
  refine lv_aload_n hx hb dX4_holdLane_11 rfl (lv_at hl 2 rfl) ?_
  refine c3_get C hP hu2 0 (by decide) k1_38 rfl (v := .int (S2.1 u2 0)) rfl dX4_holdLane_12 ?_
  refine c4_put C hP hu0 2 (by decide) k1_100 dX4_holdLane_15 (fun H locs hP => ?_)
  refine sv_i hf (fun S3 e3 hf => ?_)
  rw [← e3] at hP
  refine lv_aload_n hx hb dX4_holdLane_18 rfl (lv_at hl 0 rfl) ?_
  refine lv_aload_n hx hb dX4_holdLane_19 rfl (lv_at hl 2 rfl) ?_
  refine c3_get C hP hu2 1 (by decide) k1_41 rfl (v := .int (S3.1 u2 1)) rfl dX4_holdLane_20 ?_
  refine c4_put C hP hu0 3 (by decide) k1_102 dX4_holdLane_23 (fun H locs hP => ?_)
  refine sv_i hf (fun S4 e4 hf => ?_)
  rw [← e4] at hP
  exact r_vret (X := cE Γ) C hP hf dX4_holdLane_26
-- X4_holdRow
theorem qX4_holdRow : Cond.instanceMethod yX4_holdRow ∈ Ub ∧ Cond.selects RX4 yX4_holdRow yX4_holdRow ∈ Ub ∧ Cond.initialized RX4 ∈ Ub ∧ Cond.code yX4_holdRow cX4_holdRow 4 (none : Option Jvm.ClassFile.FieldType) ∈ Ub ∧ (yX4_holdRow.cls = RX4 ∧ yX4_holdRow.cls ≠ "java/lang/invoke/MethodHandle" ∧ yX4_holdRow.cls ≠ "java/lang/invoke/VarHandle" ∧ (parseMethodDescriptor yX4_holdRow.desc).map (fun d => d.parameters.length) = some 2) := ⟨k3_132, k3_133, k1_4, k3_134, by decide +kernel⟩
def fX4_holdRow_17 (u0 : Nat)  : Nat → cM → Int32 → Int32 → Option cM
  | 0, _, _, _ => none
  | n + 1, S, x2, x3 =>
    if x2 ≤ x3 then some S else gi x3 100 (sv (cS S (u0 + 8) ((x3).toNatClampNeg) (nI 0)) fun S7 => ( (fX4_holdRow_17 u0  n) S7 x2 (x3 + (nI 1))))
set_option maxHeartbeats 4000000 in
set_option maxRecDepth 100000 in
theorem wX4_holdRow_17 {p : Program} {l : Launch} {e : Env} {s : State} {m : MethodId} {args : Array Value} {below : List Frame} {meth : Method} {c : Code} {Γ : gG} {Sz : cM} (C : Cx Γ 74 p s m args meth c RX4 cX4_holdRow 4 none) {u0 : Nat} (hu0 : 53 ≤ u0 ∧ u0 ≤ 60)  : ∀ n : Nat, ∀ (S : cM) (x2 : Int32) (x3 : Int32) , fX4_holdRow_17 u0  n S x2 x3 = some Sz → ∀ (H : Heap) (locs : List Loc) (ls : Array Slot), St Γ 74 (cE Γ S) s.heap H locs → lv_has ls 4 [(0, .ref (Γ.2.2 (u0))), (2, .int x2), (3, .int x3)] → W p l e { frames := 0, cells := 0, slots := 0, locals := 0 } s m args below meth c H locs 0 0 (MQ below (gQv Γ 74 (cE Γ Sz)) args s 0 0 (wA Γ 74)) (F0 m 17 ls []) := by
  obtain ⟨hx, hb, -, -, hown, hts, -, hwx, -⟩ := id C
  intro n
  induction n with
  | zero =>
    intro S x2 x3 hf
    unfold fX4_holdRow_17 at hf
    cases hf
  | succ n ih =>
    intro S x2 x3 hf H locs ls hP hl
    unfold fX4_holdRow_17 at hf
    refine lv_iload_n hx hb dX4_holdRow_17 rfl (lv_at hl 2 rfl) ?_
    refine lv_iload_n hx hb dX4_holdRow_18 rfl (lv_at hl 1 rfl) ?_
    refine lv_icmp_ge (tgt := 35) hx hb dX4_holdRow_19 (by decide) (fun hc4 => ?_) (fun hc4 => ?_)
    · have hf := if_t hc4 hf
      exact r_vret (X := cE Γ) C hP hf dX4_holdRow_35
    · have hf := if_f hc4 hf
      refine lv_aload_n hx hb dX4_holdRow_22 rfl (lv_at hl 0 rfl) ?_
      refine c4_get C hP hu0 6 (by decide) k1_109 rfl (v := .ref (Γ.2.2 (u0 + 8))) rfl dX4_holdRow_23 ?_
      refine lv_iload_n hx hb dX4_holdRow_26 rfl (lv_at hl 2 rfl) ?_
      refine lv_iconst (v := nI 0) hx hb dX4_holdRow_27 rfl ?_
      refine gi_i hf (fun hi5 hj6 hf => ?_)
      refine c_ist C hP (cA_va hu0) hi5 dX4_holdRow_28 (fun H locs hP => ?_)
      refine sv_i hf (fun S7 e7 hf => ?_)
      rw [← e7] at hP
      refine lv_iinc (v := x3 + (nI 1)) (lv' := [(3, .int (x3 + (nI 1))), (0, .ref (Γ.2.2 (u0))), (2, .int x2)]) hx hb dX4_holdRow_29 hl (k := 2) rfl rfl (by decide) rfl (fun ls hl => ?_)
      refine lv_goto (tgt := 17) hx hb dX4_holdRow_32 (by decide) ?_
      exact ih S7 x2 (x3 + (nI 1))  hf _ _ _ hP (lv_sub hl [1, 2, 0] rfl)
def fX4_holdRow (u0 : Nat) (S : cM) (x1 : Int32) (x2 : Int32) : Option cM :=
  sv (cS S u0 0 (nI 2)) fun S1 => ( sv (cS S1 u0 4 x1) fun S2 => ( sv (cS S2 u0 5 x2) fun S3 => ( fX4_holdRow_17 u0  lF S3 x2 (nI 0))))
set_option maxHeartbeats 4000000 in
set_option maxRecDepth 100000 in
theorem mX4_holdRow (l : Launch) (Γ : gG) {u0 : Nat} (hu0 : 53 ≤ u0 ∧ u0 ≤ 60) {S : cM} {x1 : Int32} {x2 : Int32} {Sz : cM} (hf : fX4_holdRow u0 S x1 x2 = some Sz) : CtV l Γ 74 yX4_holdRow cX4_holdRow 4 0 0 [.ref (Γ.2.2 (u0)), .int x1, .int x2] (cE Γ S) (cE Γ Sz) := by
  refine met_body (Γ := Γ) (lv := [(0, .ref (Γ.2.2 (u0))), (1, .int x1), (2, .int x2)]) RX4 (by decide) rfl rfl rfl ?_
  intro p e s m below meth c H locs ls C hP hl
  obtain ⟨hx, hb, -, -, hown, hts, -, hwx, -⟩ := id C
  unfold fX4_holdRow at hf
  refine lv_aload_n hx hb dX4_holdRow_0 rfl (lv_at hl 0 rfl) ?_
  refine lv_iconst (v := nI 2) hx hb dX4_holdRow_1 rfl ?_
  refine c4_put C hP hu0 0 (by decide) k1_96 dX4_holdRow_2 (fun H locs hP => ?_)
  refine sv_i hf (fun S1 e1 hf => ?_)
  rw [← e1] at hP
  refine lv_aload_n hx hb dX4_holdRow_5 rfl (lv_at hl 0 rfl) ?_
  refine lv_iload_n hx hb dX4_holdRow_6 rfl (lv_at hl 1 rfl) ?_
  refine c4_put C hP hu0 4 (by decide) k1_104 dX4_holdRow_7 (fun H locs hP => ?_)
  refine sv_i hf (fun S2 e2 hf => ?_)
  rw [← e2] at hP
  refine lv_aload_n hx hb dX4_holdRow_10 rfl (lv_at hl 0 rfl) ?_
  refine lv_iload_n hx hb dX4_holdRow_11 rfl (lv_at hl 2 rfl) ?_
  refine c4_put C hP hu0 5 (by decide) k1_106 dX4_holdRow_12 (fun H locs hP => ?_)
  refine sv_i hf (fun S3 e3 hf => ?_)
  rw [← e3] at hP
  refine lv_iconst (v := nI 0) hx hb dX4_holdRow_15 rfl ?_
  refine lv_istore_n (lv' := [(3, .int (nI 0)), (0, .ref (Γ.2.2 (u0))), (1, .int x1), (2, .int x2)]) hx hb dX4_holdRow_16 rfl hl (by decide) rfl (fun ls hl => ?_)
  exact wX4_holdRow_17 C hu0  lF S3 x2 (nI 0)  hf _ _ _ hP (lv_sub hl [1, 3, 0] rfl)
-- X4_hasElement
theorem qX4_hasElement : Cond.instanceMethod yX4_hasElement ∈ Ub ∧ Cond.selects RX4 yX4_hasElement yX4_hasElement ∈ Ub ∧ Cond.initialized RX4 ∈ Ub ∧ Cond.code yX4_hasElement cX4_hasElement 2 (some FieldType.boolean) ∈ Ub ∧ (yX4_hasElement.cls = RX4 ∧ yX4_hasElement.cls ≠ "java/lang/invoke/MethodHandle" ∧ yX4_hasElement.cls ≠ "java/lang/invoke/VarHandle" ∧ (parseMethodDescriptor yX4_hasElement.desc).map (fun d => d.parameters.length) = some 1) := ⟨k1_204, k1_205, k1_4, k1_206, by decide +kernel⟩
def fX4_hasElement (u0 : Nat) (S : cM) (x1 : Int32) : Option (Int32 × cM) :=
  if (S.1 u0 0) = (nI 2) then if x1 < 0 then some (nI 0, S) else if (S.1 u0 5) ≤ x1 then some (nI 0, S) else some (nI 1, S) else some (nI 0, S)
set_option maxHeartbeats 4000000 in
set_option maxRecDepth 100000 in
theorem mX4_hasElement (l : Launch) (Γ : gG) {u0 : Nat} (hu0 : 53 ≤ u0 ∧ u0 ≤ 60) {S : cM} {x1 : Int32} {rz : Int32} {Sz : cM} (hf : fX4_hasElement u0 S x1 = some (rz, Sz)) : CtI l Γ 74 yX4_hasElement cX4_hasElement 2 .boolean 0 0 [.ref (Γ.2.2 (u0)), .int x1] (cE Γ S) rz (cE Γ Sz) := by
  refine met_body (Γ := Γ) (lv := [(0, .ref (Γ.2.2 (u0))), (1, .int x1)]) RX4 (by decide) rfl rfl rfl ?_
  intro p e s m below meth c H locs ls C hP hl
  obtain ⟨hx, hb, -, -, hown, hts, -, hwx, -⟩ := id C
  unfold fX4_hasElement at hf
  refine lv_aload_n hx hb dX4_hasElement_0 rfl (lv_at hl 0 rfl) ?_
  refine c4_get C hP hu0 0 (by decide) k1_96 rfl (v := .int (S.1 u0 0)) rfl dX4_hasElement_1 ?_
  refine lv_iconst (v := nI 2) hx hb dX4_hasElement_4 rfl ?_
  refine lv_icmp_ne (tgt := 24) hx hb dX4_hasElement_5 (by decide) (fun hc1 => ?_) (fun hc1 => ?_)
  · have hf := if_f hc1 hf
    refine lv_iconst (v := nI 0) hx hb dX4_hasElement_24 rfl ?_
    exact r_zret (X := cE Γ) C hP (Or.inl rfl) hf dX4_hasElement_25
  · have hf := if_t hc1 hf
    refine lv_iload_n hx hb dX4_hasElement_8 rfl (lv_at hl 1 rfl) ?_
    refine lv_if_lt (tgt := 24) hx hb dX4_hasElement_9 (by decide) (fun hc2 => ?_) (fun hc2 => ?_)
    · have hf := if_t hc2 hf
      refine lv_iconst (v := nI 0) hx hb dX4_hasElement_24 rfl ?_
      exact r_zret (X := cE Γ) C hP (Or.inl rfl) hf dX4_hasElement_25
    · have hf := if_f hc2 hf
      refine lv_iload_n hx hb dX4_hasElement_12 rfl (lv_at hl 1 rfl) ?_
      refine lv_aload_n hx hb dX4_hasElement_13 rfl (lv_at hl 0 rfl) ?_
      refine c4_get C hP hu0 5 (by decide) k1_106 rfl (v := .int (S.1 u0 5)) rfl dX4_hasElement_14 ?_
      refine lv_icmp_ge (tgt := 24) hx hb dX4_hasElement_17 (by decide) (fun hc3 => ?_) (fun hc3 => ?_)
      · have hf := if_t hc3 hf
        refine lv_iconst (v := nI 0) hx hb dX4_hasElement_24 rfl ?_
        exact r_zret (X := cE Γ) C hP (Or.inl rfl) hf dX4_hasElement_25
      · have hf := if_f hc3 hf
        refine lv_iconst (v := nI 1) hx hb dX4_hasElement_20 rfl ?_
        refine lv_goto (tgt := 25) hx hb dX4_hasElement_21 (by decide) ?_
        exact r_zret (X := cE Γ) C hP (Or.inr rfl) hf dX4_hasElement_25
-- X4_hasElements
theorem qX4_hasElements : Cond.instanceMethod yX4_hasElements ∈ Ub ∧ Cond.selects RX4 yX4_hasElements yX4_hasElements ∈ Ub ∧ Cond.initialized RX4 ∈ Ub ∧ Cond.code yX4_hasElements cX4_hasElements 3 (some FieldType.boolean) ∈ Ub ∧ (yX4_hasElements.cls = RX4 ∧ yX4_hasElements.cls ≠ "java/lang/invoke/MethodHandle" ∧ yX4_hasElements.cls ≠ "java/lang/invoke/VarHandle" ∧ (parseMethodDescriptor yX4_hasElements.desc).map (fun d => d.parameters.length) = some 2) := ⟨k3_149, k3_150, k1_4, k3_151, by decide +kernel⟩
def fX4_hasElements (u0 : Nat) (S : cM) (x1 : Int32) (x2 : Int32) : Option (Int32 × cM) :=
  if x1 < 0 then some (nI 0, S) else if x2 < 0 then some (nI 0, S) else if (S.1 u0 5) < x2 then some (nI 0, S) else if ((S.1 u0 5) - x2) < x1 then some (nI 0, S) else some (nI 1, S)
set_option maxHeartbeats 4000000 in
set_option maxRecDepth 100000 in
theorem mX4_hasElements (l : Launch) (Γ : gG) {u0 : Nat} (hu0 : 53 ≤ u0 ∧ u0 ≤ 60) {S : cM} {x1 : Int32} {x2 : Int32} {rz : Int32} {Sz : cM} (hf : fX4_hasElements u0 S x1 x2 = some (rz, Sz)) : CtI l Γ 74 yX4_hasElements cX4_hasElements 3 .boolean 0 0 [.ref (Γ.2.2 (u0)), .int x1, .int x2] (cE Γ S) rz (cE Γ Sz) := by
  refine met_body (Γ := Γ) (lv := [(0, .ref (Γ.2.2 (u0))), (1, .int x1), (2, .int x2)]) RX4 (by decide) rfl rfl rfl ?_
  intro p e s m below meth c H locs ls C hP hl
  obtain ⟨hx, hb, -, -, hown, hts, -, hwx, -⟩ := id C
  unfold fX4_hasElements at hf
  refine lv_iload_n hx hb dX4_hasElements_0 rfl (lv_at hl 1 rfl) ?_
  refine lv_if_lt (tgt := 30) hx hb dX4_hasElements_1 (by decide) (fun hc1 => ?_) (fun hc1 => ?_)
  · have hf := if_t hc1 hf
    refine lv_iconst (v := nI 0) hx hb dX4_hasElements_30 rfl ?_
    exact r_zret (X := cE Γ) C hP (Or.inl rfl) hf dX4_hasElements_31
  · have hf := if_f hc1 hf
    refine lv_iload_n hx hb dX4_hasElements_4 rfl (lv_at hl 2 rfl) ?_
    refine lv_if_lt (tgt := 30) hx hb dX4_hasElements_5 (by decide) (fun hc2 => ?_) (fun hc2 => ?_)
    · have hf := if_t hc2 hf
      refine lv_iconst (v := nI 0) hx hb dX4_hasElements_30 rfl ?_
      exact r_zret (X := cE Γ) C hP (Or.inl rfl) hf dX4_hasElements_31
    · have hf := if_f hc2 hf
      refine lv_iload_n hx hb dX4_hasElements_8 rfl (lv_at hl 2 rfl) ?_
      refine lv_aload_n hx hb dX4_hasElements_9 rfl (lv_at hl 0 rfl) ?_
      refine c4_get C hP hu0 5 (by decide) k1_106 rfl (v := .int (S.1 u0 5)) rfl dX4_hasElements_10 ?_
      refine lv_icmp_gt (tgt := 30) hx hb dX4_hasElements_13 (by decide) (fun hc3 => ?_) (fun hc3 => ?_)
      · have hf := if_t hc3 hf
        refine lv_iconst (v := nI 0) hx hb dX4_hasElements_30 rfl ?_
        exact r_zret (X := cE Γ) C hP (Or.inl rfl) hf dX4_hasElements_31
      · have hf := if_f hc3 hf
        refine lv_iload_n hx hb dX4_hasElements_16 rfl (lv_at hl 1 rfl) ?_
        refine lv_aload_n hx hb dX4_hasElements_17 rfl (lv_at hl 0 rfl) ?_
        refine c4_get C hP hu0 5 (by decide) k1_106 rfl (v := .int (S.1 u0 5)) rfl dX4_hasElements_18 ?_
        refine lv_iload_n hx hb dX4_hasElements_21 rfl (lv_at hl 2 rfl) ?_
        refine lv_isub hx hb dX4_hasElements_22 ?_
        refine lv_icmp_gt (tgt := 30) hx hb dX4_hasElements_23 (by decide) (fun hc4 => ?_) (fun hc4 => ?_)
        · have hf := if_t hc4 hf
          refine lv_iconst (v := nI 0) hx hb dX4_hasElements_30 rfl ?_
          exact r_zret (X := cE Γ) C hP (Or.inl rfl) hf dX4_hasElements_31
        · have hf := if_f hc4 hf
          refine lv_iconst (v := nI 1) hx hb dX4_hasElements_26 rfl ?_
          refine lv_goto (tgt := 31) hx hb dX4_hasElements_27 (by decide) ?_
          exact r_zret (X := cE Γ) C hP (Or.inr rfl) hf dX4_hasElements_31
-- X4_lowestBits
theorem qX4_lowestBits : Cond.instanceMethod yX4_lowestBits ∈ Ub ∧ Cond.selects RX4 yX4_lowestBits yX4_lowestBits ∈ Ub ∧ Cond.initialized RX4 ∈ Ub ∧ Cond.code yX4_lowestBits cX4_lowestBits 2 (some FieldType.int) ∈ Ub ∧ (yX4_lowestBits.cls = RX4 ∧ yX4_lowestBits.cls ≠ "java/lang/invoke/MethodHandle" ∧ yX4_lowestBits.cls ≠ "java/lang/invoke/VarHandle" ∧ (parseMethodDescriptor yX4_lowestBits.desc).map (fun d => d.parameters.length) = some 1) := ⟨k3_141, k3_142, k1_4, k3_143, by decide +kernel⟩
def fX4_lowestBits (u0 : Nat) (S : cM) (x1 : Int32) : Option (Int32 × cM) :=
  (if (S.1 u0 4) = nI 0 then some (x1.toInt8.toInt32, S) else if (S.1 u0 4) = nI 1 then some (x1.toInt16.toInt32, S) else some (x1, S))
set_option maxHeartbeats 4000000 in
set_option maxRecDepth 100000 in
theorem mX4_lowestBits (l : Launch) (Γ : gG) {u0 : Nat} (hu0 : 53 ≤ u0 ∧ u0 ≤ 60) {S : cM} {x1 : Int32} {rz : Int32} {Sz : cM} (hf : fX4_lowestBits u0 S x1 = some (rz, Sz)) : CtI l Γ 74 yX4_lowestBits cX4_lowestBits 2 .int 0 0 [.ref (Γ.2.2 (u0)), .int x1] (cE Γ S) rz (cE Γ Sz) := by
  refine met_body (Γ := Γ) (lv := [(0, .ref (Γ.2.2 (u0))), (1, .int x1)]) RX4 (by decide) rfl rfl rfl ?_
  intro p e s m below meth c H locs ls C hP hl
  obtain ⟨hx, hb, -, -, hown, hts, -, hwx, -⟩ := id C
  unfold fX4_lowestBits at hf
  refine lv_aload_n hx hb dX4_lowestBits_0 rfl (lv_at hl 0 rfl) ?_
  refine c4_get C hP hu0 4 (by decide) k1_104 rfl (v := .int (S.1 u0 4)) rfl dX4_lowestBits_1 ?_
  by_cases hs1 : (S.1 u0 4) = nI 0
  · have hf := if_t hs1 hf
    refine lv_lookup (tgt := 32) (off := 28) hx hb dX4_lowestBits_4 (by decide) (by rw [hs1]; decide) (by decide) ?_
    refine lv_iload_n hx hb dX4_lowestBits_32 rfl (lv_at hl 1 rfl) ?_
    refine lv_i2b (v := x1.toInt8.toInt32) hx hb dX4_lowestBits_33 rfl ?_
    exact r_iret (X := cE Γ) C hP hf dX4_lowestBits_34
  · have hf := if_f hs1 hf
    by_cases hs2 : (S.1 u0 4) = nI 1
    · have hf := if_t hs2 hf
      refine lv_lookup (tgt := 35) (off := 31) hx hb dX4_lowestBits_4 (by decide) (by rw [hs2]; decide) (by decide) ?_
      refine lv_iload_n hx hb dX4_lowestBits_35 rfl (lv_at hl 1 rfl) ?_
      refine lv_i2s (v := x1.toInt16.toInt32) hx hb dX4_lowestBits_36 rfl ?_
      exact r_iret (X := cE Γ) C hP hf dX4_lowestBits_37
    · have hf := if_f hs2 hf
      refine lv_lookup (tgt := 38) (off := 34) hx hb dX4_lowestBits_4 (by decide) ((lv_osw hs1 (by decide)).trans ((lv_osw hs2 (by decide)).trans (rfl))) (by decide) ?_
      refine lv_iload_n hx hb dX4_lowestBits_38 rfl (lv_at hl 1 rfl) ?_
      exact r_iret (X := cE Γ) C hP hf dX4_lowestBits_39
-- X4_leastNumber
theorem qX4_leastNumber : Cond.instanceMethod yX4_leastNumber ∈ Ub ∧ Cond.selects RX4 yX4_leastNumber yX4_leastNumber ∈ Ub ∧ Cond.initialized RX4 ∈ Ub ∧ Cond.code yX4_leastNumber cX4_leastNumber 1 (some FieldType.int) ∈ Ub ∧ (yX4_leastNumber.cls = RX4 ∧ yX4_leastNumber.cls ≠ "java/lang/invoke/MethodHandle" ∧ yX4_leastNumber.cls ≠ "java/lang/invoke/VarHandle" ∧ (parseMethodDescriptor yX4_leastNumber.desc).map (fun d => d.parameters.length) = some 0) := ⟨k3_89, k3_90, k1_4, k3_91, by decide +kernel⟩
def fX4_leastNumber (u0 : Nat) (S : cM)  : Option (Int32 × cM) :=
  (if (S.1 u0 4) = nI 0 then some ((-128), S) else if (S.1 u0 4) = nI 1 then some ((-32768), S) else some ((-2147483648), S))
set_option maxHeartbeats 4000000 in
set_option maxRecDepth 100000 in
theorem mX4_leastNumber (l : Launch) (Γ : gG) {u0 : Nat} (hu0 : 53 ≤ u0 ∧ u0 ≤ 60) {S : cM}  {rz : Int32} {Sz : cM} (hf : fX4_leastNumber u0 S = some (rz, Sz)) : CtI l Γ 74 yX4_leastNumber cX4_leastNumber 1 .int 0 0 [.ref (Γ.2.2 (u0))] (cE Γ S) rz (cE Γ Sz) := by
  refine met_body (Γ := Γ) (lv := [(0, .ref (Γ.2.2 (u0)))]) RX4 (by decide) rfl rfl rfl ?_
  intro p e s m below meth c H locs ls C hP hl
  obtain ⟨hx, hb, -, -, hown, hts, -, hwx, -⟩ := id C
  unfold fX4_leastNumber at hf
  refine lv_aload_n hx hb dX4_leastNumber_0 rfl (lv_at hl 0 rfl) ?_
  refine c4_get C hP hu0 4 (by decide) k1_104 rfl (v := .int (S.1 u0 4)) rfl dX4_leastNumber_1 ?_
  by_cases hs1 : (S.1 u0 4) = nI 0
  · have hf := if_t hs1 hf
    refine lv_lookup (tgt := 32) (off := 28) hx hb dX4_leastNumber_4 (by decide) (by rw [hs1]; decide) (by decide) ?_
    refine lv_bipush (v := (-128)) hx hb dX4_leastNumber_32 rfl ?_
    exact r_iret (X := cE Γ) C hP hf dX4_leastNumber_34
  · have hf := if_f hs1 hf
    by_cases hs2 : (S.1 u0 4) = nI 1
    · have hf := if_t hs2 hf
      refine lv_lookup (tgt := 35) (off := 31) hx hb dX4_leastNumber_4 (by decide) (by rw [hs2]; decide) (by decide) ?_
      refine lv_sipush (v := (-32768)) hx hb dX4_leastNumber_35 rfl ?_
      exact r_iret (X := cE Γ) C hP hf dX4_leastNumber_38
    · have hf := if_f hs2 hf
      refine lv_lookup (tgt := 39) (off := 35) hx hb dX4_leastNumber_4 (by decide) ((lv_osw hs1 (by decide)).trans ((lv_osw hs2 (by decide)).trans (rfl))) (by decide) ?_
      refine lv_ldc (v := -2147483648) hx hb hown (hts _ k3_92) dX4_leastNumber_39 ?_
      exact r_iret (X := cE Γ) C hP hf dX4_leastNumber_41
