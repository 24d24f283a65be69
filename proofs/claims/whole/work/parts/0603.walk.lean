-- X5_change
theorem qX5_change : Cond.instanceMethod yX5_change ∈ Ub ∧ Cond.selects RX5 yX5_change yX5_change ∈ Ub ∧ Cond.initialized RX5 ∈ Ub ∧ Cond.code yX5_change cX5_change 6 (some FieldType.int) ∈ Ub ∧ (yX5_change.cls = RX5 ∧ yX5_change.cls ≠ "java/lang/invoke/MethodHandle" ∧ yX5_change.cls ≠ "java/lang/invoke/VarHandle" ∧ (parseMethodDescriptor yX5_change.desc).map (fun d => d.parameters.length) = some 4) := ⟨k2_150, k2_151, k1_1, k2_152, by decide +kernel⟩
def fX5_change  (S : cM) (x1 : Int32) (x2 : Int32) (x3 : Int32) (x4 : Int32) : Option (Int32 × cM) :=
  if x4 < 0 then some ((-1000000001), S) else if x4 ≤ (nI 1) then bd (fX5_changeRefusal S x1 x2 x3) fun v3 S3 => ( if v3 = 0 then if x4 = 0 then gn S3.2.1 1 3 (bd (fX1_gain S3.2.1 S3 x1 x2 x3) fun v8 S8 => ( some (v8, S8))) else bd (fX5_brings S3 x1 x2 x3) fun v6 S6 => ( some (v6, S6)) else some (v3, S3)) else some ((-1000000001), S)
set_option maxHeartbeats 4000000 in
set_option maxRecDepth 100000 in
theorem mX5_change (l : Launch) (Γ : gG)   {S : cM} {x1 : Int32} {x2 : Int32} {x3 : Int32} {x4 : Int32} {rz : Int32} {Sz : cM} (hf : fX5_change S x1 x2 x3 x4 = some (rz, Sz)) : CtI l Γ 74 yX5_change cX5_change 6 .int 4 92 [.ref (Γ.2.2 (0)), .int x1, .int x2, .int x3, .int x4] (cE Γ S) rz (cE Γ Sz) := by
  refine met_body (Γ := Γ) (lv := [(0, .ref (Γ.2.2 (0))), (1, .int x1), (2, .int x2), (3, .int x3), (4, .int x4)]) RX5 (by decide) rfl rfl rfl ?_
  intro p e s m below meth c H locs ls C hP hl
  obtain ⟨hx, hb, -, -, hown, hts, -, hwx, -⟩ := id C
  unfold fX5_change at hf
  refine lv_iload hx hb dX5_change_0 (lv_at hl 4 rfl) ?_
  refine lv_if_lt (tgt := 11) hx hb dX5_change_2 (by decide) (fun hc1 => ?_) (fun hc1 => ?_)
  · have hf := if_t hc1 hf
    refine lv_ldc (v := -1000000001) hx hb hown (hts _ k2_153) dX5_change_11 ?_
    exact r_iret (X := cE Γ) C hP hf dX5_change_13
  · have hf := if_f hc1 hf
    refine lv_iload hx hb dX5_change_5 (lv_at hl 4 rfl) ?_
    refine lv_iconst (v := nI 1) hx hb dX5_change_7 rfl ?_
    refine lv_icmp_le (tgt := 14) hx hb dX5_change_8 (by decide) (fun hc2 => ?_) (fun hc2 => ?_)
    · have hf := if_t hc2 hf
      refine lv_aload_n hx hb dX5_change_14 rfl (lv_at hl 0 rfl) ?_
      refine lv_iload_n hx hb dX5_change_15 rfl (lv_at hl 1 rfl) ?_
      refine lv_iload_n hx hb dX5_change_16 rfl (lv_at hl 2 rfl) ?_
      refine lv_iload_n hx hb dX5_change_17 rfl (lv_at hl 3 rfl) ?_
      refine bd_i hf (fun v3 S3 hq3 hf => ?_)
      refine goI (runV (rest := []) (b := 0) (mX5_changeRefusal l Γ  hq3) C hP hl.1 (by decide) cE0 rfl k2_154 qX5_changeRefusal.1 qX5_changeRefusal.2.1 qX5_changeRefusal.2.2.1 qX5_changeRefusal.2.2.2.1 rfl qX5_changeRefusal.2.2.2.2 ⟨Nat.le_of_ble_eq_true rfl, Nat.le_of_ble_eq_true rfl⟩ ⟨Nat.le_refl 0, Nat.le_refl 0⟩ (Nat.le_of_ble_eq_true rfl) dX5_change_18) hP (fun H locs hP => ?_)
      refine lv_istore (lv' := [(5, .int v3), (0, .ref (Γ.2.2 (0))), (1, .int x1), (2, .int x2), (3, .int x3), (4, .int x4)]) hx hb dX5_change_21 hl (by decide) rfl (fun ls hl => ?_)
      refine lv_iload hx hb dX5_change_23 (lv_at hl 0 rfl) ?_
      refine lv_if_eq (tgt := 31) hx hb dX5_change_25 (by decide) (fun hc4 => ?_) (fun hc4 => ?_)
      · have hf := if_t hc4 hf
        refine lv_iload hx hb dX5_change_31 (lv_at hl 5 rfl) ?_
        refine lv_if_ne (tgt := 49) hx hb dX5_change_33 (by decide) (fun hc5 => ?_) (fun hc5 => ?_)
        · have hf := if_f hc5 hf
          refine lv_aload_n hx hb dX5_change_49 rfl (lv_at hl 1 rfl) ?_
          refine lv_iload_n hx hb dX5_change_50 rfl (lv_at hl 2 rfl) ?_
          refine lv_iload_n hx hb dX5_change_51 rfl (lv_at hl 3 rfl) ?_
          refine lv_iload_n hx hb dX5_change_52 rfl (lv_at hl 4 rfl) ?_
          refine bd_i hf (fun v6 S6 hq6 hf => ?_)
          refine goI (runV (rest := []) (b := 0) (mX5_brings l Γ  hq6) C hP hl.1 (by decide) cE0 rfl k2_165 qX5_brings.1 qX5_brings.2.1 qX5_brings.2.2.1 qX5_brings.2.2.2.1 rfl qX5_brings.2.2.2.2 ⟨Nat.le_of_ble_eq_true rfl, Nat.le_of_ble_eq_true rfl⟩ ⟨Nat.le_refl 0, Nat.le_refl 0⟩ (Nat.le_of_ble_eq_true rfl) dX5_change_53) hP (fun H locs hP => ?_)
          exact r_iret (X := cE Γ) C hP hf dX5_change_56
        · have hf := if_t hc5 hf
          refine lv_aload_n hx hb dX5_change_36 rfl (lv_at hl 1 rfl) ?_
          refine gn_i hf (fun hN7 hf => ?_)
          refine c0_get C hP 0 (by decide) k1_127 rfl (v := .ref (Γ.2.2 (S3.2.1))) rfl dX5_change_37 ?_
          refine lv_iload_n hx hb dX5_change_40 rfl (lv_at hl 2 rfl) ?_
          refine lv_iload_n hx hb dX5_change_41 rfl (lv_at hl 3 rfl) ?_
          refine lv_iload_n hx hb dX5_change_42 rfl (lv_at hl 4 rfl) ?_
          refine bd_i hf (fun v8 S8 hq8 hf => ?_)
          refine goI (runV (rest := []) (mX1_gain l Γ hN7 hq8) C hP hl.1 (by have := hN7; omega) (cE1 hN7) rfl k2_160 qX1_gain.1 qX1_gain.2.1 qX1_gain.2.2.1 qX1_gain.2.2.2.1 rfl qX1_gain.2.2.2.2 ⟨Nat.le_of_ble_eq_true rfl, Nat.le_of_ble_eq_true rfl⟩ ⟨Nat.le_refl 0, Nat.le_refl 0⟩ (Nat.le_of_ble_eq_true rfl) dX5_change_43) hP (fun H locs hP => ?_)
          refine lv_goto (tgt := 56) hx hb dX5_change_46 (by decide) ?_
          exact r_iret (X := cE Γ) C hP hf dX5_change_56
      · have hf := if_f hc4 hf
        refine lv_iload hx hb dX5_change_28 (lv_at hl 0 rfl) ?_
        exact r_iret (X := cE Γ) C hP hf dX5_change_30
    · have hf := if_f hc2 hf
      refine lv_ldc (v := -1000000001) hx hb hown (hts _ k2_153) dX5_change_11 ?_
      exact r_iret (X := cE Γ) C hP hf dX5_change_13
-- X5_changes
theorem qX5_changes : Cond.instanceMethod yX5_changes ∈ Ub ∧ Cond.selects RX5 yX5_changes yX5_changes ∈ Ub ∧ Cond.initialized RX5 ∈ Ub ∧ Cond.code yX5_changes cX5_changes 6 (some FieldType.int) ∈ Ub ∧ (yX5_changes.cls = RX5 ∧ yX5_changes.cls ≠ "java/lang/invoke/MethodHandle" ∧ yX5_changes.cls ≠ "java/lang/invoke/VarHandle" ∧ (parseMethodDescriptor yX5_changes.desc).map (fun d => d.parameters.length) = some 3) := ⟨k2_181, k2_182, k1_1, k2_183, by decide +kernel⟩
def fX5_changes  (S : cM) (x1 : Int32) (x2 : Int32) (x3 : Int32) : Option (Int32 × cM) :=
  bd (fX5_changeRefusal S x1 x2 x3) fun v1 S1 => ( if v1 = 0 then gn S1.2.1 1 3 (bd (fX1_timesTogether S1.2.1 S1) fun v4 S4 => ( gn S4.2.1 1 3 (bv (fX1_move S4.2.1 S4 x1 x2 x3) fun S6 => ( gn S6.2.1 1 3 (bd (fX1_timesTogether S6.2.1 S6) fun v8 S8 => ( some (v4 - v8, S8))))))) else some (v1, S1))
set_option maxHeartbeats 4000000 in
set_option maxRecDepth 100000 in
theorem mX5_changes (l : Launch) (Γ : gG)   {S : cM} {x1 : Int32} {x2 : Int32} {x3 : Int32} {rz : Int32} {Sz : cM} (hf : fX5_changes S x1 x2 x3 = some (rz, Sz)) : CtI l Γ 74 yX5_changes cX5_changes 6 .int 3 67 [.ref (Γ.2.2 (0)), .int x1, .int x2, .int x3] (cE Γ S) rz (cE Γ Sz) := by
  refine met_body (Γ := Γ) (lv := [(0, .ref (Γ.2.2 (0))), (1, .int x1), (2, .int x2), (3, .int x3)]) RX5 (by decide) rfl rfl rfl ?_
  intro p e s m below meth c H locs ls C hP hl
  obtain ⟨hx, hb, -, -, hown, hts, -, hwx, -⟩ := id C
  unfold fX5_changes at hf
  refine lv_aload_n hx hb dX5_changes_0 rfl (lv_at hl 0 rfl) ?_
  refine lv_iload_n hx hb dX5_changes_1 rfl (lv_at hl 1 rfl) ?_
  refine lv_iload_n hx hb dX5_changes_2 rfl (lv_at hl 2 rfl) ?_
  refine lv_iload_n hx hb dX5_changes_3 rfl (lv_at hl 3 rfl) ?_
  refine bd_i hf (fun v1 S1 hq1 hf => ?_)
  refine goI (runV (rest := []) (b := 0) (mX5_changeRefusal l Γ  hq1) C hP hl.1 (by decide) cE0 rfl k2_154 qX5_changeRefusal.1 qX5_changeRefusal.2.1 qX5_changeRefusal.2.2.1 qX5_changeRefusal.2.2.2.1 rfl qX5_changeRefusal.2.2.2.2 ⟨Nat.le_of_ble_eq_true rfl, Nat.le_of_ble_eq_true rfl⟩ ⟨Nat.le_refl 0, Nat.le_refl 0⟩ (Nat.le_of_ble_eq_true rfl) dX5_changes_4) hP (fun H locs hP => ?_)
  refine lv_istore (lv' := [(4, .int v1), (0, .ref (Γ.2.2 (0))), (1, .int x1), (2, .int x2), (3, .int x3)]) hx hb dX5_changes_7 hl (by decide) rfl (fun ls hl => ?_)
  refine lv_iload hx hb dX5_changes_9 (lv_at hl 0 rfl) ?_
  refine lv_if_eq (tgt := 17) hx hb dX5_changes_11 (by decide) (fun hc2 => ?_) (fun hc2 => ?_)
  · have hf := if_t hc2 hf
    refine lv_aload_n hx hb dX5_changes_17 rfl (lv_at hl 1 rfl) ?_
    refine gn_i hf (fun hN3 hf => ?_)
    refine c0_get C hP 0 (by decide) k1_127 rfl (v := .ref (Γ.2.2 (S1.2.1))) rfl dX5_changes_18 ?_
    refine bd_i hf (fun v4 S4 hq4 hf => ?_)
    refine goI (runV (rest := []) (mX1_timesTogether l Γ hN3 hq4) C hP hl.1 (by have := hN3; omega) (cE1 hN3) rfl k2_141 qX1_timesTogether.1 qX1_timesTogether.2.1 qX1_timesTogether.2.2.1 qX1_timesTogether.2.2.2.1 rfl qX1_timesTogether.2.2.2.2 ⟨Nat.le_of_ble_eq_true rfl, Nat.le_of_ble_eq_true rfl⟩ ⟨Nat.le_refl 0, Nat.le_refl 0⟩ (Nat.le_of_ble_eq_true rfl) dX5_changes_21) hP (fun H locs hP => ?_)
    refine lv_istore (lv' := [(5, .int v4), (4, .int v1), (0, .ref (Γ.2.2 (0))), (1, .int x1), (2, .int x2), (3, .int x3)]) hx hb dX5_changes_24 hl (by decide) rfl (fun ls hl => ?_)
    refine lv_aload_n hx hb dX5_changes_26 rfl (lv_at hl 2 rfl) ?_
    refine gn_i hf (fun hN5 hf => ?_)
    refine c0_get C hP 0 (by decide) k1_127 rfl (v := .ref (Γ.2.2 (S4.2.1))) rfl dX5_changes_27 ?_
    refine lv_iload_n hx hb dX5_changes_30 rfl (lv_at hl 3 rfl) ?_
    refine lv_iload_n hx hb dX5_changes_31 rfl (lv_at hl 4 rfl) ?_
    refine lv_iload_n hx hb dX5_changes_32 rfl (lv_at hl 5 rfl) ?_
    refine bv_i hf (fun S6 hq6 hf => ?_)
    refine goV (runV (rest := []) (mX1_move l Γ hN5 hq6) C hP hl.1 (by have := hN5; omega) (cE1 hN5) rfl k2_169 qX1_move.1 qX1_move.2.1 qX1_move.2.2.1 qX1_move.2.2.2.1 rfl qX1_move.2.2.2.2 ⟨Nat.le_of_ble_eq_true rfl, Nat.le_of_ble_eq_true rfl⟩ ⟨Nat.le_refl 0, Nat.le_refl 0⟩ (Nat.le_of_ble_eq_true rfl) dX5_changes_33) hP (fun H locs hP => ?_)
    refine lv_iload hx hb dX5_changes_36 (lv_at hl 0 rfl) ?_
    refine lv_aload_n hx hb dX5_changes_38 rfl (lv_at hl 2 rfl) ?_
    refine gn_i hf (fun hN7 hf => ?_)
    refine c0_get C hP 0 (by decide) k1_127 rfl (v := .ref (Γ.2.2 (S6.2.1))) rfl dX5_changes_39 ?_
    refine bd_i hf (fun v8 S8 hq8 hf => ?_)
    refine goI (runV (rest := [.int v4]) (mX1_timesTogether l Γ hN7 hq8) C hP hl.1 (by have := hN7; omega) (cE1 hN7) rfl k2_141 qX1_timesTogether.1 qX1_timesTogether.2.1 qX1_timesTogether.2.2.1 qX1_timesTogether.2.2.2.1 rfl qX1_timesTogether.2.2.2.2 ⟨Nat.le_of_ble_eq_true rfl, Nat.le_of_ble_eq_true rfl⟩ ⟨Nat.le_refl 0, Nat.le_refl 0⟩ (Nat.le_of_ble_eq_true rfl) dX5_changes_42) hP (fun H locs hP => ?_)
    refine lv_isub hx hb dX5_changes_45 ?_
    exact r_iret (X := cE Γ) C hP hf dX5_changes_46
  · have hf := if_f hc2 hf
    refine lv_iload hx hb dX5_changes_14 (lv_at hl 0 rfl) ?_
    exact r_iret (X := cE Γ) C hP hf dX5_changes_16
-- X5_paysMost
theorem qX5_paysMost : Cond.instanceMethod yX5_paysMost ∈ Ub ∧ Cond.selects RX5 yX5_paysMost yX5_paysMost ∈ Ub ∧ Cond.initialized RX5 ∈ Ub ∧ Cond.code yX5_paysMost cX5_paysMost 2 (some FieldType.int) ∈ Ub ∧ (yX5_paysMost.cls = RX5 ∧ yX5_paysMost.cls ≠ "java/lang/invoke/MethodHandle" ∧ yX5_paysMost.cls ≠ "java/lang/invoke/VarHandle" ∧ (parseMethodDescriptor yX5_paysMost.desc).map (fun d => d.parameters.length) = some 1) := ⟨k2_185, k2_186, k1_1, k2_187, by decide +kernel⟩
def fX5_paysMost_10   (S : cM)  : Option (Int32 × cM) :=
  some ((-1), S)
set_option maxHeartbeats 4000000 in
set_option maxRecDepth 100000 in
theorem wX5_paysMost_10 {p : Program} {l : Launch} {e : Env} {s : State} {m : MethodId} {args : Array Value} {below : List Frame} {meth : Method} {c : Code} {Γ : gG} {rz : Int32} {Sz : cM} (C : Cx Γ 74 p s m args meth c RX5 cX5_paysMost 2 (some .int))   : ∀ (S : cM)  , fX5_paysMost_10   S  = some (rz, Sz) → ∀ (H : Heap) (locs : List Loc) (ls : Array Slot), St Γ 74 (cE Γ S) s.heap H locs → lv_has ls 2 [] → W p l e { frames := 6, cells := 0, slots := 0, locals := 142 } s m args below meth c H locs 0 0 (MQ below (gQi Γ 74 rz (cE Γ Sz)) args s 0 0 (wA Γ 74)) (F0 m 10 ls []) := by
  obtain ⟨hx, hb, -, -, hown, hts, -, hwx, -⟩ := id C
  intro S  hf H locs ls hP hl
  unfold fX5_paysMost_10 at hf
  refine lv_iconst (v := (-1)) hx hb dX5_paysMost_10 rfl ?_
  refine lv_goto (tgt := 22) hx hb dX5_paysMost_11 (by decide) ?_
  exact r_iret (X := cE Γ) C hP hf dX5_paysMost_22
def fX5_paysMost  (S : cM) (x1 : Int32) : Option (Int32 × cM) :=
  if x1 < 0 then fX5_paysMost_10    S  else if x1 ≤ (nI 99) then gn S.2.1 1 3 (bd (fX1_greatestGain S.2.1 S x1) fun v4 S4 => ( some (v4, S4))) else fX5_paysMost_10    S 
set_option maxHeartbeats 4000000 in
set_option maxRecDepth 100000 in
theorem mX5_paysMost (l : Launch) (Γ : gG)   {S : cM} {x1 : Int32} {rz : Int32} {Sz : cM} (hf : fX5_paysMost S x1 = some (rz, Sz)) : CtI l Γ 74 yX5_paysMost cX5_paysMost 2 .int 6 142 [.ref (Γ.2.2 (0)), .int x1] (cE Γ S) rz (cE Γ Sz) := by
  refine met_body (Γ := Γ) (lv := [(0, .ref (Γ.2.2 (0))), (1, .int x1)]) RX5 (by decide) rfl rfl rfl ?_
  intro p e s m below meth c H locs ls C hP hl
  obtain ⟨hx, hb, -, -, hown, hts, -, hwx, -⟩ := id C
  unfold fX5_paysMost at hf
  refine lv_iload_n hx hb dX5_paysMost_0 rfl (lv_at hl 1 rfl) ?_
  refine lv_if_lt (tgt := 10) hx hb dX5_paysMost_1 (by decide) (fun hc1 => ?_) (fun hc1 => ?_)
  · have hf := if_t hc1 hf
    exact wX5_paysMost_10 C    S   hf _ _ _ hP (lv_sub hl [] rfl)
  · have hf := if_f hc1 hf
    refine lv_iload_n hx hb dX5_paysMost_4 rfl (lv_at hl 1 rfl) ?_
    refine lv_bipush (v := nI 99) hx hb dX5_paysMost_5 rfl ?_
    refine lv_icmp_le (tgt := 14) hx hb dX5_paysMost_7 (by decide) (fun hc2 => ?_) (fun hc2 => ?_)
    · have hf := if_t hc2 hf
      refine lv_aload_n hx hb dX5_paysMost_14 rfl (lv_at hl 0 rfl) ?_
      refine gn_i hf (fun hN3 hf => ?_)
      refine c0_get C hP 0 (by decide) k1_127 rfl (v := .ref (Γ.2.2 (S.2.1))) rfl dX5_paysMost_15 ?_
      refine lv_iload_n hx hb dX5_paysMost_18 rfl (lv_at hl 1 rfl) ?_
      refine bd_i hf (fun v4 S4 hq4 hf => ?_)
      refine goI (runV (rest := []) (mX1_greatestGain l Γ hN3 hq4) C hP hl.1 (by have := hN3; omega) (cE1 hN3) rfl k2_188 qX1_greatestGain.1 qX1_greatestGain.2.1 qX1_greatestGain.2.2.1 qX1_greatestGain.2.2.2.1 rfl qX1_greatestGain.2.2.2.2 ⟨Nat.le_of_ble_eq_true rfl, Nat.le_of_ble_eq_true rfl⟩ ⟨Nat.le_refl 0, Nat.le_refl 0⟩ (Nat.le_of_ble_eq_true rfl) dX5_paysMost_19) hP (fun H locs hP => ?_)
      exact r_iret (X := cE Γ) C hP hf dX5_paysMost_22
    · have hf := if_f hc2 hf
      exact wX5_paysMost_10 C    S   hf _ _ _ hP (lv_sub hl [] rfl)
-- X5_rests
theorem qX5_rests : Cond.instanceMethod yX5_rests ∈ Ub ∧ Cond.selects RX5 yX5_rests yX5_rests ∈ Ub ∧ Cond.initialized RX5 ∈ Ub ∧ Cond.code yX5_rests cX5_rests 5 (some FieldType.int) ∈ Ub ∧ (yX5_rests.cls = RX5 ∧ yX5_rests.cls ≠ "java/lang/invoke/MethodHandle" ∧ yX5_rests.cls ≠ "java/lang/invoke/VarHandle" ∧ (parseMethodDescriptor yX5_rests.desc).map (fun d => d.parameters.length) = some 2) := ⟨k2_198, k2_199, k1_1, k2_200, by decide +kernel⟩
def fX5_rests_96   (S : cM) (x2 : Int32) (x3 : Int32) : Option (Int32 × cM) :=
  if x2 = 0 then some (x3, S) else gn S.2.2 1 3 (bd (fX1_timesTogether S.2.2 S) fun v13 S13 => ( some (v13, S13)))
set_option maxHeartbeats 4000000 in
set_option maxRecDepth 100000 in
theorem wX5_rests_96 {p : Program} {l : Launch} {e : Env} {s : State} {m : MethodId} {args : Array Value} {below : List Frame} {meth : Method} {c : Code} {Γ : gG} {rz : Int32} {Sz : cM} (C : Cx Γ 74 p s m args meth c RX5 cX5_rests 5 (some .int))   : ∀ (S : cM) (x2 : Int32) (x3 : Int32) , fX5_rests_96   S x2 x3 = some (rz, Sz) → ∀ (H : Heap) (locs : List Loc) (ls : Array Slot), St Γ 74 (cE Γ S) s.heap H locs → lv_has ls 5 [(0, .ref (Γ.2.2 (0))), (2, .int x2), (3, .int x3)] → W p l e { frames := 6, cells := 0, slots := 0, locals := 142 } s m args below meth c H locs 0 0 (MQ below (gQi Γ 74 rz (cE Γ Sz)) args s 0 0 (wA Γ 74)) (F0 m 96 ls []) := by
  obtain ⟨hx, hb, -, -, hown, hts, -, hwx, -⟩ := id C
  intro S x2 x3 hf H locs ls hP hl
  unfold fX5_rests_96 at hf
  refine lv_iload_n hx hb dX5_rests_96 rfl (lv_at hl 1 rfl) ?_
  refine lv_if_ne (tgt := 104) hx hb dX5_rests_97 (by decide) (fun hc11 => ?_) (fun hc11 => ?_)
  · have hf := if_f hc11 hf
    refine lv_aload_n hx hb dX5_rests_104 rfl (lv_at hl 0 rfl) ?_
    refine gn_i hf (fun hN12 hf => ?_)
    refine c0_get C hP 1 (by decide) k1_128 rfl (v := .ref (Γ.2.2 (S.2.2))) rfl dX5_rests_105 ?_
    refine bd_i hf (fun v13 S13 hq13 hf => ?_)
    refine goI (runV (rest := []) (mX1_timesTogether l Γ hN12 hq13) C hP hl.1 (by have := hN12; omega) (cE1 hN12) rfl k2_141 qX1_timesTogether.1 qX1_timesTogether.2.1 qX1_timesTogether.2.2.1 qX1_timesTogether.2.2.2.1 rfl qX1_timesTogether.2.2.2.2 ⟨Nat.le_of_ble_eq_true rfl, Nat.le_of_ble_eq_true rfl⟩ ⟨Nat.le_refl 0, Nat.le_refl 0⟩ (Nat.le_of_ble_eq_true rfl) dX5_rests_108) hP (fun H locs hP => ?_)
    exact r_iret (X := cE Γ) C hP hf dX5_rests_111
  · have hf := if_t hc11 hf
    refine lv_iload_n hx hb dX5_rests_100 rfl (lv_at hl 2 rfl) ?_
    refine lv_goto (tgt := 111) hx hb dX5_rests_101 (by decide) ?_
    exact r_iret (X := cE Γ) C hP hf dX5_rests_111
def fX5_rests_44   : Nat → cM → Int32 → Int32 → Int32 → Int32 → Option (Int32 × cM)
  | 0, _, _, _, _, _ => none
  | n + 1, S, x1, x2, x3, x4 =>
    if (nI 40) ≤ x3 then fX5_rests_96    S x2 x3 else if x4 < 0 then fX5_rests_96    S x2 x3 else gn S.2.2 1 3 (bv (fX1_move S.2.2 S (x4 / (nI 100)) ((x4 / (nI 10)) - (x4 / (nI 10)) / (nI 10) * (nI 10)) (x4 - x4 / (nI 10) * (nI 10))) fun S16 => ( gn S16.2.2 1 3 (bd (fX1_greatestGain S16.2.2 S16 x1) fun v18 S18 => ( (fX5_rests_44   n) S18 x1 x2 (x3 + (nI 1)) v18))))
set_option maxHeartbeats 4000000 in
set_option maxRecDepth 100000 in
theorem wX5_rests_44 {p : Program} {l : Launch} {e : Env} {s : State} {m : MethodId} {args : Array Value} {below : List Frame} {meth : Method} {c : Code} {Γ : gG} {rz : Int32} {Sz : cM} (C : Cx Γ 74 p s m args meth c RX5 cX5_rests 5 (some .int))   : ∀ n : Nat, ∀ (S : cM) (x1 : Int32) (x2 : Int32) (x3 : Int32) (x4 : Int32) , fX5_rests_44   n S x1 x2 x3 x4 = some (rz, Sz) → ∀ (H : Heap) (locs : List Loc) (ls : Array Slot), St Γ 74 (cE Γ S) s.heap H locs → lv_has ls 5 [(0, .ref (Γ.2.2 (0))), (1, .int x1), (2, .int x2), (3, .int x3), (4, .int x4)] → W p l e { frames := 6, cells := 0, slots := 0, locals := 142 } s m args below meth c H locs 0 0 (MQ below (gQi Γ 74 rz (cE Γ Sz)) args s 0 0 (wA Γ 74)) (F0 m 44 ls []) := by
  obtain ⟨hx, hb, -, -, hown, hts, -, hwx, -⟩ := id C
  intro n
  induction n with
  | zero =>
    intro S x1 x2 x3 x4 hf
    unfold fX5_rests_44 at hf
    cases hf
  | succ n ih =>
    intro S x1 x2 x3 x4 hf H locs ls hP hl
    unfold fX5_rests_44 at hf
    refine lv_iload_n hx hb dX5_rests_44 rfl (lv_at hl 3 rfl) ?_
    refine lv_bipush (v := nI 40) hx hb dX5_rests_45 rfl ?_
    refine lv_icmp_ge (tgt := 96) hx hb dX5_rests_47 (by decide) (fun hc10 => ?_) (fun hc10 => ?_)
    · have hf := if_t hc10 hf
      exact wX5_rests_96 C    S x2 x3  hf _ _ _ hP (lv_sub hl [0, 2, 3] rfl)
    · have hf := if_f hc10 hf
      refine lv_iload hx hb dX5_rests_50 (lv_at hl 4 rfl) ?_
      refine lv_if_lt (tgt := 96) hx hb dX5_rests_52 (by decide) (fun hc14 => ?_) (fun hc14 => ?_)
      · have hf := if_t hc14 hf
        exact wX5_rests_96 C    S x2 x3  hf _ _ _ hP (lv_sub hl [0, 2, 3] rfl)
      · have hf := if_f hc14 hf
        refine lv_aload_n hx hb dX5_rests_55 rfl (lv_at hl 0 rfl) ?_
        refine gn_i hf (fun hN15 hf => ?_)
        refine c0_get C hP 1 (by decide) k1_128 rfl (v := .ref (Γ.2.2 (S.2.2))) rfl dX5_rests_56 ?_
        refine lv_iload hx hb dX5_rests_59 (lv_at hl 4 rfl) ?_
        refine lv_bipush (v := nI 100) hx hb dX5_rests_61 rfl ?_
        refine lv_idiv hx hb dX5_rests_63 (by decide) ?_
        refine lv_iload hx hb dX5_rests_64 (lv_at hl 4 rfl) ?_
        refine lv_bipush (v := nI 10) hx hb dX5_rests_66 rfl ?_
        refine lv_idiv hx hb dX5_rests_68 (by decide) ?_
        refine lv_bipush (v := nI 10) hx hb dX5_rests_69 rfl ?_
        refine lv_irem hx hb dX5_rests_71 (by decide) ?_
        refine lv_iload hx hb dX5_rests_72 (lv_at hl 4 rfl) ?_
        refine lv_bipush (v := nI 10) hx hb dX5_rests_74 rfl ?_
        refine lv_irem hx hb dX5_rests_76 (by decide) ?_
        refine bv_i hf (fun S16 hq16 hf => ?_)
        refine goV (runV (rest := []) (mX1_move l Γ hN15 hq16) C hP hl.1 (by have := hN15; omega) (cE1 hN15) rfl k2_169 qX1_move.1 qX1_move.2.1 qX1_move.2.2.1 qX1_move.2.2.2.1 rfl qX1_move.2.2.2.2 ⟨Nat.le_of_ble_eq_true rfl, Nat.le_of_ble_eq_true rfl⟩ ⟨Nat.le_refl 0, Nat.le_refl 0⟩ (Nat.le_of_ble_eq_true rfl) dX5_rests_77) hP (fun H locs hP => ?_)
        refine lv_iinc (v := x3 + (nI 1)) (lv' := [(3, .int (x3 + (nI 1))), (0, .ref (Γ.2.2 (0))), (1, .int x1), (2, .int x2), (4, .int x4)]) hx hb dX5_rests_80 hl (k := 3) rfl rfl (by decide) rfl (fun ls hl => ?_)
        refine lv_aload_n hx hb dX5_rests_83 rfl (lv_at hl 1 rfl) ?_
        refine gn_i hf (fun hN17 hf => ?_)
        refine c0_get C hP 1 (by decide) k1_128 rfl (v := .ref (Γ.2.2 (S16.2.2))) rfl dX5_rests_84 ?_
        refine lv_iload_n hx hb dX5_rests_87 rfl (lv_at hl 2 rfl) ?_
        refine bd_i hf (fun v18 S18 hq18 hf => ?_)
        refine goI (runV (rest := []) (mX1_greatestGain l Γ hN17 hq18) C hP hl.1 (by have := hN17; omega) (cE1 hN17) rfl k2_188 qX1_greatestGain.1 qX1_greatestGain.2.1 qX1_greatestGain.2.2.1 qX1_greatestGain.2.2.2.1 rfl qX1_greatestGain.2.2.2.2 ⟨Nat.le_of_ble_eq_true rfl, Nat.le_of_ble_eq_true rfl⟩ ⟨Nat.le_refl 0, Nat.le_refl 0⟩ (Nat.le_of_ble_eq_true rfl) dX5_rests_88) hP (fun H locs hP => ?_)
        refine lv_istore (lv' := [(4, .int v18), (3, .int (x3 + (nI 1))), (0, .ref (Γ.2.2 (0))), (1, .int x1), (2, .int x2)]) hx hb dX5_rests_91 hl (by decide) rfl (fun ls hl => ?_)
        refine lv_goto (tgt := 44) hx hb dX5_rests_93 (by decide) ?_
        exact ih S18 x1 x2 (x3 + (nI 1)) v18  hf _ _ _ hP (lv_sub hl [2, 3, 4, 1, 0] rfl)
def fX5_rests  (S : cM) (x1 : Int32) (x2 : Int32) : Option (Int32 × cM) :=
  if x1 < 0 then some ((-1), S) else if (nI 99) < x1 then some ((-1), S) else if x2 < 0 then some ((-1), S) else if x2 ≤ (nI 1) then gn S.2.2 1 3 (gn S.2.1 1 3 (bv (fX1_becomeLike S.2.2 S.2.1 S) fun S7 => ( gn S7.2.2 1 3 (bd (fX1_greatestGain S7.2.2 S7 x1) fun v9 S9 => ( fX5_rests_44   lF S9 x1 x2 (nI 0) v9))))) else some ((-1), S)
set_option maxHeartbeats 4000000 in
set_option maxRecDepth 100000 in
theorem mX5_rests (l : Launch) (Γ : gG)   {S : cM} {x1 : Int32} {x2 : Int32} {rz : Int32} {Sz : cM} (hf : fX5_rests S x1 x2 = some (rz, Sz)) : CtI l Γ 74 yX5_rests cX5_rests 5 .int 6 142 [.ref (Γ.2.2 (0)), .int x1, .int x2] (cE Γ S) rz (cE Γ Sz) := by
  refine met_body (Γ := Γ) (lv := [(0, .ref (Γ.2.2 (0))), (1, .int x1), (2, .int x2)]) RX5 (by decide) rfl rfl rfl ?_
  intro p e s m below meth c H locs ls C hP hl
  obtain ⟨hx, hb, -, -, hown, hts, -, hwx, -⟩ := id C
  unfold fX5_rests at hf
  refine lv_iload_n hx hb dX5_rests_0 rfl (lv_at hl 1 rfl) ?_
  refine lv_if_lt (tgt := 19) hx hb dX5_rests_1 (by decide) (fun hc1 => ?_) (fun hc1 => ?_)
  · have hf := if_t hc1 hf
    refine lv_iconst (v := (-1)) hx hb dX5_rests_19 rfl ?_
    exact r_iret (X := cE Γ) C hP hf dX5_rests_20
  · have hf := if_f hc1 hf
    refine lv_iload_n hx hb dX5_rests_4 rfl (lv_at hl 1 rfl) ?_
    refine lv_bipush (v := nI 99) hx hb dX5_rests_5 rfl ?_
    refine lv_icmp_gt (tgt := 19) hx hb dX5_rests_7 (by decide) (fun hc2 => ?_) (fun hc2 => ?_)
    · have hf := if_t hc2 hf
      refine lv_iconst (v := (-1)) hx hb dX5_rests_19 rfl ?_
      exact r_iret (X := cE Γ) C hP hf dX5_rests_20
    · have hf := if_f hc2 hf
      refine lv_iload_n hx hb dX5_rests_10 rfl (lv_at hl 2 rfl) ?_
      refine lv_if_lt (tgt := 19) hx hb dX5_rests_11 (by decide) (fun hc3 => ?_) (fun hc3 => ?_)
      · have hf := if_t hc3 hf
        refine lv_iconst (v := (-1)) hx hb dX5_rests_19 rfl ?_
        exact r_iret (X := cE Γ) C hP hf dX5_rests_20
      · have hf := if_f hc3 hf
        refine lv_iload_n hx hb dX5_rests_14 rfl (lv_at hl 2 rfl) ?_
        refine lv_iconst (v := nI 1) hx hb dX5_rests_15 rfl ?_
        refine lv_icmp_le (tgt := 21) hx hb dX5_rests_16 (by decide) (fun hc4 => ?_) (fun hc4 => ?_)
        · have hf := if_t hc4 hf
          refine lv_aload_n hx hb dX5_rests_21 rfl (lv_at hl 0 rfl) ?_
          refine gn_i hf (fun hN5 hf => ?_)
          refine c0_get C hP 1 (by decide) k1_128 rfl (v := .ref (Γ.2.2 (S.2.2))) rfl dX5_rests_22 ?_
          refine lv_aload_n hx hb dX5_rests_25 rfl (lv_at hl 0 rfl) ?_
          refine gn_i hf (fun hN6 hf => ?_)
          refine c0_get C hP 0 (by decide) k1_127 rfl (v := .ref (Γ.2.2 (S.2.1))) rfl dX5_rests_26 ?_
          refine bv_i hf (fun S7 hq7 hf => ?_)
          refine goV (runV (rest := []) (mX1_becomeLike l Γ hN5 hN6 hq7) C hP hl.1 (by have := hN5; omega) (cE1 hN5) rfl k1_189 qX1_becomeLike.1 qX1_becomeLike.2.1 qX1_becomeLike.2.2.1 qX1_becomeLike.2.2.2.1 rfl qX1_becomeLike.2.2.2.2 ⟨Nat.le_of_ble_eq_true rfl, Nat.le_of_ble_eq_true rfl⟩ ⟨Nat.le_refl 0, Nat.le_refl 0⟩ (Nat.le_of_ble_eq_true rfl) dX5_rests_29) hP (fun H locs hP => ?_)
          refine lv_iconst (v := nI 0) hx hb dX5_rests_32 rfl ?_
          refine lv_istore_n (lv' := [(3, .int (nI 0)), (0, .ref (Γ.2.2 (0))), (1, .int x1), (2, .int x2)]) hx hb dX5_rests_33 rfl hl (by decide) rfl (fun ls hl => ?_)
          refine lv_aload_n hx hb dX5_rests_34 rfl (lv_at hl 1 rfl) ?_
          refine gn_i hf (fun hN8 hf => ?_)
          refine c0_get C hP 1 (by decide) k1_128 rfl (v := .ref (Γ.2.2 (S7.2.2))) rfl dX5_rests_35 ?_
          refine lv_iload_n hx hb dX5_rests_38 rfl (lv_at hl 2 rfl) ?_
          refine bd_i hf (fun v9 S9 hq9 hf => ?_)
          refine goI (runV (rest := []) (mX1_greatestGain l Γ hN8 hq9) C hP hl.1 (by have := hN8; omega) (cE1 hN8) rfl k2_188 qX1_greatestGain.1 qX1_greatestGain.2.1 qX1_greatestGain.2.2.1 qX1_greatestGain.2.2.2.1 rfl qX1_greatestGain.2.2.2.2 ⟨Nat.le_of_ble_eq_true rfl, Nat.le_of_ble_eq_true rfl⟩ ⟨Nat.le_refl 0, Nat.le_refl 0⟩ (Nat.le_of_ble_eq_true rfl) dX5_rests_39) hP (fun H locs hP => ?_)
          refine lv_istore (lv' := [(4, .int v9), (3, .int (nI 0)), (0, .ref (Γ.2.2 (0))), (1, .int x1), (2, .int x2)]) hx hb dX5_rests_42 hl (by decide) rfl (fun ls hl => ?_)
          exact wX5_rests_44 C   lF S9 x1 x2 (nI 0) v9  hf _ _ _ hP (lv_sub hl [2, 3, 4, 1, 0] rfl)
        · have hf := if_f hc4 hf
          refine lv_iconst (v := (-1)) hx hb dX5_rests_19 rfl ?_
          exact r_iret (X := cE Γ) C hP hf dX5_rests_20
-- X5_gatherLine
theorem qX5_gatherLine : Cond.instanceMethod yX5_gatherLine ∈ Ub ∧ Cond.selects RX5 yX5_gatherLine yX5_gatherLine ∈ Ub ∧ Cond.initialized RX5 ∈ Ub ∧ Cond.code yX5_gatherLine cX5_gatherLine 5 (some FieldType.int) ∈ Ub ∧ (yX5_gatherLine.cls = RX5 ∧ yX5_gatherLine.cls ≠ "java/lang/invoke/MethodHandle" ∧ yX5_gatherLine.cls ≠ "java/lang/invoke/VarHandle" ∧ (parseMethodDescriptor yX5_gatherLine.desc).map (fun d => d.parameters.length) = some 0) := ⟨k2_207, ks_8, k1_1, k2_208, by decide +kernel⟩
def fX5_gatherLine_28  (K4 : cM → Int32 → Int32 → Option (Int32 × cM)) : Nat → cM → Int32 → Int32 → Nat → Int32 → Option (Int32 × cM)
  | 0, _, _, _, _, _ => none
  | n + 1, S, x1, x2, ux3, x4 =>
    if (S.1 ux3 2) ≤ x4 then K4 S x1 (x2 + (nI 1)) else gi x4 8 (gi x1 40 (sv (cS S 70 ((x1).toNatClampNeg) (S.1 (ux3 + 15) (x4).toNatClampNeg)) fun S11 => ( (fX5_gatherLine_28  K4 n) S11 (x1 + (nI 1)) x2 ux3 (x4 + (nI 1)))))
set_option maxHeartbeats 4000000 in
set_option maxRecDepth 100000 in
theorem wX5_gatherLine_28 {p : Program} {l : Launch} {e : Env} {s : State} {m : MethodId} {args : Array Value} {below : List Frame} {meth : Method} {c : Code} {Γ : gG} {rz : Int32} {Sz : cM} (C : Cx Γ 74 p s m args meth c RX5 cX5_gatherLine 5 (some .int))  {K4 : cM → Int32 → Int32 → Option (Int32 × cM)} (hK4 : ∀ (S : cM) (x1 : Int32) (x2 : Int32) , K4 S x1 x2 = some (rz, Sz) → ∀ (H : Heap) (locs : List Loc) (ls : Array Slot), St Γ 74 (cE Γ S) s.heap H locs → lv_has ls 5 [(0, .ref (Γ.2.2 (0))), (1, .int x1), (2, .int x2)] → W p l e { frames := 0, cells := 0, slots := 0, locals := 0 } s m args below meth c H locs 0 0 (MQ below (gQi Γ 74 rz (cE Γ Sz)) args s 0 0 (wA Γ 74)) (F0 m 4 ls [])) : ∀ n : Nat, ∀ (S : cM) (x1 : Int32) (x2 : Int32) (ux3 : Nat) (x4 : Int32) (hux3 : 7 ≤ ux3 ∧ ux3 ≤ 21), fX5_gatherLine_28  K4 n S x1 x2 ux3 x4 = some (rz, Sz) → ∀ (H : Heap) (locs : List Loc) (ls : Array Slot), St Γ 74 (cE Γ S) s.heap H locs → lv_has ls 5 [(0, .ref (Γ.2.2 (0))), (1, .int x1), (2, .int x2), (3, .ref (Γ.2.2 (ux3))), (4, .int x4)] → W p l e { frames := 0, cells := 0, slots := 0, locals := 0 } s m args below meth c H locs 0 0 (MQ below (gQi Γ 74 rz (cE Γ Sz)) args s 0 0 (wA Γ 74)) (F0 m 28 ls []) := by
  obtain ⟨hx, hb, -, -, hown, hts, -, hwx, -⟩ := id C
  intro n
  induction n with
  | zero =>
    intro S x1 x2 ux3 x4 hux3 hf
    unfold fX5_gatherLine_28 at hf
    cases hf
  | succ n ih =>
    intro S x1 x2 ux3 x4 hux3 hf H locs ls hP hl
    unfold fX5_gatherLine_28 at hf
    refine lv_iload hx hb dX5_gatherLine_28 (lv_at hl 4 rfl) ?_
    refine lv_aload_n hx hb dX5_gatherLine_30 rfl (lv_at hl 3 rfl) ?_
    refine c3_get C hP hux3 2 (by decide) k1_44 rfl (v := .int (S.1 ux3 2)) rfl dX5_gatherLine_31 ?_
    refine lv_icmp_ge (tgt := 59) hx hb dX5_gatherLine_34 (by decide) (fun hc6 => ?_) (fun hc6 => ?_)
    · have hf := if_t hc6 hf
      refine lv_iinc (v := x2 + (nI 1)) (lv' := [(2, .int (x2 + (nI 1))), (0, .ref (Γ.2.2 (0))), (1, .int x1), (3, .ref (Γ.2.2 (ux3))), (4, .int x4)]) hx hb dX5_gatherLine_59 hl (k := 2) rfl rfl (by decide) rfl (fun ls hl => ?_)
      refine lv_goto (tgt := 4) hx hb dX5_gatherLine_62 (by decide) ?_
      exact hK4 S x1 (x2 + (nI 1))  hf _ _ _ hP (lv_sub hl [1, 2, 0] rfl)
    · have hf := if_f hc6 hf
      refine lv_aload_n hx hb dX5_gatherLine_37 rfl (lv_at hl 0 rfl) ?_
      refine c0_get C hP 6 (by decide) k1_133 rfl (v := .ref (Γ.2.2 (70))) rfl dX5_gatherLine_38 ?_
      refine lv_iload_n hx hb dX5_gatherLine_41 rfl (lv_at hl 1 rfl) ?_
      refine lv_aload_n hx hb dX5_gatherLine_42 rfl (lv_at hl 3 rfl) ?_
      refine c3_get C hP hux3 5 (by decide) k1_51 rfl (v := .ref (Γ.2.2 (ux3 + 15))) rfl dX5_gatherLine_43 ?_
      refine lv_iload hx hb dX5_gatherLine_46 (lv_at hl 4 rfl) ?_
      refine gi_i hf (fun hi7 hj8 hf => ?_)
      refine c_ild C hP (cA_so hux3) hi7 dX5_gatherLine_48 ?_
      refine gi_i hf (fun hi9 hj10 hf => ?_)
      refine c_ist C hP cA_70 hi9 dX5_gatherLine_49 (fun H locs hP => ?_)
      refine sv_i hf (fun S11 e11 hf => ?_)
      rw [← e11] at hP
      refine lv_iinc (v := x1 + (nI 1)) (lv' := [(1, .int (x1 + (nI 1))), (0, .ref (Γ.2.2 (0))), (2, .int x2), (3, .ref (Γ.2.2 (ux3))), (4, .int x4)]) hx hb dX5_gatherLine_50 hl (k := 1) rfl rfl (by decide) rfl (fun ls hl => ?_)
      refine lv_iinc (v := x4 + (nI 1)) (lv' := [(4, .int (x4 + (nI 1))), (1, .int (x1 + (nI 1))), (0, .ref (Γ.2.2 (0))), (2, .int x2), (3, .ref (Γ.2.2 (ux3)))]) hx hb dX5_gatherLine_53 hl (k := 4) rfl rfl (by decide) rfl (fun ls hl => ?_)
      refine lv_goto (tgt := 28) hx hb dX5_gatherLine_56 (by decide) ?_
      exact ih S11 (x1 + (nI 1)) x2 ux3 (x4 + (nI 1)) hux3 hf _ _ _ hP (lv_sub hl [2, 1, 3, 4, 0] rfl)
def fX5_gatherLine_4   : Nat → cM → Int32 → Int32 → Option (Int32 × cM)
  | 0, _, _, _ => none
  | n + 1, S, x1, x2 =>
    gn S.2.1 1 3 (if (S.1 S.2.1 1) ≤ x2 then some (x1, S) else gn S.2.1 1 3 (gi x2 5 (fX5_gatherLine_28  (fX5_gatherLine_4   n) lF S x1 x2 (5 * S.2.1 + 2 + (x2).toNatClampNeg) (nI 1))))
set_option maxHeartbeats 4000000 in
set_option maxRecDepth 100000 in
theorem wX5_gatherLine_4 {p : Program} {l : Launch} {e : Env} {s : State} {m : MethodId} {args : Array Value} {below : List Frame} {meth : Method} {c : Code} {Γ : gG} {rz : Int32} {Sz : cM} (C : Cx Γ 74 p s m args meth c RX5 cX5_gatherLine 5 (some .int))   : ∀ n : Nat, ∀ (S : cM) (x1 : Int32) (x2 : Int32) , fX5_gatherLine_4   n S x1 x2 = some (rz, Sz) → ∀ (H : Heap) (locs : List Loc) (ls : Array Slot), St Γ 74 (cE Γ S) s.heap H locs → lv_has ls 5 [(0, .ref (Γ.2.2 (0))), (1, .int x1), (2, .int x2)] → W p l e { frames := 0, cells := 0, slots := 0, locals := 0 } s m args below meth c H locs 0 0 (MQ below (gQi Γ 74 rz (cE Γ Sz)) args s 0 0 (wA Γ 74)) (F0 m 4 ls []) := by
  obtain ⟨hx, hb, -, -, hown, hts, -, hwx, -⟩ := id C
  intro n
  induction n with
  | zero =>
    intro S x1 x2 hf
    unfold fX5_gatherLine_4 at hf
    cases hf
  | succ n ih =>
    intro S x1 x2 hf H locs ls hP hl
    unfold fX5_gatherLine_4 at hf
    refine lv_iload_n hx hb dX5_gatherLine_4 rfl (lv_at hl 2 rfl) ?_
    refine lv_aload_n hx hb dX5_gatherLine_5 rfl (lv_at hl 0 rfl) ?_
    refine gn_i hf (fun hN1 hf => ?_)
    refine c0_get C hP 0 (by decide) k1_127 rfl (v := .ref (Γ.2.2 (S.2.1))) rfl dX5_gatherLine_6 ?_
    refine c1_get C hP hN1 1 (by decide) k1_75 rfl (v := .int (S.1 S.2.1 1)) rfl dX5_gatherLine_9 ?_
    refine lv_icmp_ge (tgt := 65) hx hb dX5_gatherLine_12 (by decide) (fun hc2 => ?_) (fun hc2 => ?_)
    · have hf := if_t hc2 hf
      refine lv_iload_n hx hb dX5_gatherLine_65 rfl (lv_at hl 1 rfl) ?_
      exact r_iret (X := cE Γ) C hP hf dX5_gatherLine_66
    · have hf := if_f hc2 hf
      refine lv_aload_n hx hb dX5_gatherLine_15 rfl (lv_at hl 0 rfl) ?_
      refine gn_i hf (fun hN3 hf => ?_)
      refine c0_get C hP 0 (by decide) k1_127 rfl (v := .ref (Γ.2.2 (S.2.1))) rfl dX5_gatherLine_16 ?_
      refine c1_get C hP hN3 0 (by decide) k1_71 rfl (v := .ref (Γ.2.2 (S.2.1 + 3))) rfl dX5_gatherLine_19 ?_
      refine lv_iload_n hx hb dX5_gatherLine_22 rfl (lv_at hl 2 rfl) ?_
      refine gi_i hf (fun hi4 hj5 hf => ?_)
      refine c_aldQ (q := S.2.1) C hP hN3 hi4 dX5_gatherLine_23 ?_
      refine lv_astore_n (lv' := [(3, .ref (Γ.2.2 (5 * S.2.1 + 2 + (x2).toNatClampNeg))), (0, .ref (Γ.2.2 (0))), (1, .int x1), (2, .int x2)]) hx hb dX5_gatherLine_24 rfl hl (by decide) rfl (fun ls hl => ?_)
      refine lv_iconst (v := nI 1) hx hb dX5_gatherLine_25 rfl ?_
      refine lv_istore (lv' := [(4, .int (nI 1)), (3, .ref (Γ.2.2 (5 * S.2.1 + 2 + (x2).toNatClampNeg))), (0, .ref (Γ.2.2 (0))), (1, .int x1), (2, .int x2)]) hx hb dX5_gatherLine_26 hl (by decide) rfl (fun ls hl => ?_)
      exact wX5_gatherLine_28 C  ih lF S x1 x2 (5 * S.2.1 + 2 + (x2).toNatClampNeg) (nI 1) (by omega) hf _ _ _ hP (lv_sub hl [2, 3, 4, 1, 0] rfl)
def fX5_gatherLine  (S : cM)  : Option (Int32 × cM) :=
  fX5_gatherLine_4   lF S (nI 0) (nI 0)
set_option maxHeartbeats 4000000 in
set_option maxRecDepth 100000 in
theorem mX5_gatherLine (l : Launch) (Γ : gG)   {S : cM}  {rz : Int32} {Sz : cM} (hf : fX5_gatherLine S = some (rz, Sz)) : CtI l Γ 74 yX5_gatherLine cX5_gatherLine 5 .int 0 0 [.ref (Γ.2.2 (0))] (cE Γ S) rz (cE Γ Sz) := by
  refine met_body (Γ := Γ) (lv := [(0, .ref (Γ.2.2 (0)))]) RX5 (by decide) rfl rfl rfl ?_
  intro p e s m below meth c H locs ls C hP hl
  obtain ⟨hx, hb, -, -, hown, hts, -, hwx, -⟩ := id C
  unfold fX5_gatherLine at hf
  refine lv_iconst (v := nI 0) hx hb dX5_gatherLine_0 rfl ?_
  refine lv_istore_n (lv' := [(1, .int (nI 0)), (0, .ref (Γ.2.2 (0)))]) hx hb dX5_gatherLine_1 rfl hl (by decide) rfl (fun ls hl => ?_)
  refine lv_iconst (v := nI 0) hx hb dX5_gatherLine_2 rfl ?_
  refine lv_istore_n (lv' := [(2, .int (nI 0)), (1, .int (nI 0)), (0, .ref (Γ.2.2 (0)))]) hx hb dX5_gatherLine_3 rfl hl (by decide) rfl (fun ls hl => ?_)
  exact wX5_gatherLine_4 C   lF S (nI 0) (nI 0)  hf _ _ _ hP (lv_sub hl [2, 1, 0] rfl)
-- X5_gatherUsable
theorem qX5_gatherUsable : Cond.instanceMethod yX5_gatherUsable ∈ Ub ∧ Cond.selects RX5 yX5_gatherUsable yX5_gatherUsable ∈ Ub ∧ Cond.initialized RX5 ∈ Ub ∧ Cond.code yX5_gatherUsable cX5_gatherUsable 3 (some FieldType.int) ∈ Ub ∧ (yX5_gatherUsable.cls = RX5 ∧ yX5_gatherUsable.cls ≠ "java/lang/invoke/MethodHandle" ∧ yX5_gatherUsable.cls ≠ "java/lang/invoke/VarHandle" ∧ (parseMethodDescriptor yX5_gatherUsable.desc).map (fun d => d.parameters.length) = some 0) := ⟨k2_211, ks_9, k1_1, k2_212, by decide +kernel⟩
def fX5_gatherUsable_41  (K4 : cM → Int32 → Int32 → Option (Int32 × cM)) (S : cM) (x1 : Int32) (x2 : Int32) : Option (Int32 × cM) :=
  K4 S x1 (x2 + (nI 1))
set_option maxHeartbeats 4000000 in
set_option maxRecDepth 100000 in
theorem wX5_gatherUsable_41 {p : Program} {l : Launch} {e : Env} {s : State} {m : MethodId} {args : Array Value} {below : List Frame} {meth : Method} {c : Code} {Γ : gG} {rz : Int32} {Sz : cM} (C : Cx Γ 74 p s m args meth c RX5 cX5_gatherUsable 3 (some .int))  {K4 : cM → Int32 → Int32 → Option (Int32 × cM)} (hK4 : ∀ (S : cM) (x1 : Int32) (x2 : Int32) , K4 S x1 x2 = some (rz, Sz) → ∀ (H : Heap) (locs : List Loc) (ls : Array Slot), St Γ 74 (cE Γ S) s.heap H locs → lv_has ls 3 [(0, .ref (Γ.2.2 (0))), (1, .int x1), (2, .int x2)] → W p l e { frames := 0, cells := 0, slots := 0, locals := 0 } s m args below meth c H locs 0 0 (MQ below (gQi Γ 74 rz (cE Γ Sz)) args s 0 0 (wA Γ 74)) (F0 m 4 ls [])) : ∀ (S : cM) (x1 : Int32) (x2 : Int32) , fX5_gatherUsable_41  K4 S x1 x2 = some (rz, Sz) → ∀ (H : Heap) (locs : List Loc) (ls : Array Slot), St Γ 74 (cE Γ S) s.heap H locs → lv_has ls 3 [(0, .ref (Γ.2.2 (0))), (1, .int x1), (2, .int x2)] → W p l e { frames := 0, cells := 0, slots := 0, locals := 0 } s m args below meth c H locs 0 0 (MQ below (gQi Γ 74 rz (cE Γ Sz)) args s 0 0 (wA Γ 74)) (F0 m 41 ls []) := by
  obtain ⟨hx, hb, -, -, hown, hts, -, hwx, -⟩ := id C
  intro S x1 x2 hf H locs ls hP hl
  unfold fX5_gatherUsable_41 at hf
  refine lv_iinc (v := x2 + (nI 1)) (lv' := [(2, .int (x2 + (nI 1))), (0, .ref (Γ.2.2 (0))), (1, .int x1)]) hx hb dX5_gatherUsable_41 hl (k := 2) rfl rfl (by decide) rfl (fun ls hl => ?_)
  refine lv_goto (tgt := 4) hx hb dX5_gatherUsable_44 (by decide) ?_
  exact hK4 S x1 (x2 + (nI 1))  hf _ _ _ hP (lv_sub hl [1, 2, 0] rfl)
def fX5_gatherUsable_4   : Nat → cM → Int32 → Int32 → Option (Int32 × cM)
  | 0, _, _, _ => none
  | n + 1, S, x1, x2 =>
    gn S.2.1 1 3 (if (S.1 S.2.1 1) ≤ x2 then some (x1, S) else gn S.2.1 1 3 (gi x2 5 (if (S.1 (5 * S.2.1 + 2 + (x2).toNatClampNeg) 0) = (nI 5) then fX5_gatherUsable_41  (fX5_gatherUsable_4   n)  S x1 x2 else gi x1 5 (sv (cS S 71 ((x1).toNatClampNeg) x2) fun S9 => ( fX5_gatherUsable_41  (fX5_gatherUsable_4   n)  S9 (x1 + (nI 1)) x2)))))
set_option maxHeartbeats 4000000 in
set_option maxRecDepth 100000 in
theorem wX5_gatherUsable_4 {p : Program} {l : Launch} {e : Env} {s : State} {m : MethodId} {args : Array Value} {below : List Frame} {meth : Method} {c : Code} {Γ : gG} {rz : Int32} {Sz : cM} (C : Cx Γ 74 p s m args meth c RX5 cX5_gatherUsable 3 (some .int))   : ∀ n : Nat, ∀ (S : cM) (x1 : Int32) (x2 : Int32) , fX5_gatherUsable_4   n S x1 x2 = some (rz, Sz) → ∀ (H : Heap) (locs : List Loc) (ls : Array Slot), St Γ 74 (cE Γ S) s.heap H locs → lv_has ls 3 [(0, .ref (Γ.2.2 (0))), (1, .int x1), (2, .int x2)] → W p l e { frames := 0, cells := 0, slots := 0, locals := 0 } s m args below meth c H locs 0 0 (MQ below (gQi Γ 74 rz (cE Γ Sz)) args s 0 0 (wA Γ 74)) (F0 m 4 ls []) := by
  obtain ⟨hx, hb, -, -, hown, hts, -, hwx, -⟩ := id C
  intro n
  induction n with
  | zero =>
    intro S x1 x2 hf
    unfold fX5_gatherUsable_4 at hf
    cases hf
  | succ n ih =>
    intro S x1 x2 hf H locs ls hP hl
    unfold fX5_gatherUsable_4 at hf
    refine lv_iload_n hx hb dX5_gatherUsable_4 rfl (lv_at hl 2 rfl) ?_
    refine lv_aload_n hx hb dX5_gatherUsable_5 rfl (lv_at hl 0 rfl) ?_
    refine gn_i hf (fun hN1 hf => ?_)
    refine c0_get C hP 0 (by decide) k1_127 rfl (v := .ref (Γ.2.2 (S.2.1))) rfl dX5_gatherUsable_6 ?_
    refine c1_get C hP hN1 1 (by decide) k1_75 rfl (v := .int (S.1 S.2.1 1)) rfl dX5_gatherUsable_9 ?_
    refine lv_icmp_ge (tgt := 47) hx hb dX5_gatherUsable_12 (by decide) (fun hc2 => ?_) (fun hc2 => ?_)
    · have hf := if_t hc2 hf
      refine lv_iload_n hx hb dX5_gatherUsable_47 rfl (lv_at hl 1 rfl) ?_
      exact r_iret (X := cE Γ) C hP hf dX5_gatherUsable_48
    · have hf := if_f hc2 hf
      refine lv_aload_n hx hb dX5_gatherUsable_15 rfl (lv_at hl 0 rfl) ?_
      refine gn_i hf (fun hN3 hf => ?_)
      refine c0_get C hP 0 (by decide) k1_127 rfl (v := .ref (Γ.2.2 (S.2.1))) rfl dX5_gatherUsable_16 ?_
      refine c1_get C hP hN3 0 (by decide) k1_71 rfl (v := .ref (Γ.2.2 (S.2.1 + 3))) rfl dX5_gatherUsable_19 ?_
      refine lv_iload_n hx hb dX5_gatherUsable_22 rfl (lv_at hl 2 rfl) ?_
      refine gi_i hf (fun hi4 hj5 hf => ?_)
      refine c_aldQ (q := S.2.1) C hP hN3 hi4 dX5_gatherUsable_23 ?_
      refine c3_get C hP (by omega) 0 (by decide) k1_39 rfl (v := .int (S.1 (5 * S.2.1 + 2 + (x2).toNatClampNeg) 0)) rfl dX5_gatherUsable_24 ?_
      refine lv_iconst (v := nI 5) hx hb dX5_gatherUsable_27 rfl ?_
      refine lv_icmp_eq (tgt := 41) hx hb dX5_gatherUsable_28 (by decide) (fun hc6 => ?_) (fun hc6 => ?_)
      · have hf := if_t hc6 hf
        exact wX5_gatherUsable_41 C  ih  S x1 x2  hf _ _ _ hP (lv_sub hl [0, 1, 2] rfl)
      · have hf := if_f hc6 hf
        refine lv_aload_n hx hb dX5_gatherUsable_31 rfl (lv_at hl 0 rfl) ?_
        refine c0_get C hP 7 (by decide) k1_134 rfl (v := .ref (Γ.2.2 (71))) rfl dX5_gatherUsable_32 ?_
        refine lv_iload_n hx hb dX5_gatherUsable_35 rfl (lv_at hl 1 rfl) ?_
        refine lv_iload_n hx hb dX5_gatherUsable_36 rfl (lv_at hl 2 rfl) ?_
        refine gi_i hf (fun hi7 hj8 hf => ?_)
        refine c_ist C hP cA_71 hi7 dX5_gatherUsable_37 (fun H locs hP => ?_)
        refine sv_i hf (fun S9 e9 hf => ?_)
        rw [← e9] at hP
        refine lv_iinc (v := x1 + (nI 1)) (lv' := [(1, .int (x1 + (nI 1))), (0, .ref (Γ.2.2 (0))), (2, .int x2)]) hx hb dX5_gatherUsable_38 hl (k := 1) rfl rfl (by decide) rfl (fun ls hl => ?_)
        exact wX5_gatherUsable_41 C  ih  S9 (x1 + (nI 1)) x2  hf _ _ _ hP (lv_sub hl [1, 0, 2] rfl)
def fX5_gatherUsable  (S : cM)  : Option (Int32 × cM) :=
  fX5_gatherUsable_4   lF S (nI 0) (nI 0)
set_option maxHeartbeats 4000000 in
set_option maxRecDepth 100000 in
theorem mX5_gatherUsable (l : Launch) (Γ : gG)   {S : cM}  {rz : Int32} {Sz : cM} (hf : fX5_gatherUsable S = some (rz, Sz)) : CtI l Γ 74 yX5_gatherUsable cX5_gatherUsable 3 .int 0 0 [.ref (Γ.2.2 (0))] (cE Γ S) rz (cE Γ Sz) := by
  refine met_body (Γ := Γ) (lv := [(0, .ref (Γ.2.2 (0)))]) RX5 (by decide) rfl rfl rfl ?_
  intro p e s m below meth c H locs ls C hP hl
  obtain ⟨hx, hb, -, -, hown, hts, -, hwx, -⟩ := id C
  unfold fX5_gatherUsable at hf
  refine lv_iconst (v := nI 0) hx hb dX5_gatherUsable_0 rfl ?_
  refine lv_istore_n (lv' := [(1, .int (nI 0)), (0, .ref (Γ.2.2 (0)))]) hx hb dX5_gatherUsable_1 rfl hl (by decide) rfl (fun ls hl => ?_)
  refine lv_iconst (v := nI 0) hx hb dX5_gatherUsable_2 rfl ?_
  refine lv_istore_n (lv' := [(2, .int (nI 0)), (1, .int (nI 0)), (0, .ref (Γ.2.2 (0)))]) hx hb dX5_gatherUsable_3 rfl hl (by decide) rfl (fun ls hl => ?_)
  exact wX5_gatherUsable_4 C   lF S (nI 0) (nI 0)  hf _ _ _ hP (lv_sub hl [2, 1, 0] rfl)
-- X5_power
theorem qX5_power : Cond.static yX5_power ∈ Ub ∧ Cond.initialized RX5 ∈ Ub ∧ Cond.code yX5_power cX5_power 4 (some FieldType.int) ∈ Ub ∧ (yX5_power.cls = RX5 ∧ yX5_power.cls ≠ "java/lang/invoke/MethodHandle" ∧ yX5_power.cls ≠ "java/lang/invoke/VarHandle" ∧ (parseMethodDescriptor yX5_power.desc).map (fun d => d.parameters.length) = some 2) := ⟨k2_214, k1_1, k2_215, by decide +kernel⟩
def fX5_power_4   : Nat → cM → Int32 → Int32 → Int32 → Int32 → Option (Int32 × cM)
  | 0, _, _, _, _, _ => none
  | n + 1, S, x0, x1, x2, x3 =>
    if x1 ≤ x3 then some (x2, S) else (fX5_power_4   n) S x0 x1 (x2 * x0) (x3 + (nI 1))
set_option maxHeartbeats 4000000 in
set_option maxRecDepth 100000 in
theorem wX5_power_4 {p : Program} {l : Launch} {e : Env} {s : State} {m : MethodId} {args : Array Value} {below : List Frame} {meth : Method} {c : Code} {Γ : gG} {rz : Int32} {Sz : cM} (C : Cx Γ 74 p s m args meth c RX5 cX5_power 4 (some .int))   : ∀ n : Nat, ∀ (S : cM) (x0 : Int32) (x1 : Int32) (x2 : Int32) (x3 : Int32) , fX5_power_4   n S x0 x1 x2 x3 = some (rz, Sz) → ∀ (H : Heap) (locs : List Loc) (ls : Array Slot), St Γ 74 (cE Γ S) s.heap H locs → lv_has ls 4 [(0, .int x0), (1, .int x1), (2, .int x2), (3, .int x3)] → W p l e { frames := 0, cells := 0, slots := 0, locals := 0 } s m args below meth c H locs 0 0 (MQ below (gQi Γ 74 rz (cE Γ Sz)) args s 0 0 (wA Γ 74)) (F0 m 4 ls []) := by
  obtain ⟨hx, hb, -, -, hown, hts, -, hwx, -⟩ := id C
  intro n
  induction n with
  | zero =>
    intro S x0 x1 x2 x3 hf
    unfold fX5_power_4 at hf
    cases hf
  | succ n ih =>
    intro S x0 x1 x2 x3 hf H locs ls hP hl
    unfold fX5_power_4 at hf
    refine lv_iload_n hx hb dX5_power_4 rfl (lv_at hl 3 rfl) ?_
    refine lv_iload_n hx hb dX5_power_5 rfl (lv_at hl 1 rfl) ?_
    refine lv_icmp_ge (tgt := 19) hx hb dX5_power_6 (by decide) (fun hc1 => ?_) (fun hc1 => ?_)
    · have hf := if_t hc1 hf
      refine lv_iload_n hx hb dX5_power_19 rfl (lv_at hl 2 rfl) ?_
      exact r_iret (X := cE Γ) C hP hf dX5_power_20
    · have hf := if_f hc1 hf
      refine lv_iload_n hx hb dX5_power_9 rfl (lv_at hl 2 rfl) ?_
      refine lv_iload_n hx hb dX5_power_10 rfl (lv_at hl 0 rfl) ?_
      refine lv_imul hx hb dX5_power_11 ?_
      refine lv_istore_n (lv' := [(2, .int (x2 * x0)), (0, .int x0), (1, .int x1), (3, .int x3)]) hx hb dX5_power_12 rfl hl (by decide) rfl (fun ls hl => ?_)
      refine lv_iinc (v := x3 + (nI 1)) (lv' := [(3, .int (x3 + (nI 1))), (2, .int (x2 * x0)), (0, .int x0), (1, .int x1)]) hx hb dX5_power_13 hl (k := 3) rfl rfl (by decide) rfl (fun ls hl => ?_)
      refine lv_goto (tgt := 4) hx hb dX5_power_16 (by decide) ?_
      exact ih S x0 x1 (x2 * x0) (x3 + (nI 1))  hf _ _ _ hP (lv_sub hl [2, 3, 1, 0] rfl)
def fX5_power  (S : cM) (x0 : Int32) (x1 : Int32) : Option (Int32 × cM) :=
  fX5_power_4   lF S x0 x1 (nI 1) (nI 0)
set_option maxHeartbeats 4000000 in
set_option maxRecDepth 100000 in
theorem mX5_power (l : Launch) (Γ : gG)   {S : cM} {x0 : Int32} {x1 : Int32} {rz : Int32} {Sz : cM} (hf : fX5_power S x0 x1 = some (rz, Sz)) : CtI l Γ 74 yX5_power cX5_power 4 .int 0 0 [.int x0, .int x1] (cE Γ S) rz (cE Γ Sz) := by
  refine met_body (Γ := Γ) (lv := [(0, .int x0), (1, .int x1)]) RX5 (by decide) rfl rfl rfl ?_
  intro p e s m below meth c H locs ls C hP hl
  obtain ⟨hx, hb, -, -, hown, hts, -, hwx, -⟩ := id C
  unfold fX5_power at hf
  refine lv_iconst (v := nI 1) hx hb dX5_power_0 rfl ?_
  refine lv_istore_n (lv' := [(2, .int (nI 1)), (0, .int x0), (1, .int x1)]) hx hb dX5_power_1 rfl hl (by decide) rfl (fun ls hl => ?_)
  refine lv_iconst (v := nI 0) hx hb dX5_power_2 rfl ?_
  refine lv_istore_n (lv' := [(3, .int (nI 0)), (2, .int (nI 1)), (0, .int x0), (1, .int x1)]) hx hb dX5_power_3 rfl hl (by decide) rfl (fun ls hl => ?_)
  exact wX5_power_4 C   lF S x0 x1 (nI 1) (nI 0)  hf _ _ _ hP (lv_sub hl [2, 3, 1, 0] rfl)
-- X5_beginWithFirstOnes
theorem qX5_beginWithFirstOnes : Cond.instanceMethod yX5_beginWithFirstOnes ∈ Ub ∧ Cond.selects RX5 yX5_beginWithFirstOnes yX5_beginWithFirstOnes ∈ Ub ∧ Cond.initialized RX5 ∈ Ub ∧ Cond.code yX5_beginWithFirstOnes cX5_beginWithFirstOnes 3 (some FieldType.int) ∈ Ub ∧ (yX5_beginWithFirstOnes.cls = RX5 ∧ yX5_beginWithFirstOnes.cls ≠ "java/lang/invoke/MethodHandle" ∧ yX5_beginWithFirstOnes.cls ≠ "java/lang/invoke/VarHandle" ∧ (parseMethodDescriptor yX5_beginWithFirstOnes.desc).map (fun d => d.parameters.length) = some 0) := ⟨k2_223, ks_11, k1_1, k2_224, by decide +kernel⟩
def fX5_beginWithFirstOnes_4   : Nat → cM → Int32 → Int32 → Option (Int32 × cM)
  | 0, _, _, _ => none
  | n + 1, S, x1, x2 =>
    gn S.2.1 1 3 (if (S.1 S.2.1 1) ≤ x2 then some (x1, S) else gn S.2.1 1 3 (gi x2 5 (gi x2 5 (sv (cS S 69 ((x2).toNatClampNeg) (S.1 (5 * S.2.1 + 2 + (x2).toNatClampNeg) 3)) fun S8 => ( gi x2 5 ((fX5_beginWithFirstOnes_4   n) S8 (x1 + (S8.1 69 (x2).toNatClampNeg)) (x2 + (nI 1))))))))
set_option maxHeartbeats 4000000 in
set_option maxRecDepth 100000 in
theorem wX5_beginWithFirstOnes_4 {p : Program} {l : Launch} {e : Env} {s : State} {m : MethodId} {args : Array Value} {below : List Frame} {meth : Method} {c : Code} {Γ : gG} {rz : Int32} {Sz : cM} (C : Cx Γ 74 p s m args meth c RX5 cX5_beginWithFirstOnes 3 (some .int))   : ∀ n : Nat, ∀ (S : cM) (x1 : Int32) (x2 : Int32) , fX5_beginWithFirstOnes_4   n S x1 x2 = some (rz, Sz) → ∀ (H : Heap) (locs : List Loc) (ls : Array Slot), St Γ 74 (cE Γ S) s.heap H locs → lv_has ls 3 [(0, .ref (Γ.2.2 (0))), (1, .int x1), (2, .int x2)] → W p l e { frames := 0, cells := 0, slots := 0, locals := 0 } s m args below meth c H locs 0 0 (MQ below (gQi Γ 74 rz (cE Γ Sz)) args s 0 0 (wA Γ 74)) (F0 m 4 ls []) := by
  obtain ⟨hx, hb, -, -, hown, hts, -, hwx, -⟩ := id C
  intro n
  induction n with
  | zero =>
    intro S x1 x2 hf
    unfold fX5_beginWithFirstOnes_4 at hf
    cases hf
  | succ n ih =>
    intro S x1 x2 hf H locs ls hP hl
    unfold fX5_beginWithFirstOnes_4 at hf
    refine lv_iload_n hx hb dX5_beginWithFirstOnes_4 rfl (lv_at hl 2 rfl) ?_
    refine lv_aload_n hx hb dX5_beginWithFirstOnes_5 rfl (lv_at hl 0 rfl) ?_
    refine gn_i hf (fun hN1 hf => ?_)
    refine c0_get C hP 0 (by decide) k1_127 rfl (v := .ref (Γ.2.2 (S.2.1))) rfl dX5_beginWithFirstOnes_6 ?_
    refine c1_get C hP hN1 1 (by decide) k1_75 rfl (v := .int (S.1 S.2.1 1)) rfl dX5_beginWithFirstOnes_9 ?_
    refine lv_icmp_ge (tgt := 48) hx hb dX5_beginWithFirstOnes_12 (by decide) (fun hc2 => ?_) (fun hc2 => ?_)
    · have hf := if_t hc2 hf
      refine lv_iload_n hx hb dX5_beginWithFirstOnes_48 rfl (lv_at hl 1 rfl) ?_
      exact r_iret (X := cE Γ) C hP hf dX5_beginWithFirstOnes_49
    · have hf := if_f hc2 hf
      refine lv_aload_n hx hb dX5_beginWithFirstOnes_15 rfl (lv_at hl 0 rfl) ?_
      refine c0_get C hP 5 (by decide) k1_132 rfl (v := .ref (Γ.2.2 (69))) rfl dX5_beginWithFirstOnes_16 ?_
      refine lv_iload_n hx hb dX5_beginWithFirstOnes_19 rfl (lv_at hl 2 rfl) ?_
      refine lv_aload_n hx hb dX5_beginWithFirstOnes_20 rfl (lv_at hl 0 rfl) ?_
      refine gn_i hf (fun hN3 hf => ?_)
      refine c0_get C hP 0 (by decide) k1_127 rfl (v := .ref (Γ.2.2 (S.2.1))) rfl dX5_beginWithFirstOnes_21 ?_
      refine c1_get C hP hN3 0 (by decide) k1_71 rfl (v := .ref (Γ.2.2 (S.2.1 + 3))) rfl dX5_beginWithFirstOnes_24 ?_
      refine lv_iload_n hx hb dX5_beginWithFirstOnes_27 rfl (lv_at hl 2 rfl) ?_
      refine gi_i hf (fun hi4 hj5 hf => ?_)
      refine c_aldQ (q := S.2.1) C hP hN3 hi4 dX5_beginWithFirstOnes_28 ?_
      refine c3_get C hP (by omega) 3 (by decide) k1_47 rfl (v := .int (S.1 (5 * S.2.1 + 2 + (x2).toNatClampNeg) 3)) rfl dX5_beginWithFirstOnes_29 ?_
      refine gi_i hf (fun hi6 hj7 hf => ?_)
      refine c_ist C hP cA_69 hi6 dX5_beginWithFirstOnes_32 (fun H locs hP => ?_)
      refine sv_i hf (fun S8 e8 hf => ?_)
      rw [← e8] at hP
      refine lv_iload_n hx hb dX5_beginWithFirstOnes_33 rfl (lv_at hl 1 rfl) ?_
      refine lv_aload_n hx hb dX5_beginWithFirstOnes_34 rfl (lv_at hl 0 rfl) ?_
      refine c0_get C hP 5 (by decide) k1_132 rfl (v := .ref (Γ.2.2 (69))) rfl dX5_beginWithFirstOnes_35 ?_
      refine lv_iload_n hx hb dX5_beginWithFirstOnes_38 rfl (lv_at hl 2 rfl) ?_
      refine gi_i hf (fun hi9 hj10 hf => ?_)
      refine c_ild C hP cA_69 hi9 dX5_beginWithFirstOnes_39 ?_
      refine lv_iadd hx hb dX5_beginWithFirstOnes_40 ?_
      refine lv_istore_n (lv' := [(1, .int (x1 + (S8.1 69 (x2).toNatClampNeg))), (0, .ref (Γ.2.2 (0))), (2, .int x2)]) hx hb dX5_beginWithFirstOnes_41 rfl hl (by decide) rfl (fun ls hl => ?_)
      refine lv_iinc (v := x2 + (nI 1)) (lv' := [(2, .int (x2 + (nI 1))), (1, .int (x1 + (S8.1 69 (x2).toNatClampNeg))), (0, .ref (Γ.2.2 (0)))]) hx hb dX5_beginWithFirstOnes_42 hl (k := 2) rfl rfl (by decide) rfl (fun ls hl => ?_)
      refine lv_goto (tgt := 4) hx hb dX5_beginWithFirstOnes_45 (by decide) ?_
      exact ih S8 (x1 + (S8.1 69 (x2).toNatClampNeg)) (x2 + (nI 1))  hf _ _ _ hP (lv_sub hl [2, 1, 0] rfl)
def fX5_beginWithFirstOnes  (S : cM)  : Option (Int32 × cM) :=
  fX5_beginWithFirstOnes_4   lF S (nI 0) (nI 0)
set_option maxHeartbeats 4000000 in
set_option maxRecDepth 100000 in
theorem mX5_beginWithFirstOnes (l : Launch) (Γ : gG)   {S : cM}  {rz : Int32} {Sz : cM} (hf : fX5_beginWithFirstOnes S = some (rz, Sz)) : CtI l Γ 74 yX5_beginWithFirstOnes cX5_beginWithFirstOnes 3 .int 0 0 [.ref (Γ.2.2 (0))] (cE Γ S) rz (cE Γ Sz) := by
  refine met_body (Γ := Γ) (lv := [(0, .ref (Γ.2.2 (0)))]) RX5 (by decide) rfl rfl rfl ?_
  intro p e s m below meth c H locs ls C hP hl
  obtain ⟨hx, hb, -, -, hown, hts, -, hwx, -⟩ := id C
  unfold fX5_beginWithFirstOnes at hf
  refine lv_iconst (v := nI 0) hx hb dX5_beginWithFirstOnes_0 rfl ?_
  refine lv_istore_n (lv' := [(1, .int (nI 0)), (0, .ref (Γ.2.2 (0)))]) hx hb dX5_beginWithFirstOnes_1 rfl hl (by decide) rfl (fun ls hl => ?_)
  refine lv_iconst (v := nI 0) hx hb dX5_beginWithFirstOnes_2 rfl ?_
  refine lv_istore_n (lv' := [(2, .int (nI 0)), (1, .int (nI 0)), (0, .ref (Γ.2.2 (0)))]) hx hb dX5_beginWithFirstOnes_3 rfl hl (by decide) rfl (fun ls hl => ?_)
  exact wX5_beginWithFirstOnes_4 C   lF S (nI 0) (nI 0)  hf _ _ _ hP (lv_sub hl [2, 1, 0] rfl)
-- X5_goTo
theorem qX5_goTo : Cond.instanceMethod yX5_goTo ∈ Ub ∧ Cond.selects RX5 yX5_goTo yX5_goTo ∈ Ub ∧ Cond.initialized RX5 ∈ Ub ∧ Cond.code yX5_goTo cX5_goTo 3 (some FieldType.int) ∈ Ub ∧ (yX5_goTo.cls = RX5 ∧ yX5_goTo.cls ≠ "java/lang/invoke/MethodHandle" ∧ yX5_goTo.cls ≠ "java/lang/invoke/VarHandle" ∧ (parseMethodDescriptor yX5_goTo.desc).map (fun d => d.parameters.length) = some 2) := ⟨k2_227, ks_12, k1_1, k2_228, by decide +kernel⟩
def fX5_goTo  (S : cM) (x1 : Int32) (x2 : Int32) : Option (Int32 × cM) :=
  gi x1 5 (gn S.2.1 1 3 (gi x1 5 (bd (fX3_needs (5 * S.2.1 + 2 + (x1).toNatClampNeg) S x2) fun v6 S6 => ( gi x1 5 (sv (cS S6 69 ((x1).toNatClampNeg) ((S.1 69 (x1).toNatClampNeg) + v6)) fun S9 => ( gi x1 5 (some (S9.1 69 (x1).toNatClampNeg, S9))))))))
set_option maxHeartbeats 4000000 in
set_option maxRecDepth 100000 in
theorem mX5_goTo (l : Launch) (Γ : gG)   {S : cM} {x1 : Int32} {x2 : Int32} {rz : Int32} {Sz : cM} (hf : fX5_goTo S x1 x2 = some (rz, Sz)) : CtI l Γ 74 yX5_goTo cX5_goTo 3 .int 1 21 [.ref (Γ.2.2 (0)), .int x1, .int x2] (cE Γ S) rz (cE Γ Sz) := by
  refine met_body (Γ := Γ) (lv := [(0, .ref (Γ.2.2 (0))), (1, .int x1), (2, .int x2)]) RX5 (by decide) rfl rfl rfl ?_
  intro p e s m below meth c H locs ls C hP hl
  obtain ⟨hx, hb, -, -, hown, hts, -, hwx, -⟩ := id C
  unfold fX5_goTo at hf
  refine lv_aload_n hx hb dX5_goTo_0 rfl (lv_at hl 0 rfl) ?_
  refine c0_get C hP 5 (by decide) k1_132 rfl (v := .ref (Γ.2.2 (69))) rfl dX5_goTo_1 ?_
  refine lv_iload_n hx hb dX5_goTo_4 rfl (lv_at hl 1 rfl) ?_
  refine lv_dup2_11 hx hb dX5_goTo_5 rfl rfl ?_
  refine gi_i hf (fun hi1 hj2 hf => ?_)
  refine c_ild C hP cA_69 hi1 dX5_goTo_6 ?_
  refine lv_aload_n hx hb dX5_goTo_7 rfl (lv_at hl 0 rfl) ?_
  refine gn_i hf (fun hN3 hf => ?_)
  refine c0_get C hP 0 (by decide) k1_127 rfl (v := .ref (Γ.2.2 (S.2.1))) rfl dX5_goTo_8 ?_
  refine c1_get C hP hN3 0 (by decide) k1_71 rfl (v := .ref (Γ.2.2 (S.2.1 + 3))) rfl dX5_goTo_11 ?_
  refine lv_iload_n hx hb dX5_goTo_14 rfl (lv_at hl 1 rfl) ?_
  refine gi_i hf (fun hi4 hj5 hf => ?_)
  refine c_aldQ (q := S.2.1) C hP hN3 hi4 dX5_goTo_15 ?_
  refine lv_iload_n hx hb dX5_goTo_16 rfl (lv_at hl 2 rfl) ?_
  refine bd_i hf (fun v6 S6 hq6 hf => ?_)
  refine goI (runV (rest := [.int (S.1 69 (x1).toNatClampNeg), .int x1, .ref (Γ.2.2 (69))]) (mX3_needs l Γ (by omega) hq6) C hP hl.1 (by have := (show 7 ≤ 5 * S.2.1 + 2 + (x1).toNatClampNeg ∧ 5 * S.2.1 + 2 + (x1).toNatClampNeg ≤ 21 by omega); omega) (cE3 (by omega)) rfl k2_79 qX3_needs.1 qX3_needs.2.1 qX3_needs.2.2.1 qX3_needs.2.2.2.1 rfl qX3_needs.2.2.2.2 ⟨Nat.le_of_ble_eq_true rfl, Nat.le_of_ble_eq_true rfl⟩ ⟨Nat.le_refl 0, Nat.le_refl 0⟩ (Nat.le_of_ble_eq_true rfl) dX5_goTo_17) hP (fun H locs hP => ?_)
  refine lv_iadd hx hb dX5_goTo_20 ?_
  refine gi_i hf (fun hi7 hj8 hf => ?_)
  refine c_ist C hP cA_69 hi7 dX5_goTo_21 (fun H locs hP => ?_)
  refine sv_i hf (fun S9 e9 hf => ?_)
  rw [← e9] at hP
  refine lv_aload_n hx hb dX5_goTo_22 rfl (lv_at hl 0 rfl) ?_
  refine c0_get C hP 5 (by decide) k1_132 rfl (v := .ref (Γ.2.2 (69))) rfl dX5_goTo_23 ?_
  refine lv_iload_n hx hb dX5_goTo_26 rfl (lv_at hl 1 rfl) ?_
  refine gi_i hf (fun hi10 hj11 hf => ?_)
  refine c_ild C hP cA_69 hi10 dX5_goTo_27 ?_
  exact r_iret (X := cE Γ) C hP hf dX5_goTo_28
-- X5_partedSum
theorem qX5_partedSum : Cond.instanceMethod yX5_partedSum ∈ Ub ∧ Cond.selects RX5 yX5_partedSum yX5_partedSum ∈ Ub ∧ Cond.initialized RX5 ∈ Ub ∧ Cond.code yX5_partedSum cX5_partedSum 7 (some FieldType.int) ∈ Ub ∧ (yX5_partedSum.cls = RX5 ∧ yX5_partedSum.cls ≠ "java/lang/invoke/MethodHandle" ∧ yX5_partedSum.cls ≠ "java/lang/invoke/VarHandle" ∧ (parseMethodDescriptor yX5_partedSum.desc).map (fun d => d.parameters.length) = some 3) := ⟨k2_219, ks_10, k1_1, k2_220, by decide +kernel⟩
def fX5_partedSum_12   : Nat → cM → Int32 → Int32 → Int32 → Int32 → Int32 → Option (Int32 × cM)
  | 0, _, _, _, _, _, _ => none
  | n + 1, S, x2, x3, x4, x5, x6 =>
    if x2 ≤ x6 then some (x4, S) else if x3 ≤ 0 then some (x4, S) else gz x3 (gi (x5 - x5 / x3 * x3) 5 (gi x6 40 (bd (fX5_goTo S (S.1 71 (x5 - x5 / x3 * x3).toNatClampNeg) (S.1 70 (x6).toNatClampNeg)) fun v9 S9 => ( gz x3 ((fX5_partedSum_12   n) S9 x2 x3 (x4 + v9) (x5 / x3) (x6 + (nI 1)))))))
set_option maxHeartbeats 4000000 in
set_option maxRecDepth 100000 in
theorem wX5_partedSum_12 {p : Program} {l : Launch} {e : Env} {s : State} {m : MethodId} {args : Array Value} {below : List Frame} {meth : Method} {c : Code} {Γ : gG} {rz : Int32} {Sz : cM} (C : Cx Γ 74 p s m args meth c RX5 cX5_partedSum 7 (some .int))   : ∀ n : Nat, ∀ (S : cM) (x2 : Int32) (x3 : Int32) (x4 : Int32) (x5 : Int32) (x6 : Int32) , fX5_partedSum_12   n S x2 x3 x4 x5 x6 = some (rz, Sz) → ∀ (H : Heap) (locs : List Loc) (ls : Array Slot), St Γ 74 (cE Γ S) s.heap H locs → lv_has ls 7 [(0, .ref (Γ.2.2 (0))), (2, .int x2), (3, .int x3), (4, .int x4), (5, .int x5), (6, .int x6)] → W p l e { frames := 2, cells := 0, slots := 0, locals := 43 } s m args below meth c H locs 0 0 (MQ below (gQi Γ 74 rz (cE Γ Sz)) args s 0 0 (wA Γ 74)) (F0 m 12 ls []) := by
  obtain ⟨hx, hb, -, -, hown, hts, -, hwx, -⟩ := id C
  intro n
  induction n with
  | zero =>
    intro S x2 x3 x4 x5 x6 hf
    unfold fX5_partedSum_12 at hf
    cases hf
  | succ n ih =>
    intro S x2 x3 x4 x5 x6 hf H locs ls hP hl
    unfold fX5_partedSum_12 at hf
    refine lv_iload hx hb dX5_partedSum_12 (lv_at hl 5 rfl) ?_
    refine lv_iload_n hx hb dX5_partedSum_14 rfl (lv_at hl 1 rfl) ?_
    refine lv_icmp_ge (tgt := 59) hx hb dX5_partedSum_15 (by decide) (fun hc2 => ?_) (fun hc2 => ?_)
    · have hf := if_t hc2 hf
      refine lv_iload hx hb dX5_partedSum_59 (lv_at hl 3 rfl) ?_
      exact r_iret (X := cE Γ) C hP hf dX5_partedSum_61
    · have hf := if_f hc2 hf
      refine lv_iload_n hx hb dX5_partedSum_18 rfl (lv_at hl 2 rfl) ?_
      refine lv_if_le (tgt := 59) hx hb dX5_partedSum_19 (by decide) (fun hc3 => ?_) (fun hc3 => ?_)
      · have hf := if_t hc3 hf
        refine lv_iload hx hb dX5_partedSum_59 (lv_at hl 3 rfl) ?_
        exact r_iret (X := cE Γ) C hP hf dX5_partedSum_61
      · have hf := if_f hc3 hf
        refine lv_iload hx hb dX5_partedSum_22 (lv_at hl 3 rfl) ?_
        refine lv_aload_n hx hb dX5_partedSum_24 rfl (lv_at hl 0 rfl) ?_
        refine lv_aload_n hx hb dX5_partedSum_25 rfl (lv_at hl 0 rfl) ?_
        refine c0_get C hP 7 (by decide) k1_134 rfl (v := .ref (Γ.2.2 (71))) rfl dX5_partedSum_26 ?_
        refine lv_iload hx hb dX5_partedSum_29 (lv_at hl 4 rfl) ?_
        refine lv_iload_n hx hb dX5_partedSum_31 rfl (lv_at hl 2 rfl) ?_
        refine gz_i hf (fun hz4 hf => ?_)
        refine lv_irem hx hb dX5_partedSum_32 hz4 ?_
        refine gi_i hf (fun hi5 hj6 hf => ?_)
        refine c_ild C hP cA_71 hi5 dX5_partedSum_33 ?_
        refine lv_aload_n hx hb dX5_partedSum_34 rfl (lv_at hl 0 rfl) ?_
        refine c0_get C hP 6 (by decide) k1_133 rfl (v := .ref (Γ.2.2 (70))) rfl dX5_partedSum_35 ?_
        refine lv_iload hx hb dX5_partedSum_38 (lv_at hl 5 rfl) ?_
        refine gi_i hf (fun hi7 hj8 hf => ?_)
        refine c_ild C hP cA_70 hi7 dX5_partedSum_40 ?_
        refine bd_i hf (fun v9 S9 hq9 hf => ?_)
        refine goI (runV (rest := [.int x4]) (b := 0) (mX5_goTo l Γ  hq9) C hP hl.1 (by decide) cE0 rfl k2_225 qX5_goTo.1 qX5_goTo.2.1 qX5_goTo.2.2.1 qX5_goTo.2.2.2.1 rfl qX5_goTo.2.2.2.2 ⟨Nat.le_of_ble_eq_true rfl, Nat.le_of_ble_eq_true rfl⟩ ⟨Nat.le_refl 0, Nat.le_refl 0⟩ (Nat.le_of_ble_eq_true rfl) dX5_partedSum_41) hP (fun H locs hP => ?_)
        refine lv_iadd hx hb dX5_partedSum_44 ?_
        refine lv_istore (lv' := [(4, .int (x4 + v9)), (0, .ref (Γ.2.2 (0))), (2, .int x2), (3, .int x3), (5, .int x5), (6, .int x6)]) hx hb dX5_partedSum_45 hl (by decide) rfl (fun ls hl => ?_)
        refine lv_iload hx hb dX5_partedSum_47 (lv_at hl 4 rfl) ?_
        refine lv_iload_n hx hb dX5_partedSum_49 rfl (lv_at hl 3 rfl) ?_
        refine gz_i hf (fun hz10 hf => ?_)
        refine lv_idiv hx hb dX5_partedSum_50 hz10 ?_
        refine lv_istore (lv' := [(5, .int (x5 / x3)), (4, .int (x4 + v9)), (0, .ref (Γ.2.2 (0))), (2, .int x2), (3, .int x3), (6, .int x6)]) hx hb dX5_partedSum_51 hl (by decide) rfl (fun ls hl => ?_)
        refine lv_iinc (v := x6 + (nI 1)) (lv' := [(6, .int (x6 + (nI 1))), (5, .int (x5 / x3)), (4, .int (x4 + v9)), (0, .ref (Γ.2.2 (0))), (2, .int x2), (3, .int x3)]) hx hb dX5_partedSum_53 hl (k := 5) rfl rfl (by decide) rfl (fun ls hl => ?_)
        refine lv_goto (tgt := 12) hx hb dX5_partedSum_56 (by decide) ?_
        exact ih S9 x2 x3 (x4 + v9) (x5 / x3) (x6 + (nI 1))  hf _ _ _ hP (lv_sub hl [3, 4, 5, 2, 1, 0] rfl)
def fX5_partedSum  (S : cM) (x1 : Int32) (x2 : Int32) (x3 : Int32) : Option (Int32 × cM) :=
  bd (fX5_beginWithFirstOnes S) fun v1 S1 => ( fX5_partedSum_12   lF S1 x2 x3 v1 x1 (nI 0))
set_option maxHeartbeats 4000000 in
set_option maxRecDepth 100000 in
theorem mX5_partedSum (l : Launch) (Γ : gG)   {S : cM} {x1 : Int32} {x2 : Int32} {x3 : Int32} {rz : Int32} {Sz : cM} (hf : fX5_partedSum S x1 x2 x3 = some (rz, Sz)) : CtI l Γ 74 yX5_partedSum cX5_partedSum 7 .int 2 43 [.ref (Γ.2.2 (0)), .int x1, .int x2, .int x3] (cE Γ S) rz (cE Γ Sz) := by
  refine met_body (Γ := Γ) (lv := [(0, .ref (Γ.2.2 (0))), (1, .int x1), (2, .int x2), (3, .int x3)]) RX5 (by decide) rfl rfl rfl ?_
  intro p e s m below meth c H locs ls C hP hl
  obtain ⟨hx, hb, -, -, hown, hts, -, hwx, -⟩ := id C
  unfold fX5_partedSum at hf
  refine lv_aload_n hx hb dX5_partedSum_0 rfl (lv_at hl 0 rfl) ?_
  refine bd_i hf (fun v1 S1 hq1 hf => ?_)
  refine goI (runV (rest := []) (b := 0) (mX5_beginWithFirstOnes l Γ  hq1) C hP hl.1 (by decide) cE0 rfl k2_221 qX5_beginWithFirstOnes.1 qX5_beginWithFirstOnes.2.1 qX5_beginWithFirstOnes.2.2.1 qX5_beginWithFirstOnes.2.2.2.1 rfl qX5_beginWithFirstOnes.2.2.2.2 ⟨Nat.le_of_ble_eq_true rfl, Nat.le_of_ble_eq_true rfl⟩ ⟨Nat.le_refl 0, Nat.le_refl 0⟩ (Nat.le_of_ble_eq_true rfl) dX5_partedSum_1) hP (fun H locs hP => ?_)
  refine lv_istore (lv' := [(4, .int v1), (0, .ref (Γ.2.2 (0))), (1, .int x1), (2, .int x2), (3, .int x3)]) hx hb dX5_partedSum_4 hl (by decide) rfl (fun ls hl => ?_)
  refine lv_iload_n hx hb dX5_partedSum_6 rfl (lv_at hl 2 rfl) ?_
  refine lv_istore (lv' := [(5, .int x1), (4, .int v1), (0, .ref (Γ.2.2 (0))), (1, .int x1), (2, .int x2), (3, .int x3)]) hx hb dX5_partedSum_7 hl (by decide) rfl (fun ls hl => ?_)
  refine lv_iconst (v := nI 0) hx hb dX5_partedSum_9 rfl ?_
  refine lv_istore (lv' := [(6, .int (nI 0)), (5, .int x1), (4, .int v1), (0, .ref (Γ.2.2 (0))), (1, .int x1), (2, .int x2), (3, .int x3)]) hx hb dX5_partedSum_10 hl (by decide) rfl (fun ls hl => ?_)
  exact wX5_partedSum_12 C   lF S1 x2 x3 v1 x1 (nI 0)  hf _ _ _ hP (lv_sub hl [3, 5, 6, 2, 1, 0] rfl)
-- X5_least
theorem qX5_least : Cond.instanceMethod yX5_least ∈ Ub ∧ Cond.selects RX5 yX5_least yX5_least ∈ Ub ∧ Cond.initialized RX5 ∈ Ub ∧ Cond.code yX5_least cX5_least 6 (some FieldType.int) ∈ Ub ∧ (yX5_least.cls = RX5 ∧ yX5_least.cls ≠ "java/lang/invoke/MethodHandle" ∧ yX5_least.cls ≠ "java/lang/invoke/VarHandle" ∧ (parseMethodDescriptor yX5_least.desc).map (fun d => d.parameters.length) = some 0) := ⟨k2_202, k2_203, k1_1, k2_204, by decide +kernel⟩
def fX5_least_45   : Nat → cM → Int32 → Int32 → Int32 → Int32 → Int32 → Option (Int32 × cM)
  | 0, _, _, _, _, _, _ => none
  | n + 1, S, x1, x2, x3, x4, x5 =>
    if x3 ≤ x5 then some (x4, S) else bd (fX5_partedSum S x5 x1 x2) fun v8 S8 => ( (fX5_least_45   n) S8 x1 x2 x3 (if v8 < x4 then v8 else x4) (x5 + (nI 1)))
set_option maxHeartbeats 4000000 in
set_option maxRecDepth 100000 in
theorem wX5_least_45 {p : Program} {l : Launch} {e : Env} {s : State} {m : MethodId} {args : Array Value} {below : List Frame} {meth : Method} {c : Code} {Γ : gG} {rz : Int32} {Sz : cM} (C : Cx Γ 74 p s m args meth c RX5 cX5_least 6 (some .int))   : ∀ n : Nat, ∀ (S : cM) (x1 : Int32) (x2 : Int32) (x3 : Int32) (x4 : Int32) (x5 : Int32) , fX5_least_45   n S x1 x2 x3 x4 x5 = some (rz, Sz) → ∀ (H : Heap) (locs : List Loc) (ls : Array Slot), St Γ 74 (cE Γ S) s.heap H locs → lv_has ls 6 [(0, .ref (Γ.2.2 (0))), (1, .int x1), (2, .int x2), (3, .int x3), (4, .int x4), (5, .int x5)] → W p l e { frames := 3, cells := 0, slots := 0, locals := 69 } s m args below meth c H locs 0 0 (MQ below (gQi Γ 74 rz (cE Γ Sz)) args s 0 0 (wA Γ 74)) (F0 m 45 ls []) := by
  obtain ⟨hx, hb, -, -, hown, hts, -, hwx, -⟩ := id C
  intro n
  induction n with
  | zero =>
    intro S x1 x2 x3 x4 x5 hf
    unfold fX5_least_45 at hf
    cases hf
  | succ n ih =>
    intro S x1 x2 x3 x4 x5 hf H locs ls hP hl
    unfold fX5_least_45 at hf
    refine lv_iload hx hb dX5_least_45 (lv_at hl 5 rfl) ?_
    refine lv_iload_n hx hb dX5_least_47 rfl (lv_at hl 3 rfl) ?_
    refine lv_icmp_ge (tgt := 72) hx hb dX5_least_48 (by decide) (fun hc7 => ?_) (fun hc7 => ?_)
    · have hf := if_t hc7 hf
      refine lv_iload hx hb dX5_least_72 (lv_at hl 4 rfl) ?_
      exact r_iret (X := cE Γ) C hP hf dX5_least_74
    · have hf := if_f hc7 hf
      refine lv_iload hx hb dX5_least_51 (lv_at hl 4 rfl) ?_
      refine lv_aload_n hx hb dX5_least_53 rfl (lv_at hl 0 rfl) ?_
      refine lv_iload hx hb dX5_least_54 (lv_at hl 5 rfl) ?_
      refine lv_iload_n hx hb dX5_least_56 rfl (lv_at hl 1 rfl) ?_
      refine lv_iload_n hx hb dX5_least_57 rfl (lv_at hl 2 rfl) ?_
      refine bd_i hf (fun v8 S8 hq8 hf => ?_)
      refine goI (runV (rest := [.int x4]) (b := 0) (mX5_partedSum l Γ  hq8) C hP hl.1 (by decide) cE0 rfl k2_217 qX5_partedSum.1 qX5_partedSum.2.1 qX5_partedSum.2.2.1 qX5_partedSum.2.2.2.1 rfl qX5_partedSum.2.2.2.2 ⟨Nat.le_of_ble_eq_true rfl, Nat.le_of_ble_eq_true rfl⟩ ⟨Nat.le_refl 0, Nat.le_refl 0⟩ (Nat.le_of_ble_eq_true rfl) dX5_least_58) hP (fun H locs hP => ?_)
      refine va_mmin hx hb (by rw [C.2.2.2.1]; exact hl.1.symm) hown (hts _ k2_229) (hts _ k2_49) (hts _ k1_9) (hts _ k2_50) (Nat.le_of_ble_eq_true rfl) (Nat.le_of_ble_eq_true rfl) (Nat.le_refl 0) (Nat.le_refl 0) dX5_least_61 ?_
      refine lv_istore (lv' := [(4, .int (if v8 < x4 then v8 else x4)), (0, .ref (Γ.2.2 (0))), (1, .int x1), (2, .int x2), (3, .int x3), (5, .int x5)]) hx hb dX5_least_64 hl (by decide) rfl (fun ls hl => ?_)
      refine lv_iinc (v := x5 + (nI 1)) (lv' := [(5, .int (x5 + (nI 1))), (4, .int (if v8 < x4 then v8 else x4)), (0, .ref (Γ.2.2 (0))), (1, .int x1), (2, .int x2), (3, .int x3)]) hx hb dX5_least_66 hl (k := 5) rfl rfl (by decide) rfl (fun ls hl => ?_)
      refine lv_goto (tgt := 45) hx hb dX5_least_69 (by decide) ?_
      exact ih S8 x1 x2 x3 (if v8 < x4 then v8 else x4) (x5 + (nI 1))  hf _ _ _ hP (lv_sub hl [2, 3, 4, 5, 1, 0] rfl)
def fX5_least_32   (S : cM) (x1 : Int32) (x2 : Int32) : Option (Int32 × cM) :=
  bd (fX5_power S x2 x1) fun v6 S6 => ( fX5_least_45   lF S6 x1 x2 v6 (nI 2147483647) (nI 0))
set_option maxHeartbeats 4000000 in
set_option maxRecDepth 100000 in
theorem wX5_least_32 {p : Program} {l : Launch} {e : Env} {s : State} {m : MethodId} {args : Array Value} {below : List Frame} {meth : Method} {c : Code} {Γ : gG} {rz : Int32} {Sz : cM} (C : Cx Γ 74 p s m args meth c RX5 cX5_least 6 (some .int))   : ∀ (S : cM) (x1 : Int32) (x2 : Int32) , fX5_least_32   S x1 x2 = some (rz, Sz) → ∀ (H : Heap) (locs : List Loc) (ls : Array Slot), St Γ 74 (cE Γ S) s.heap H locs → lv_has ls 6 [(0, .ref (Γ.2.2 (0))), (1, .int x1), (2, .int x2)] → W p l e { frames := 3, cells := 0, slots := 0, locals := 69 } s m args below meth c H locs 0 0 (MQ below (gQi Γ 74 rz (cE Γ Sz)) args s 0 0 (wA Γ 74)) (F0 m 32 ls []) := by
  obtain ⟨hx, hb, -, -, hown, hts, -, hwx, -⟩ := id C
  intro S x1 x2 hf H locs ls hP hl
  unfold fX5_least_32 at hf
  refine lv_iload_n hx hb dX5_least_32 rfl (lv_at hl 2 rfl) ?_
  refine lv_iload_n hx hb dX5_least_33 rfl (lv_at hl 1 rfl) ?_
  refine bd_i hf (fun v6 S6 hq6 hf => ?_)
  refine goI (runS (rest := []) (mX5_power l Γ  hq6) C hP hl.1 k2_213 qX5_power.1 qX5_power.2.1 qX5_power.2.2.1 rfl qX5_power.2.2.2 ⟨Nat.le_of_ble_eq_true rfl, Nat.le_of_ble_eq_true rfl⟩ ⟨Nat.le_refl 0, Nat.le_refl 0⟩ (Nat.le_of_ble_eq_true rfl) dX5_least_34) hP (fun H locs hP => ?_)
  refine lv_istore_n (lv' := [(3, .int v6), (0, .ref (Γ.2.2 (0))), (1, .int x1), (2, .int x2)]) hx hb dX5_least_37 rfl hl (by decide) rfl (fun ls hl => ?_)
  refine lv_ldc (v := 2147483647) hx hb hown (hts _ k2_216) dX5_least_38 ?_
  rw [show (2147483647 : Int32) = nI 2147483647 from rfl]
  refine lv_istore (lv' := [(4, .int (nI 2147483647)), (3, .int v6), (0, .ref (Γ.2.2 (0))), (1, .int x1), (2, .int x2)]) hx hb dX5_least_40 hl (by decide) rfl (fun ls hl => ?_)
  refine lv_iconst (v := nI 0) hx hb dX5_least_42 rfl ?_
  refine lv_istore (lv' := [(5, .int (nI 0)), (4, .int (nI 2147483647)), (3, .int v6), (0, .ref (Γ.2.2 (0))), (1, .int x1), (2, .int x2)]) hx hb dX5_least_43 hl (by decide) rfl (fun ls hl => ?_)
  exact wX5_least_45 C   lF S6 x1 x2 v6 (nI 2147483647) (nI 0)  hf _ _ _ hP (lv_sub hl [3, 4, 5, 2, 1, 0] rfl)
def fX5_least  (S : cM)  : Option (Int32 × cM) :=
  bd (fX5_gatherLine S) fun v1 S1 => ( bd (fX5_gatherUsable S1) fun v2 S2 => ( if (nI 6) < v1 then some ((-4), S2) else if (nI 3) < v2 then some ((-4), S2) else if v1 ≤ 0 then fX5_least_32    S2 v1 v2 else if v2 = 0 then some ((-4), S2) else fX5_least_32    S2 v1 v2))
set_option maxHeartbeats 4000000 in
set_option maxRecDepth 100000 in
theorem mX5_least (l : Launch) (Γ : gG)   {S : cM}  {rz : Int32} {Sz : cM} (hf : fX5_least S = some (rz, Sz)) : CtI l Γ 74 yX5_least cX5_least 6 .int 3 69 [.ref (Γ.2.2 (0))] (cE Γ S) rz (cE Γ Sz) := by
  refine met_body (Γ := Γ) (lv := [(0, .ref (Γ.2.2 (0)))]) RX5 (by decide) rfl rfl rfl ?_
  intro p e s m below meth c H locs ls C hP hl
  obtain ⟨hx, hb, -, -, hown, hts, -, hwx, -⟩ := id C
  unfold fX5_least at hf
  refine lv_aload_n hx hb dX5_least_0 rfl (lv_at hl 0 rfl) ?_
  refine bd_i hf (fun v1 S1 hq1 hf => ?_)
  refine goI (runV (rest := []) (b := 0) (mX5_gatherLine l Γ  hq1) C hP hl.1 (by decide) cE0 rfl k2_205 qX5_gatherLine.1 qX5_gatherLine.2.1 qX5_gatherLine.2.2.1 qX5_gatherLine.2.2.2.1 rfl qX5_gatherLine.2.2.2.2 ⟨Nat.le_of_ble_eq_true rfl, Nat.le_of_ble_eq_true rfl⟩ ⟨Nat.le_refl 0, Nat.le_refl 0⟩ (Nat.le_of_ble_eq_true rfl) dX5_least_1) hP (fun H locs hP => ?_)
  refine lv_istore_n (lv' := [(1, .int v1), (0, .ref (Γ.2.2 (0)))]) hx hb dX5_least_4 rfl hl (by decide) rfl (fun ls hl => ?_)
  refine lv_aload_n hx hb dX5_least_5 rfl (lv_at hl 1 rfl) ?_
  refine bd_i hf (fun v2 S2 hq2 hf => ?_)
  refine goI (runV (rest := []) (b := 0) (mX5_gatherUsable l Γ  hq2) C hP hl.1 (by decide) cE0 rfl k2_209 qX5_gatherUsable.1 qX5_gatherUsable.2.1 qX5_gatherUsable.2.2.1 qX5_gatherUsable.2.2.2.1 rfl qX5_gatherUsable.2.2.2.2 ⟨Nat.le_of_ble_eq_true rfl, Nat.le_of_ble_eq_true rfl⟩ ⟨Nat.le_refl 0, Nat.le_refl 0⟩ (Nat.le_of_ble_eq_true rfl) dX5_least_6) hP (fun H locs hP => ?_)
  refine lv_istore_n (lv' := [(2, .int v2), (1, .int v1), (0, .ref (Γ.2.2 (0)))]) hx hb dX5_least_9 rfl hl (by decide) rfl (fun ls hl => ?_)
  refine lv_iload_n hx hb dX5_least_10 rfl (lv_at hl 1 rfl) ?_
  refine lv_bipush (v := nI 6) hx hb dX5_least_11 rfl ?_
  refine lv_icmp_gt (tgt := 29) hx hb dX5_least_13 (by decide) (fun hc3 => ?_) (fun hc3 => ?_)
  · have hf := if_t hc3 hf
    refine lv_bipush (v := (-4)) hx hb dX5_least_29 rfl ?_
    exact r_iret (X := cE Γ) C hP hf dX5_least_31
  · have hf := if_f hc3 hf
    refine lv_iload_n hx hb dX5_least_16 rfl (lv_at hl 0 rfl) ?_
    refine lv_iconst (v := nI 3) hx hb dX5_least_17 rfl ?_
    refine lv_icmp_gt (tgt := 29) hx hb dX5_least_18 (by decide) (fun hc4 => ?_) (fun hc4 => ?_)
    · have hf := if_t hc4 hf
      refine lv_bipush (v := (-4)) hx hb dX5_least_29 rfl ?_
      exact r_iret (X := cE Γ) C hP hf dX5_least_31
    · have hf := if_f hc4 hf
      refine lv_iload_n hx hb dX5_least_21 rfl (lv_at hl 1 rfl) ?_
      refine lv_if_le (tgt := 32) hx hb dX5_least_22 (by decide) (fun hc5 => ?_) (fun hc5 => ?_)
      · have hf := if_t hc5 hf
        exact wX5_least_32 C    S2 v1 v2  hf _ _ _ hP (lv_sub hl [2, 1, 0] rfl)
      · have hf := if_f hc5 hf
        refine lv_iload_n hx hb dX5_least_25 rfl (lv_at hl 0 rfl) ?_
        refine lv_if_ne (tgt := 32) hx hb dX5_least_26 (by decide) (fun hc9 => ?_) (fun hc9 => ?_)
        · have hf := if_f hc9 hf
          exact wX5_least_32 C    S2 v1 v2  hf _ _ _ hP (lv_sub hl [2, 1, 0] rfl)
        · have hf := if_t hc9 hf
          refine lv_bipush (v := (-4)) hx hb dX5_least_29 rfl ?_
          exact r_iret (X := cE Γ) C hP hf dX5_least_31
-- X5_firstFree
theorem qX5_firstFree : Cond.instanceMethod yX5_firstFree ∈ Ub ∧ Cond.selects RX5 yX5_firstFree yX5_firstFree ∈ Ub ∧ Cond.initialized RX5 ∈ Ub ∧ Cond.code yX5_firstFree cX5_firstFree 3 (some FieldType.int) ∈ Ub ∧ (yX5_firstFree.cls = RX5 ∧ yX5_firstFree.cls ≠ "java/lang/invoke/MethodHandle" ∧ yX5_firstFree.cls ≠ "java/lang/invoke/VarHandle" ∧ (parseMethodDescriptor yX5_firstFree.desc).map (fun d => d.parameters.length) = some 0) := ⟨k2_236, ks_13, k1_1, k2_237, by decide +kernel⟩
def fX5_firstFree_32  (K4 : cM → Int32 → Int32 → Option (Int32 × cM)) (S : cM) (x1 : Int32) (x2 : Int32) : Option (Int32 × cM) :=
  K4 S x1 (x2 + (nI 1))
set_option maxHeartbeats 4000000 in
set_option maxRecDepth 100000 in
theorem wX5_firstFree_32 {p : Program} {l : Launch} {e : Env} {s : State} {m : MethodId} {args : Array Value} {below : List Frame} {meth : Method} {c : Code} {Γ : gG} {rz : Int32} {Sz : cM} (C : Cx Γ 74 p s m args meth c RX5 cX5_firstFree 3 (some .int))  {K4 : cM → Int32 → Int32 → Option (Int32 × cM)} (hK4 : ∀ (S : cM) (x1 : Int32) (x2 : Int32) , K4 S x1 x2 = some (rz, Sz) → ∀ (H : Heap) (locs : List Loc) (ls : Array Slot), St Γ 74 (cE Γ S) s.heap H locs → lv_has ls 3 [(0, .ref (Γ.2.2 (0))), (1, .int x1), (2, .int x2)] → W p l e { frames := 0, cells := 0, slots := 0, locals := 0 } s m args below meth c H locs 0 0 (MQ below (gQi Γ 74 rz (cE Γ Sz)) args s 0 0 (wA Γ 74)) (F0 m 4 ls [])) : ∀ (S : cM) (x1 : Int32) (x2 : Int32) , fX5_firstFree_32  K4 S x1 x2 = some (rz, Sz) → ∀ (H : Heap) (locs : List Loc) (ls : Array Slot), St Γ 74 (cE Γ S) s.heap H locs → lv_has ls 3 [(0, .ref (Γ.2.2 (0))), (1, .int x1), (2, .int x2)] → W p l e { frames := 0, cells := 0, slots := 0, locals := 0 } s m args below meth c H locs 0 0 (MQ below (gQi Γ 74 rz (cE Γ Sz)) args s 0 0 (wA Γ 74)) (F0 m 32 ls []) := by
  obtain ⟨hx, hb, -, -, hown, hts, -, hwx, -⟩ := id C
  intro S x1 x2 hf H locs ls hP hl
  unfold fX5_firstFree_32 at hf
  refine lv_iinc (v := x2 + (nI 1)) (lv' := [(2, .int (x2 + (nI 1))), (0, .ref (Γ.2.2 (0))), (1, .int x1)]) hx hb dX5_firstFree_32 hl (k := 2) rfl rfl (by decide) rfl (fun ls hl => ?_)
  refine lv_goto (tgt := 4) hx hb dX5_firstFree_35 (by decide) ?_
  exact hK4 S x1 (x2 + (nI 1))  hf _ _ _ hP (lv_sub hl [1, 2, 0] rfl)
def fX5_firstFree_4   : Nat → cM → Int32 → Int32 → Option (Int32 × cM)
  | 0, _, _, _ => none
  | n + 1, S, x1, x2 =>
    gn S.2.1 1 3 (if (S.1 S.2.1 1) ≤ x2 then some (x1, S) else gi x2 5 (gi x1 5 (if (S.1 69 (x1).toNatClampNeg) ≤ (S.1 69 (x2).toNatClampNeg) then fX5_firstFree_32  (fX5_firstFree_4   n)  S x1 x2 else fX5_firstFree_32  (fX5_firstFree_4   n)  S x2 x2)))
set_option maxHeartbeats 4000000 in
set_option maxRecDepth 100000 in
theorem wX5_firstFree_4 {p : Program} {l : Launch} {e : Env} {s : State} {m : MethodId} {args : Array Value} {below : List Frame} {meth : Method} {c : Code} {Γ : gG} {rz : Int32} {Sz : cM} (C : Cx Γ 74 p s m args meth c RX5 cX5_firstFree 3 (some .int))   : ∀ n : Nat, ∀ (S : cM) (x1 : Int32) (x2 : Int32) , fX5_firstFree_4   n S x1 x2 = some (rz, Sz) → ∀ (H : Heap) (locs : List Loc) (ls : Array Slot), St Γ 74 (cE Γ S) s.heap H locs → lv_has ls 3 [(0, .ref (Γ.2.2 (0))), (1, .int x1), (2, .int x2)] → W p l e { frames := 0, cells := 0, slots := 0, locals := 0 } s m args below meth c H locs 0 0 (MQ below (gQi Γ 74 rz (cE Γ Sz)) args s 0 0 (wA Γ 74)) (F0 m 4 ls []) := by
  obtain ⟨hx, hb, -, -, hown, hts, -, hwx, -⟩ := id C
  intro n
  induction n with
  | zero =>
    intro S x1 x2 hf
    unfold fX5_firstFree_4 at hf
    cases hf
  | succ n ih =>
    intro S x1 x2 hf H locs ls hP hl
    unfold fX5_firstFree_4 at hf
    refine lv_iload_n hx hb dX5_firstFree_4 rfl (lv_at hl 2 rfl) ?_
    refine lv_aload_n hx hb dX5_firstFree_5 rfl (lv_at hl 0 rfl) ?_
    refine gn_i hf (fun hN1 hf => ?_)
    refine c0_get C hP 0 (by decide) k1_127 rfl (v := .ref (Γ.2.2 (S.2.1))) rfl dX5_firstFree_6 ?_
    refine c1_get C hP hN1 1 (by decide) k1_75 rfl (v := .int (S.1 S.2.1 1)) rfl dX5_firstFree_9 ?_
    refine lv_icmp_ge (tgt := 38) hx hb dX5_firstFree_12 (by decide) (fun hc2 => ?_) (fun hc2 => ?_)
    · have hf := if_t hc2 hf
      refine lv_iload_n hx hb dX5_firstFree_38 rfl (lv_at hl 1 rfl) ?_
      exact r_iret (X := cE Γ) C hP hf dX5_firstFree_39
    · have hf := if_f hc2 hf
      refine lv_aload_n hx hb dX5_firstFree_15 rfl (lv_at hl 0 rfl) ?_
      refine c0_get C hP 5 (by decide) k1_132 rfl (v := .ref (Γ.2.2 (69))) rfl dX5_firstFree_16 ?_
      refine lv_iload_n hx hb dX5_firstFree_19 rfl (lv_at hl 2 rfl) ?_
      refine gi_i hf (fun hi3 hj4 hf => ?_)
      refine c_ild C hP cA_69 hi3 dX5_firstFree_20 ?_
      refine lv_aload_n hx hb dX5_firstFree_21 rfl (lv_at hl 0 rfl) ?_
      refine c0_get C hP 5 (by decide) k1_132 rfl (v := .ref (Γ.2.2 (69))) rfl dX5_firstFree_22 ?_
      refine lv_iload_n hx hb dX5_firstFree_25 rfl (lv_at hl 1 rfl) ?_
      refine gi_i hf (fun hi5 hj6 hf => ?_)
      refine c_ild C hP cA_69 hi5 dX5_firstFree_26 ?_
      refine lv_icmp_ge (tgt := 32) hx hb dX5_firstFree_27 (by decide) (fun hc7 => ?_) (fun hc7 => ?_)
      · have hf := if_t hc7 hf
        exact wX5_firstFree_32 C  ih  S x1 x2  hf _ _ _ hP (lv_sub hl [0, 1, 2] rfl)
      · have hf := if_f hc7 hf
        refine lv_iload_n hx hb dX5_firstFree_30 rfl (lv_at hl 2 rfl) ?_
        refine lv_istore_n (lv' := [(1, .int x2), (0, .ref (Γ.2.2 (0))), (2, .int x2)]) hx hb dX5_firstFree_31 rfl hl (by decide) rfl (fun ls hl => ?_)
        exact wX5_firstFree_32 C  ih  S x2 x2  hf _ _ _ hP (lv_sub hl [1, 0, 2] rfl)
def fX5_firstFree  (S : cM)  : Option (Int32 × cM) :=
  fX5_firstFree_4   lF S (nI 0) (nI 1)
set_option maxHeartbeats 4000000 in
set_option maxRecDepth 100000 in
theorem mX5_firstFree (l : Launch) (Γ : gG)   {S : cM}  {rz : Int32} {Sz : cM} (hf : fX5_firstFree S = some (rz, Sz)) : CtI l Γ 74 yX5_firstFree cX5_firstFree 3 .int 0 0 [.ref (Γ.2.2 (0))] (cE Γ S) rz (cE Γ Sz) := by
  refine met_body (Γ := Γ) (lv := [(0, .ref (Γ.2.2 (0)))]) RX5 (by decide) rfl rfl rfl ?_
  intro p e s m below meth c H locs ls C hP hl
  obtain ⟨hx, hb, -, -, hown, hts, -, hwx, -⟩ := id C
  unfold fX5_firstFree at hf
  refine lv_iconst (v := nI 0) hx hb dX5_firstFree_0 rfl ?_
  refine lv_istore_n (lv' := [(1, .int (nI 0)), (0, .ref (Γ.2.2 (0)))]) hx hb dX5_firstFree_1 rfl hl (by decide) rfl (fun ls hl => ?_)
  refine lv_iconst (v := nI 1) hx hb dX5_firstFree_2 rfl ?_
  refine lv_istore_n (lv' := [(2, .int (nI 1)), (1, .int (nI 0)), (0, .ref (Γ.2.2 (0)))]) hx hb dX5_firstFree_3 rfl hl (by decide) rfl (fun ls hl => ?_)
  exact wX5_firstFree_4 C   lF S (nI 0) (nI 1)  hf _ _ _ hP (lv_sub hl [2, 1, 0] rfl)
-- X5_oneLine
theorem qX5_oneLine : Cond.instanceMethod yX5_oneLine ∈ Ub ∧ Cond.selects RX5 yX5_oneLine yX5_oneLine ∈ Ub ∧ Cond.initialized RX5 ∈ Ub ∧ Cond.code yX5_oneLine cX5_oneLine 4 (some FieldType.int) ∈ Ub ∧ (yX5_oneLine.cls = RX5 ∧ yX5_oneLine.cls ≠ "java/lang/invoke/MethodHandle" ∧ yX5_oneLine.cls ≠ "java/lang/invoke/VarHandle" ∧ (parseMethodDescriptor yX5_oneLine.desc).map (fun d => d.parameters.length) = some 0) := ⟨k2_231, k2_232, k1_1, k2_233, by decide +kernel⟩
def fX5_oneLine_25   : Nat → cM → Int32 → Int32 → Int32 → Option (Int32 × cM)
  | 0, _, _, _, _ => none
  | n + 1, S, x1, x2, x3 =>
    if x1 ≤ x3 then some (x2, S) else bd (fX5_firstFree S) fun v6 S6 => ( gi x3 40 (bd (fX5_goTo S6 v6 (S6.1 70 (x3).toNatClampNeg)) fun v9 S9 => ( (fX5_oneLine_25   n) S9 x1 (x2 + v9) (x3 + (nI 1)))))
set_option maxHeartbeats 4000000 in
set_option maxRecDepth 100000 in
theorem wX5_oneLine_25 {p : Program} {l : Launch} {e : Env} {s : State} {m : MethodId} {args : Array Value} {below : List Frame} {meth : Method} {c : Code} {Γ : gG} {rz : Int32} {Sz : cM} (C : Cx Γ 74 p s m args meth c RX5 cX5_oneLine 4 (some .int))   : ∀ n : Nat, ∀ (S : cM) (x1 : Int32) (x2 : Int32) (x3 : Int32) , fX5_oneLine_25   n S x1 x2 x3 = some (rz, Sz) → ∀ (H : Heap) (locs : List Loc) (ls : Array Slot), St Γ 74 (cE Γ S) s.heap H locs → lv_has ls 4 [(0, .ref (Γ.2.2 (0))), (1, .int x1), (2, .int x2), (3, .int x3)] → W p l e { frames := 2, cells := 0, slots := 0, locals := 43 } s m args below meth c H locs 0 0 (MQ below (gQi Γ 74 rz (cE Γ Sz)) args s 0 0 (wA Γ 74)) (F0 m 25 ls []) := by
  obtain ⟨hx, hb, -, -, hown, hts, -, hwx, -⟩ := id C
  intro n
  induction n with
  | zero =>
    intro S x1 x2 x3 hf
    unfold fX5_oneLine_25 at hf
    cases hf
  | succ n ih =>
    intro S x1 x2 x3 hf H locs ls hP hl
    unfold fX5_oneLine_25 at hf
    refine lv_iload_n hx hb dX5_oneLine_25 rfl (lv_at hl 3 rfl) ?_
    refine lv_iload_n hx hb dX5_oneLine_26 rfl (lv_at hl 1 rfl) ?_
    refine lv_icmp_ge (tgt := 53) hx hb dX5_oneLine_27 (by decide) (fun hc5 => ?_) (fun hc5 => ?_)
    · have hf := if_t hc5 hf
      refine lv_iload_n hx hb dX5_oneLine_53 rfl (lv_at hl 2 rfl) ?_
      exact r_iret (X := cE Γ) C hP hf dX5_oneLine_54
    · have hf := if_f hc5 hf
      refine lv_iload_n hx hb dX5_oneLine_30 rfl (lv_at hl 2 rfl) ?_
      refine lv_aload_n hx hb dX5_oneLine_31 rfl (lv_at hl 0 rfl) ?_
      refine lv_aload_n hx hb dX5_oneLine_32 rfl (lv_at hl 0 rfl) ?_
      refine bd_i hf (fun v6 S6 hq6 hf => ?_)
      refine goI (runV (rest := [.ref (Γ.2.2 (0)), .int x2]) (b := 0) (mX5_firstFree l Γ  hq6) C hP hl.1 (by decide) cE0 rfl k2_234 qX5_firstFree.1 qX5_firstFree.2.1 qX5_firstFree.2.2.1 qX5_firstFree.2.2.2.1 rfl qX5_firstFree.2.2.2.2 ⟨Nat.le_of_ble_eq_true rfl, Nat.le_of_ble_eq_true rfl⟩ ⟨Nat.le_refl 0, Nat.le_refl 0⟩ (Nat.le_of_ble_eq_true rfl) dX5_oneLine_33) hP (fun H locs hP => ?_)
      refine lv_aload_n hx hb dX5_oneLine_36 rfl (lv_at hl 0 rfl) ?_
      refine c0_get C hP 6 (by decide) k1_133 rfl (v := .ref (Γ.2.2 (70))) rfl dX5_oneLine_37 ?_
      refine lv_iload_n hx hb dX5_oneLine_40 rfl (lv_at hl 3 rfl) ?_
      refine gi_i hf (fun hi7 hj8 hf => ?_)
      refine c_ild C hP cA_70 hi7 dX5_oneLine_41 ?_
      refine bd_i hf (fun v9 S9 hq9 hf => ?_)
      refine goI (runV (rest := [.int x2]) (b := 0) (mX5_goTo l Γ  hq9) C hP hl.1 (by decide) cE0 rfl k2_225 qX5_goTo.1 qX5_goTo.2.1 qX5_goTo.2.2.1 qX5_goTo.2.2.2.1 rfl qX5_goTo.2.2.2.2 ⟨Nat.le_of_ble_eq_true rfl, Nat.le_of_ble_eq_true rfl⟩ ⟨Nat.le_refl 0, Nat.le_refl 0⟩ (Nat.le_of_ble_eq_true rfl) dX5_oneLine_42) hP (fun H locs hP => ?_)
      refine lv_iadd hx hb dX5_oneLine_45 ?_
      refine lv_istore_n (lv' := [(2, .int (x2 + v9)), (0, .ref (Γ.2.2 (0))), (1, .int x1), (3, .int x3)]) hx hb dX5_oneLine_46 rfl hl (by decide) rfl (fun ls hl => ?_)
      refine lv_iinc (v := x3 + (nI 1)) (lv' := [(3, .int (x3 + (nI 1))), (2, .int (x2 + v9)), (0, .ref (Γ.2.2 (0))), (1, .int x1)]) hx hb dX5_oneLine_47 hl (k := 3) rfl rfl (by decide) rfl (fun ls hl => ?_)
      refine lv_goto (tgt := 25) hx hb dX5_oneLine_50 (by decide) ?_
      exact ih S9 x1 (x2 + v9) (x3 + (nI 1))  hf _ _ _ hP (lv_sub hl [2, 3, 1, 0] rfl)
def fX5_oneLine  (S : cM)  : Option (Int32 × cM) :=
  gn S.2.1 1 3 (if (S.1 S.2.1 1) = 0 then some ((-4), S) else bd (fX5_gatherLine S) fun v3 S3 => ( bd (fX5_beginWithFirstOnes S3) fun v4 S4 => ( fX5_oneLine_25   lF S4 v3 v4 (nI 0))))
set_option maxHeartbeats 4000000 in
set_option maxRecDepth 100000 in
theorem mX5_oneLine (l : Launch) (Γ : gG)   {S : cM}  {rz : Int32} {Sz : cM} (hf : fX5_oneLine S = some (rz, Sz)) : CtI l Γ 74 yX5_oneLine cX5_oneLine 4 .int 2 43 [.ref (Γ.2.2 (0))] (cE Γ S) rz (cE Γ Sz) := by
  refine met_body (Γ := Γ) (lv := [(0, .ref (Γ.2.2 (0)))]) RX5 (by decide) rfl rfl rfl ?_
  intro p e s m below meth c H locs ls C hP hl
  obtain ⟨hx, hb, -, -, hown, hts, -, hwx, -⟩ := id C
  unfold fX5_oneLine at hf
  refine lv_aload_n hx hb dX5_oneLine_0 rfl (lv_at hl 0 rfl) ?_
  refine gn_i hf (fun hN1 hf => ?_)
  refine c0_get C hP 0 (by decide) k1_127 rfl (v := .ref (Γ.2.2 (S.2.1))) rfl dX5_oneLine_1 ?_
  refine c1_get C hP hN1 1 (by decide) k1_75 rfl (v := .int (S.1 S.2.1 1)) rfl dX5_oneLine_4 ?_
  refine lv_if_ne (tgt := 13) hx hb dX5_oneLine_7 (by decide) (fun hc2 => ?_) (fun hc2 => ?_)
  · have hf := if_f hc2 hf
    refine lv_aload_n hx hb dX5_oneLine_13 rfl (lv_at hl 0 rfl) ?_
    refine bd_i hf (fun v3 S3 hq3 hf => ?_)
    refine goI (runV (rest := []) (b := 0) (mX5_gatherLine l Γ  hq3) C hP hl.1 (by decide) cE0 rfl k2_205 qX5_gatherLine.1 qX5_gatherLine.2.1 qX5_gatherLine.2.2.1 qX5_gatherLine.2.2.2.1 rfl qX5_gatherLine.2.2.2.2 ⟨Nat.le_of_ble_eq_true rfl, Nat.le_of_ble_eq_true rfl⟩ ⟨Nat.le_refl 0, Nat.le_refl 0⟩ (Nat.le_of_ble_eq_true rfl) dX5_oneLine_14) hP (fun H locs hP => ?_)
    refine lv_istore_n (lv' := [(1, .int v3), (0, .ref (Γ.2.2 (0)))]) hx hb dX5_oneLine_17 rfl hl (by decide) rfl (fun ls hl => ?_)
    refine lv_aload_n hx hb dX5_oneLine_18 rfl (lv_at hl 1 rfl) ?_
    refine bd_i hf (fun v4 S4 hq4 hf => ?_)
    refine goI (runV (rest := []) (b := 0) (mX5_beginWithFirstOnes l Γ  hq4) C hP hl.1 (by decide) cE0 rfl k2_221 qX5_beginWithFirstOnes.1 qX5_beginWithFirstOnes.2.1 qX5_beginWithFirstOnes.2.2.1 qX5_beginWithFirstOnes.2.2.2.1 rfl qX5_beginWithFirstOnes.2.2.2.2 ⟨Nat.le_of_ble_eq_true rfl, Nat.le_of_ble_eq_true rfl⟩ ⟨Nat.le_refl 0, Nat.le_refl 0⟩ (Nat.le_of_ble_eq_true rfl) dX5_oneLine_19) hP (fun H locs hP => ?_)
    refine lv_istore_n (lv' := [(2, .int v4), (1, .int v3), (0, .ref (Γ.2.2 (0)))]) hx hb dX5_oneLine_22 rfl hl (by decide) rfl (fun ls hl => ?_)
    refine lv_iconst (v := nI 0) hx hb dX5_oneLine_23 rfl ?_
    refine lv_istore_n (lv' := [(3, .int (nI 0)), (2, .int v4), (1, .int v3), (0, .ref (Γ.2.2 (0)))]) hx hb dX5_oneLine_24 rfl hl (by decide) rfl (fun ls hl => ?_)
    exact wX5_oneLine_25 C   lF S4 v3 v4 (nI 0)  hf _ _ _ hP (lv_sub hl [3, 2, 1, 0] rfl)
  · have hf := if_t hc2 hf
    refine lv_bipush (v := (-4)) hx hb dX5_oneLine_10 rfl ?_
    exact r_iret (X := cE Γ) C hP hf dX5_oneLine_12
-- X5_beside
theorem qX5_beside : Cond.instanceMethod yX5_beside ∈ Ub ∧ Cond.selects RX5 yX5_beside yX5_beside ∈ Ub ∧ Cond.initialized RX5 ∈ Ub ∧ Cond.code yX5_beside cX5_beside 8 (some FieldType.int) ∈ Ub ∧ (yX5_beside.cls = RX5 ∧ yX5_beside.cls ≠ "java/lang/invoke/MethodHandle" ∧ yX5_beside.cls ≠ "java/lang/invoke/VarHandle" ∧ (parseMethodDescriptor yX5_beside.desc).map (fun d => d.parameters.length) = some 3) := ⟨k2_239, k3_0, k1_1, k3_1, by decide +kernel⟩
def fX5_beside_121  (K58 : cM → Int32 → Int32 → Int32 → Int32 → Int32 → Option (Int32 × cM)) (S : cM) (x1 : Int32) (x2 : Int32) (x3 : Int32) (x4 : Int32) (x5 : Int32) : Option (Int32 × cM) :=
  K58 S x1 x2 x3 x4 (x5 + (nI 1))
set_option maxHeartbeats 4000000 in
set_option maxRecDepth 100000 in
theorem wX5_beside_121 {p : Program} {l : Launch} {e : Env} {s : State} {m : MethodId} {args : Array Value} {below : List Frame} {meth : Method} {c : Code} {Γ : gG} {rz : Int32} {Sz : cM} (C : Cx Γ 74 p s m args meth c RX5 cX5_beside 8 (some .int))  {K58 : cM → Int32 → Int32 → Int32 → Int32 → Int32 → Option (Int32 × cM)} (hK58 : ∀ (S : cM) (x1 : Int32) (x2 : Int32) (x3 : Int32) (x4 : Int32) (x5 : Int32) , K58 S x1 x2 x3 x4 x5 = some (rz, Sz) → ∀ (H : Heap) (locs : List Loc) (ls : Array Slot), St Γ 74 (cE Γ S) s.heap H locs → lv_has ls 8 [(0, .ref (Γ.2.2 (0))), (1, .int x1), (2, .int x2), (3, .int x3), (4, .int x4), (5, .int x5)] → W p l e { frames := 3, cells := 0, slots := 0, locals := 69 } s m args below meth c H locs 0 0 (MQ below (gQi Γ 74 rz (cE Γ Sz)) args s 0 0 (wA Γ 74)) (F0 m 58 ls [])) : ∀ (S : cM) (x1 : Int32) (x2 : Int32) (x3 : Int32) (x4 : Int32) (x5 : Int32) , fX5_beside_121  K58 S x1 x2 x3 x4 x5 = some (rz, Sz) → ∀ (H : Heap) (locs : List Loc) (ls : Array Slot), St Γ 74 (cE Γ S) s.heap H locs → lv_has ls 8 [(0, .ref (Γ.2.2 (0))), (1, .int x1), (2, .int x2), (3, .int x3), (4, .int x4), (5, .int x5)] → W p l e { frames := 3, cells := 0, slots := 0, locals := 69 } s m args below meth c H locs 0 0 (MQ below (gQi Γ 74 rz (cE Γ Sz)) args s 0 0 (wA Γ 74)) (F0 m 121 ls []) := by
  obtain ⟨hx, hb, -, -, hown, hts, -, hwx, -⟩ := id C
  intro S x1 x2 x3 x4 x5 hf H locs ls hP hl
  unfold fX5_beside_121 at hf
  refine lv_iinc (v := x5 + (nI 1)) (lv' := [(5, .int (x5 + (nI 1))), (0, .ref (Γ.2.2 (0))), (1, .int x1), (2, .int x2), (3, .int x3), (4, .int x4)]) hx hb dX5_beside_121 hl (k := 5) rfl rfl (by decide) rfl (fun ls hl => ?_)
  refine lv_goto (tgt := 58) hx hb dX5_beside_124 (by decide) ?_
  exact hK58 S x1 x2 x3 x4 (x5 + (nI 1))  hf _ _ _ hP (lv_sub hl [1, 2, 3, 4, 5, 0] rfl)
def fX5_beside_108  (K58 : cM → Int32 → Int32 → Int32 → Int32 → Int32 → Option (Int32 × cM)) (S : cM) (x1 : Int32) (x2 : Int32) (x3 : Int32) (x4 : Int32) (x5 : Int32) (x6 : Int32) (x7 : Int32) : Option (Int32 × cM) :=
  if x6 = 0 then fX5_beside_121  K58  S x1 x2 x3 x4 x5 else if x7 = 0 then fX5_beside_121  K58  S x1 x2 x3 (x4 + (-1)) x5 else fX5_beside_121  K58  S x1 x2 x3 x4 x5
set_option maxHeartbeats 4000000 in
set_option maxRecDepth 100000 in
theorem wX5_beside_108 {p : Program} {l : Launch} {e : Env} {s : State} {m : MethodId} {args : Array Value} {below : List Frame} {meth : Method} {c : Code} {Γ : gG} {rz : Int32} {Sz : cM} (C : Cx Γ 74 p s m args meth c RX5 cX5_beside 8 (some .int))  {K58 : cM → Int32 → Int32 → Int32 → Int32 → Int32 → Option (Int32 × cM)} (hK58 : ∀ (S : cM) (x1 : Int32) (x2 : Int32) (x3 : Int32) (x4 : Int32) (x5 : Int32) , K58 S x1 x2 x3 x4 x5 = some (rz, Sz) → ∀ (H : Heap) (locs : List Loc) (ls : Array Slot), St Γ 74 (cE Γ S) s.heap H locs → lv_has ls 8 [(0, .ref (Γ.2.2 (0))), (1, .int x1), (2, .int x2), (3, .int x3), (4, .int x4), (5, .int x5)] → W p l e { frames := 3, cells := 0, slots := 0, locals := 69 } s m args below meth c H locs 0 0 (MQ below (gQi Γ 74 rz (cE Γ Sz)) args s 0 0 (wA Γ 74)) (F0 m 58 ls [])) : ∀ (S : cM) (x1 : Int32) (x2 : Int32) (x3 : Int32) (x4 : Int32) (x5 : Int32) (x6 : Int32) (x7 : Int32) , fX5_beside_108  K58 S x1 x2 x3 x4 x5 x6 x7 = some (rz, Sz) → ∀ (H : Heap) (locs : List Loc) (ls : Array Slot), St Γ 74 (cE Γ S) s.heap H locs → lv_has ls 8 [(0, .ref (Γ.2.2 (0))), (1, .int x1), (2, .int x2), (3, .int x3), (4, .int x4), (5, .int x5), (6, .int x6), (7, .int x7)] → W p l e { frames := 3, cells := 0, slots := 0, locals := 69 } s m args below meth c H locs 0 0 (MQ below (gQi Γ 74 rz (cE Γ Sz)) args s 0 0 (wA Γ 74)) (F0 m 108 ls []) := by
  obtain ⟨hx, hb, -, -, hown, hts, -, hwx, -⟩ := id C
  intro S x1 x2 x3 x4 x5 x6 x7 hf H locs ls hP hl
  unfold fX5_beside_108 at hf
  refine lv_iload hx hb dX5_beside_108 (lv_at hl 6 rfl) ?_
  refine lv_if_eq (tgt := 121) hx hb dX5_beside_110 (by decide) (fun hc23 => ?_) (fun hc23 => ?_)
  · have hf := if_t hc23 hf
    exact wX5_beside_121 C  hK58  S x1 x2 x3 x4 x5  hf _ _ _ hP (lv_sub hl [0, 1, 2, 3, 4, 5] rfl)
  · have hf := if_f hc23 hf
    refine lv_iload hx hb dX5_beside_113 (lv_at hl 7 rfl) ?_
    refine lv_if_ne (tgt := 121) hx hb dX5_beside_115 (by decide) (fun hc24 => ?_) (fun hc24 => ?_)
    · have hf := if_f hc24 hf
      exact wX5_beside_121 C  hK58  S x1 x2 x3 x4 x5  hf _ _ _ hP (lv_sub hl [0, 1, 2, 3, 4, 5] rfl)
    · have hf := if_t hc24 hf
      refine lv_iinc (v := x4 + (-1)) (lv' := [(4, .int (x4 + (-1))), (0, .ref (Γ.2.2 (0))), (1, .int x1), (2, .int x2), (3, .int x3), (5, .int x5), (6, .int x6), (7, .int x7)]) hx hb dX5_beside_118 hl (k := 4) rfl rfl (by decide) rfl (fun ls hl => ?_)
      exact wX5_beside_121 C  hK58  S x1 x2 x3 (x4 + (-1)) x5  hf _ _ _ hP (lv_sub hl [1, 2, 3, 4, 0, 5] rfl)
def fX5_beside_58   : Nat → cM → Int32 → Int32 → Int32 → Int32 → Int32 → Option (Int32 × cM)
  | 0, _, _, _, _, _, _ => none
  | n + 1, S, x1, x2, x3, x4, x5 =>
    if x3 ≤ x5 then some (x4, S) else gn S.2.2 1 3 (gi x1 5 (bd (fX3_minuteGoes (5 * S.2.2 + 2 + (x1).toNatClampNeg) S) fun v17 S17 => ( gn S17.2.2 1 3 (gi x2 5 (bd (fX3_minuteGoes (5 * S17.2.2 + 2 + (x2).toNatClampNeg) S17) fun v21 S21 => ( if v21 = 0 then fX5_beside_108  (fX5_beside_58   n)  S21 x1 x2 x3 x4 x5 v17 v21 else if v17 = 0 then fX5_beside_121  (fX5_beside_58   n)  S21 x1 x2 x3 (x4 + (nI 1)) x5 else fX5_beside_108  (fX5_beside_58   n)  S21 x1 x2 x3 x4 x5 v17 v21))))))
set_option maxHeartbeats 4000000 in
set_option maxRecDepth 100000 in
theorem wX5_beside_58 {p : Program} {l : Launch} {e : Env} {s : State} {m : MethodId} {args : Array Value} {below : List Frame} {meth : Method} {c : Code} {Γ : gG} {rz : Int32} {Sz : cM} (C : Cx Γ 74 p s m args meth c RX5 cX5_beside 8 (some .int))   : ∀ n : Nat, ∀ (S : cM) (x1 : Int32) (x2 : Int32) (x3 : Int32) (x4 : Int32) (x5 : Int32) , fX5_beside_58   n S x1 x2 x3 x4 x5 = some (rz, Sz) → ∀ (H : Heap) (locs : List Loc) (ls : Array Slot), St Γ 74 (cE Γ S) s.heap H locs → lv_has ls 8 [(0, .ref (Γ.2.2 (0))), (1, .int x1), (2, .int x2), (3, .int x3), (4, .int x4), (5, .int x5)] → W p l e { frames := 3, cells := 0, slots := 0, locals := 69 } s m args below meth c H locs 0 0 (MQ below (gQi Γ 74 rz (cE Γ Sz)) args s 0 0 (wA Γ 74)) (F0 m 58 ls []) := by
  obtain ⟨hx, hb, -, -, hown, hts, -, hwx, -⟩ := id C
  intro n
  induction n with
  | zero =>
    intro S x1 x2 x3 x4 x5 hf
    unfold fX5_beside_58 at hf
    cases hf
  | succ n ih =>
    intro S x1 x2 x3 x4 x5 hf H locs ls hP hl
    unfold fX5_beside_58 at hf
    refine lv_iload hx hb dX5_beside_58 (lv_at hl 5 rfl) ?_
    refine lv_iload_n hx hb dX5_beside_60 rfl (lv_at hl 3 rfl) ?_
    refine lv_icmp_ge (tgt := 127) hx hb dX5_beside_61 (by decide) (fun hc13 => ?_) (fun hc13 => ?_)
    · have hf := if_t hc13 hf
      refine lv_iload hx hb dX5_beside_127 (lv_at hl 4 rfl) ?_
      exact r_iret (X := cE Γ) C hP hf dX5_beside_129
    · have hf := if_f hc13 hf
      refine lv_aload_n hx hb dX5_beside_64 rfl (lv_at hl 0 rfl) ?_
      refine gn_i hf (fun hN14 hf => ?_)
      refine c0_get C hP 1 (by decide) k1_128 rfl (v := .ref (Γ.2.2 (S.2.2))) rfl dX5_beside_65 ?_
      refine c1_get C hP hN14 0 (by decide) k1_71 rfl (v := .ref (Γ.2.2 (S.2.2 + 3))) rfl dX5_beside_68 ?_
      refine lv_iload_n hx hb dX5_beside_71 rfl (lv_at hl 1 rfl) ?_
      refine gi_i hf (fun hi15 hj16 hf => ?_)
      refine c_aldQ (q := S.2.2) C hP hN14 hi15 dX5_beside_72 ?_
      refine bd_i hf (fun v17 S17 hq17 hf => ?_)
      refine goI (runV (rest := []) (mX3_minuteGoes l Γ (by omega) hq17) C hP hl.1 (by have := (show 7 ≤ 5 * S.2.2 + 2 + (x1).toNatClampNeg ∧ 5 * S.2.2 + 2 + (x1).toNatClampNeg ≤ 21 by omega); omega) (cE3 (by omega)) rfl k3_2 qX3_minuteGoes.1 qX3_minuteGoes.2.1 qX3_minuteGoes.2.2.1 qX3_minuteGoes.2.2.2.1 rfl qX3_minuteGoes.2.2.2.2 ⟨Nat.le_of_ble_eq_true rfl, Nat.le_of_ble_eq_true rfl⟩ ⟨Nat.le_refl 0, Nat.le_refl 0⟩ (Nat.le_of_ble_eq_true rfl) dX5_beside_73) hP (fun H locs hP => ?_)
      refine lv_istore (lv' := [(6, .int v17), (0, .ref (Γ.2.2 (0))), (1, .int x1), (2, .int x2), (3, .int x3), (4, .int x4), (5, .int x5)]) hx hb dX5_beside_76 hl (by decide) rfl (fun ls hl => ?_)
      refine lv_aload_n hx hb dX5_beside_78 rfl (lv_at hl 1 rfl) ?_
      refine gn_i hf (fun hN18 hf => ?_)
      refine c0_get C hP 1 (by decide) k1_128 rfl (v := .ref (Γ.2.2 (S17.2.2))) rfl dX5_beside_79 ?_
      refine c1_get C hP hN18 0 (by decide) k1_71 rfl (v := .ref (Γ.2.2 (S17.2.2 + 3))) rfl dX5_beside_82 ?_
      refine lv_iload_n hx hb dX5_beside_85 rfl (lv_at hl 3 rfl) ?_
      refine gi_i hf (fun hi19 hj20 hf => ?_)
      refine c_aldQ (q := S17.2.2) C hP hN18 hi19 dX5_beside_86 ?_
      refine bd_i hf (fun v21 S21 hq21 hf => ?_)
      refine goI (runV (rest := []) (mX3_minuteGoes l Γ (by omega) hq21) C hP hl.1 (by have := (show 7 ≤ 5 * S17.2.2 + 2 + (x2).toNatClampNeg ∧ 5 * S17.2.2 + 2 + (x2).toNatClampNeg ≤ 21 by omega); omega) (cE3 (by omega)) rfl k3_2 qX3_minuteGoes.1 qX3_minuteGoes.2.1 qX3_minuteGoes.2.2.1 qX3_minuteGoes.2.2.2.1 rfl qX3_minuteGoes.2.2.2.2 ⟨Nat.le_of_ble_eq_true rfl, Nat.le_of_ble_eq_true rfl⟩ ⟨Nat.le_refl 0, Nat.le_refl 0⟩ (Nat.le_of_ble_eq_true rfl) dX5_beside_87) hP (fun H locs hP => ?_)
      refine lv_istore (lv' := [(7, .int v21), (6, .int v17), (0, .ref (Γ.2.2 (0))), (1, .int x1), (2, .int x2), (3, .int x3), (4, .int x4), (5, .int x5)]) hx hb dX5_beside_90 hl (by decide) rfl (fun ls hl => ?_)
      refine lv_iload hx hb dX5_beside_92 (lv_at hl 0 rfl) ?_
      refine lv_if_eq (tgt := 108) hx hb dX5_beside_94 (by decide) (fun hc22 => ?_) (fun hc22 => ?_)
      · have hf := if_t hc22 hf
        exact wX5_beside_108 C  ih  S21 x1 x2 x3 x4 x5 v17 v21  hf _ _ _ hP (lv_sub hl [2, 3, 4, 5, 6, 7, 1, 0] rfl)
      · have hf := if_f hc22 hf
        refine lv_iload hx hb dX5_beside_97 (lv_at hl 1 rfl) ?_
        refine lv_if_ne (tgt := 108) hx hb dX5_beside_99 (by decide) (fun hc25 => ?_) (fun hc25 => ?_)
        · have hf := if_f hc25 hf
          exact wX5_beside_108 C  ih  S21 x1 x2 x3 x4 x5 v17 v21  hf _ _ _ hP (lv_sub hl [2, 3, 4, 5, 6, 7, 1, 0] rfl)
        · have hf := if_t hc25 hf
          refine lv_iinc (v := x4 + (nI 1)) (lv' := [(4, .int (x4 + (nI 1))), (7, .int v21), (6, .int v17), (0, .ref (Γ.2.2 (0))), (1, .int x1), (2, .int x2), (3, .int x3), (5, .int x5)]) hx hb dX5_beside_102 hl (k := 6) rfl rfl (by decide) rfl (fun ls hl => ?_)
          refine lv_goto (tgt := 121) hx hb dX5_beside_105 (by decide) ?_
          exact wX5_beside_121 C  ih  S21 x1 x2 x3 (x4 + (nI 1)) x5  hf _ _ _ hP (lv_sub hl [3, 4, 5, 6, 0, 7] rfl)
def fX5_beside  (S : cM) (x1 : Int32) (x2 : Int32) (x3 : Int32) : Option (Int32 × cM) :=
  gn S.2.1 1 3 (bd (fX1_has S.2.1 S x1) fun v2 S2 => ( if v2 = 0 then some ((-1000000001), S2) else gn S2.2.1 1 3 (bd (fX1_has S2.2.1 S2 x2) fun v5 S5 => ( if v5 = 0 then some ((-1000000001), S5) else if x1 = x2 then some ((-1000000001), S5) else if x3 < (nI 1) then some ((-1000000001), S5) else if x3 ≤ (nI 60) then gn S5.2.2 1 3 (gn S5.2.1 1 3 (bv (fX1_becomeLike S5.2.2 S5.2.1 S5) fun S12 => ( fX5_beside_58   lF S12 x1 x2 x3 (nI 0) (nI 0)))) else some ((-1000000001), S5)))))
set_option maxHeartbeats 4000000 in
set_option maxRecDepth 100000 in
theorem mX5_beside (l : Launch) (Γ : gG)   {S : cM} {x1 : Int32} {x2 : Int32} {x3 : Int32} {rz : Int32} {Sz : cM} (hf : fX5_beside S x1 x2 x3 = some (rz, Sz)) : CtI l Γ 74 yX5_beside cX5_beside 8 .int 3 69 [.ref (Γ.2.2 (0)), .int x1, .int x2, .int x3] (cE Γ S) rz (cE Γ Sz) := by
  refine met_body (Γ := Γ) (lv := [(0, .ref (Γ.2.2 (0))), (1, .int x1), (2, .int x2), (3, .int x3)]) RX5 (by decide) rfl rfl rfl ?_
  intro p e s m below meth c H locs ls C hP hl
  obtain ⟨hx, hb, -, -, hown, hts, -, hwx, -⟩ := id C
  unfold fX5_beside at hf
  refine lv_aload_n hx hb dX5_beside_0 rfl (lv_at hl 0 rfl) ?_
  refine gn_i hf (fun hN1 hf => ?_)
  refine c0_get C hP 0 (by decide) k1_127 rfl (v := .ref (Γ.2.2 (S.2.1))) rfl dX5_beside_1 ?_
  refine lv_iload_n hx hb dX5_beside_4 rfl (lv_at hl 1 rfl) ?_
  refine bd_i hf (fun v2 S2 hq2 hf => ?_)
  refine goI (runV (rest := []) (mX1_has l Γ hN1 hq2) C hP hl.1 (by have := hN1; omega) (cE1 hN1) rfl k2_29 qX1_has.1 qX1_has.2.1 qX1_has.2.2.1 qX1_has.2.2.2.1 rfl qX1_has.2.2.2.2 ⟨Nat.le_of_ble_eq_true rfl, Nat.le_of_ble_eq_true rfl⟩ ⟨Nat.le_refl 0, Nat.le_refl 0⟩ (Nat.le_of_ble_eq_true rfl) dX5_beside_5) hP (fun H locs hP => ?_)
  refine lv_if_eq (tgt := 38) hx hb dX5_beside_8 (by decide) (fun hc3 => ?_) (fun hc3 => ?_)
  · have hf := if_t hc3 hf
    refine lv_ldc (v := -1000000001) hx hb hown (hts _ k2_153) dX5_beside_38 ?_
    exact r_iret (X := cE Γ) C hP hf dX5_beside_40
  · have hf := if_f hc3 hf
    refine lv_aload_n hx hb dX5_beside_11 rfl (lv_at hl 0 rfl) ?_
    refine gn_i hf (fun hN4 hf => ?_)
    refine c0_get C hP 0 (by decide) k1_127 rfl (v := .ref (Γ.2.2 (S2.2.1))) rfl dX5_beside_12 ?_
    refine lv_iload_n hx hb dX5_beside_15 rfl (lv_at hl 2 rfl) ?_
    refine bd_i hf (fun v5 S5 hq5 hf => ?_)
    refine goI (runV (rest := []) (mX1_has l Γ hN4 hq5) C hP hl.1 (by have := hN4; omega) (cE1 hN4) rfl k2_29 qX1_has.1 qX1_has.2.1 qX1_has.2.2.1 qX1_has.2.2.2.1 rfl qX1_has.2.2.2.2 ⟨Nat.le_of_ble_eq_true rfl, Nat.le_of_ble_eq_true rfl⟩ ⟨Nat.le_refl 0, Nat.le_refl 0⟩ (Nat.le_of_ble_eq_true rfl) dX5_beside_16) hP (fun H locs hP => ?_)
    refine lv_if_eq (tgt := 38) hx hb dX5_beside_19 (by decide) (fun hc6 => ?_) (fun hc6 => ?_)
    · have hf := if_t hc6 hf
      refine lv_ldc (v := -1000000001) hx hb hown (hts _ k2_153) dX5_beside_38 ?_
      exact r_iret (X := cE Γ) C hP hf dX5_beside_40
    · have hf := if_f hc6 hf
      refine lv_iload_n hx hb dX5_beside_22 rfl (lv_at hl 1 rfl) ?_
      refine lv_iload_n hx hb dX5_beside_23 rfl (lv_at hl 2 rfl) ?_
      refine lv_icmp_eq (tgt := 38) hx hb dX5_beside_24 (by decide) (fun hc7 => ?_) (fun hc7 => ?_)
      · have hf := if_t hc7 hf
        refine lv_ldc (v := -1000000001) hx hb hown (hts _ k2_153) dX5_beside_38 ?_
        exact r_iret (X := cE Γ) C hP hf dX5_beside_40
      · have hf := if_f hc7 hf
        refine lv_iload_n hx hb dX5_beside_27 rfl (lv_at hl 3 rfl) ?_
        refine lv_iconst (v := nI 1) hx hb dX5_beside_28 rfl ?_
        refine lv_icmp_lt (tgt := 38) hx hb dX5_beside_29 (by decide) (fun hc8 => ?_) (fun hc8 => ?_)
        · have hf := if_t hc8 hf
          refine lv_ldc (v := -1000000001) hx hb hown (hts _ k2_153) dX5_beside_38 ?_
          exact r_iret (X := cE Γ) C hP hf dX5_beside_40
        · have hf := if_f hc8 hf
          refine lv_iload_n hx hb dX5_beside_32 rfl (lv_at hl 3 rfl) ?_
          refine lv_bipush (v := nI 60) hx hb dX5_beside_33 rfl ?_
          refine lv_icmp_le (tgt := 41) hx hb dX5_beside_35 (by decide) (fun hc9 => ?_) (fun hc9 => ?_)
          · have hf := if_t hc9 hf
            refine lv_aload_n hx hb dX5_beside_41 rfl (lv_at hl 0 rfl) ?_
            refine gn_i hf (fun hN10 hf => ?_)
            refine c0_get C hP 1 (by decide) k1_128 rfl (v := .ref (Γ.2.2 (S5.2.2))) rfl dX5_beside_42 ?_
            refine lv_aload_n hx hb dX5_beside_45 rfl (lv_at hl 0 rfl) ?_
            refine gn_i hf (fun hN11 hf => ?_)
            refine c0_get C hP 0 (by decide) k1_127 rfl (v := .ref (Γ.2.2 (S5.2.1))) rfl dX5_beside_46 ?_
            refine bv_i hf (fun S12 hq12 hf => ?_)
            refine goV (runV (rest := []) (mX1_becomeLike l Γ hN10 hN11 hq12) C hP hl.1 (by have := hN10; omega) (cE1 hN10) rfl k1_189 qX1_becomeLike.1 qX1_becomeLike.2.1 qX1_becomeLike.2.2.1 qX1_becomeLike.2.2.2.1 rfl qX1_becomeLike.2.2.2.2 ⟨Nat.le_of_ble_eq_true rfl, Nat.le_of_ble_eq_true rfl⟩ ⟨Nat.le_refl 0, Nat.le_refl 0⟩ (Nat.le_of_ble_eq_true rfl) dX5_beside_49) hP (fun H locs hP => ?_)
            refine lv_iconst (v := nI 0) hx hb dX5_beside_52 rfl ?_
            refine lv_istore (lv' := [(4, .int (nI 0)), (0, .ref (Γ.2.2 (0))), (1, .int x1), (2, .int x2), (3, .int x3)]) hx hb dX5_beside_53 hl (by decide) rfl (fun ls hl => ?_)
            refine lv_iconst (v := nI 0) hx hb dX5_beside_55 rfl ?_
            refine lv_istore (lv' := [(5, .int (nI 0)), (4, .int (nI 0)), (0, .ref (Γ.2.2 (0))), (1, .int x1), (2, .int x2), (3, .int x3)]) hx hb dX5_beside_56 hl (by decide) rfl (fun ls hl => ?_)
            exact wX5_beside_58 C   lF S12 x1 x2 x3 (nI 0) (nI 0)  hf _ _ _ hP (lv_sub hl [2, 3, 4, 5, 1, 0] rfl)
          · have hf := if_f hc9 hf
            refine lv_ldc (v := -1000000001) hx hb hown (hts _ k2_153) dX5_beside_38 ?_
            exact r_iret (X := cE Γ) C hP hf dX5_beside_40
-- X5_sortsRefusal
theorem qX5_sortsRefusal : Cond.instanceMethod yX5_sortsRefusal ∈ Ub ∧ Cond.selects RX5 yX5_sortsRefusal yX5_sortsRefusal ∈ Ub ∧ Cond.initialized RX5 ∈ Ub ∧ Cond.code yX5_sortsRefusal cX5_sortsRefusal 5 (some FieldType.int) ∈ Ub ∧ (yX5_sortsRefusal.cls = RX5 ∧ yX5_sortsRefusal.cls ≠ "java/lang/invoke/MethodHandle" ∧ yX5_sortsRefusal.cls ≠ "java/lang/invoke/VarHandle" ∧ (parseMethodDescriptor yX5_sortsRefusal.desc).map (fun d => d.parameters.length) = some 1) := ⟨k3_9, ks_14, k1_1, k3_10, by decide +kernel⟩
def fX5_sortsRefusal_34   : Nat → cM → Nat → Int32 → Option (Int32 × cM)
  | 0, _, _, _ => none
  | n + 1, S, ux3, x4 =>
    if (S.1 ux3 5) ≤ x4 then some (nI 0, S) else gi x4 100 (bd (fX5_isSort S (S.1 (ux3 + 8) (x4).toNatClampNeg)) fun v9 S9 => ( if v9 = 0 then some ((-13), S9) else (fX5_sortsRefusal_34   n) S9 ux3 (x4 + (nI 1))))
set_option maxHeartbeats 4000000 in
set_option maxRecDepth 100000 in
theorem wX5_sortsRefusal_34 {p : Program} {l : Launch} {e : Env} {s : State} {m : MethodId} {args : Array Value} {below : List Frame} {meth : Method} {c : Code} {Γ : gG} {rz : Int32} {Sz : cM} (C : Cx Γ 74 p s m args meth c RX5 cX5_sortsRefusal 5 (some .int))   : ∀ n : Nat, ∀ (S : cM) (ux3 : Nat) (x4 : Int32) (hux3 : 53 ≤ ux3 ∧ ux3 ≤ 60), fX5_sortsRefusal_34   n S ux3 x4 = some (rz, Sz) → ∀ (H : Heap) (locs : List Loc) (ls : Array Slot), St Γ 74 (cE Γ S) s.heap H locs → lv_has ls 5 [(3, .ref (Γ.2.2 (ux3))), (4, .int x4)] → W p l e { frames := 4, cells := 0, slots := 0, locals := 85 } s m args below meth c H locs 0 0 (MQ below (gQi Γ 74 rz (cE Γ Sz)) args s 0 0 (wA Γ 74)) (F0 m 34 ls []) := by
  obtain ⟨hx, hb, -, -, hown, hts, -, hwx, -⟩ := id C
  intro n
  induction n with
  | zero =>
    intro S ux3 x4 hux3 hf
    unfold fX5_sortsRefusal_34 at hf
    cases hf
  | succ n ih =>
    intro S ux3 x4 hux3 hf H locs ls hP hl
    unfold fX5_sortsRefusal_34 at hf
    refine lv_iload hx hb dX5_sortsRefusal_34 (lv_at hl 1 rfl) ?_
    refine lv_aload_n hx hb dX5_sortsRefusal_36 rfl (lv_at hl 0 rfl) ?_
    refine c4_get C hP hux3 5 (by decide) k1_108 rfl (v := .int (S.1 ux3 5)) rfl dX5_sortsRefusal_37 ?_
    refine lv_icmp_ge (tgt := 65) hx hb dX5_sortsRefusal_40 (by decide) (fun hc6 => ?_) (fun hc6 => ?_)
    · have hf := if_t hc6 hf
      refine lv_iconst (v := nI 0) hx hb dX5_sortsRefusal_65 rfl ?_
      exact r_iret (X := cE Γ) C hP hf dX5_sortsRefusal_66
    · have hf := if_f hc6 hf
      refine lv_aload_n hx hb dX5_sortsRefusal_43 rfl (lv_at hl 0 rfl) ?_
      refine c4_get C hP hux3 6 (by decide) k1_111 rfl (v := .ref (Γ.2.2 (ux3 + 8))) rfl dX5_sortsRefusal_44 ?_
      refine lv_iload hx hb dX5_sortsRefusal_47 (lv_at hl 1 rfl) ?_
      refine gi_i hf (fun hi7 hj8 hf => ?_)
      refine c_ild C hP (cA_va hux3) hi7 dX5_sortsRefusal_49 ?_
      refine bd_i hf (fun v9 S9 hq9 hf => ?_)
      refine goI (runS (rest := []) (mX5_isSort l Γ  hq9) C hP hl.1 k2_78 qX5_isSort.1 qX5_isSort.2.1 qX5_isSort.2.2.1 rfl qX5_isSort.2.2.2 ⟨Nat.le_of_ble_eq_true rfl, Nat.le_of_ble_eq_true rfl⟩ ⟨Nat.le_refl 0, Nat.le_refl 0⟩ (Nat.le_of_ble_eq_true rfl) dX5_sortsRefusal_50) hP (fun H locs hP => ?_)
      refine lv_if_ne (tgt := 59) hx hb dX5_sortsRefusal_53 (by decide) (fun hc10 => ?_) (fun hc10 => ?_)
      · have hf := if_f hc10 hf
        refine lv_iinc (v := x4 + (nI 1)) (lv' := [(4, .int (x4 + (nI 1))), (3, .ref (Γ.2.2 (ux3)))]) hx hb dX5_sortsRefusal_59 hl (k := 1) rfl rfl (by decide) rfl (fun ls hl => ?_)
        refine lv_goto (tgt := 34) hx hb dX5_sortsRefusal_62 (by decide) ?_
        exact ih S9 ux3 (x4 + (nI 1)) hux3 hf _ _ _ hP (lv_sub hl [1, 0] rfl)
      · have hf := if_t hc10 hf
        refine lv_bipush (v := (-13)) hx hb dX5_sortsRefusal_56 rfl ?_
        exact r_iret (X := cE Γ) C hP hf dX5_sortsRefusal_58
def fX5_sortsRefusal  (S : cM) (x1 : Int32) : Option (Int32 × cM) :=
  bd (fX5_bytesRefusal S x1) fun v1 S1 => ( if v1 = 0 then gi x1 8 (if (S1.1 (53 + (x1).toNatClampNeg) 5) ≤ (nI 20) then fX5_sortsRefusal_34   lF S1 (53 + (x1).toNatClampNeg) (nI 0) else some ((-13), S1)) else some (v1, S1))
set_option maxHeartbeats 4000000 in
set_option maxRecDepth 100000 in
theorem mX5_sortsRefusal (l : Launch) (Γ : gG)   {S : cM} {x1 : Int32} {rz : Int32} {Sz : cM} (hf : fX5_sortsRefusal S x1 = some (rz, Sz)) : CtI l Γ 74 yX5_sortsRefusal cX5_sortsRefusal 5 .int 4 85 [.ref (Γ.2.2 (0)), .int x1] (cE Γ S) rz (cE Γ Sz) := by
  refine met_body (Γ := Γ) (lv := [(0, .ref (Γ.2.2 (0))), (1, .int x1)]) RX5 (by decide) rfl rfl rfl ?_
  intro p e s m below meth c H locs ls C hP hl
  obtain ⟨hx, hb, -, -, hown, hts, -, hwx, -⟩ := id C
  unfold fX5_sortsRefusal at hf
  refine lv_aload_n hx hb dX5_sortsRefusal_0 rfl (lv_at hl 0 rfl) ?_
  refine lv_iload_n hx hb dX5_sortsRefusal_1 rfl (lv_at hl 1 rfl) ?_
  refine bd_i hf (fun v1 S1 hq1 hf => ?_)
  refine goI (runV (rest := []) (b := 0) (mX5_bytesRefusal l Γ  hq1) C hP hl.1 (by decide) cE0 rfl k1_162 qX5_bytesRefusal.1 qX5_bytesRefusal.2.1 qX5_bytesRefusal.2.2.1 qX5_bytesRefusal.2.2.2.1 rfl qX5_bytesRefusal.2.2.2.2 ⟨Nat.le_of_ble_eq_true rfl, Nat.le_of_ble_eq_true rfl⟩ ⟨Nat.le_refl 0, Nat.le_refl 0⟩ (Nat.le_of_ble_eq_true rfl) dX5_sortsRefusal_2) hP (fun H locs hP => ?_)
  refine lv_istore_n (lv' := [(2, .int v1), (0, .ref (Γ.2.2 (0))), (1, .int x1)]) hx hb dX5_sortsRefusal_5 rfl hl (by decide) rfl (fun ls hl => ?_)
  refine lv_iload_n hx hb dX5_sortsRefusal_6 rfl (lv_at hl 0 rfl) ?_
  refine lv_if_eq (tgt := 12) hx hb dX5_sortsRefusal_7 (by decide) (fun hc2 => ?_) (fun hc2 => ?_)
  · have hf := if_t hc2 hf
    refine lv_aload_n hx hb dX5_sortsRefusal_12 rfl (lv_at hl 1 rfl) ?_
    refine c0_get C hP 4 (by decide) k1_131 rfl (v := .ref (Γ.2.2 (52))) rfl dX5_sortsRefusal_13 ?_
    refine lv_iload_n hx hb dX5_sortsRefusal_16 rfl (lv_at hl 2 rfl) ?_
    refine gi_i hf (fun hi3 hj4 hf => ?_)
    refine c_aldS C hP hi3 dX5_sortsRefusal_17 ?_
    refine lv_astore_n (lv' := [(3, .ref (Γ.2.2 (53 + (x1).toNatClampNeg))), (2, .int v1), (0, .ref (Γ.2.2 (0))), (1, .int x1)]) hx hb dX5_sortsRefusal_18 rfl hl (by decide) rfl (fun ls hl => ?_)
    refine lv_aload_n hx hb dX5_sortsRefusal_19 rfl (lv_at hl 0 rfl) ?_
    refine c4_get C hP (by omega) 5 (by decide) k1_108 rfl (v := .int (S1.1 (53 + (x1).toNatClampNeg) 5)) rfl dX5_sortsRefusal_20 ?_
    refine lv_bipush (v := nI 20) hx hb dX5_sortsRefusal_23 rfl ?_
    refine lv_icmp_le (tgt := 31) hx hb dX5_sortsRefusal_25 (by decide) (fun hc5 => ?_) (fun hc5 => ?_)
    · have hf := if_t hc5 hf
      refine lv_iconst (v := nI 0) hx hb dX5_sortsRefusal_31 rfl ?_
      refine lv_istore (lv' := [(4, .int (nI 0)), (3, .ref (Γ.2.2 (53 + (x1).toNatClampNeg))), (2, .int v1), (0, .ref (Γ.2.2 (0))), (1, .int x1)]) hx hb dX5_sortsRefusal_32 hl (by decide) rfl (fun ls hl => ?_)
      exact wX5_sortsRefusal_34 C   lF S1 (53 + (x1).toNatClampNeg) (nI 0) (by omega) hf _ _ _ hP (lv_sub hl [1, 0] rfl)
    · have hf := if_f hc5 hf
      refine lv_bipush (v := (-13)) hx hb dX5_sortsRefusal_28 rfl ?_
      exact r_iret (X := cE Γ) C hP hf dX5_sortsRefusal_30
  · have hf := if_f hc2 hf
    refine lv_iload_n hx hb dX5_sortsRefusal_10 rfl (lv_at hl 0 rfl) ?_
    exact r_iret (X := cE Γ) C hP hf dX5_sortsRefusal_11
-- X5_chosen
theorem qX5_chosen : Cond.instanceMethod yX5_chosen ∈ Ub ∧ Cond.selects RX5 yX5_chosen yX5_chosen ∈ Ub ∧ Cond.initialized RX5 ∈ Ub ∧ Cond.code yX5_chosen cX5_chosen 5 (some FieldType.int) ∈ Ub ∧ (yX5_chosen.cls = RX5 ∧ yX5_chosen.cls ≠ "java/lang/invoke/MethodHandle" ∧ yX5_chosen.cls ≠ "java/lang/invoke/VarHandle" ∧ (parseMethodDescriptor yX5_chosen.desc).map (fun d => d.parameters.length) = some 3) := ⟨k3_13, ks_15, k1_1, k3_14, by decide +kernel⟩
def fX5_chosen  (S : cM) (x1 : Int32) (x2 : Int32) (x3 : Int32) : Option (Int32 × cM) :=
  if x1 = 0 then gn S.2.2 1 3 (bd (fX1_seemingLane S.2.2 S) fun v15 S15 => ( some (v15, S15))) else if x1 = (nI 1) then gn S.2.2 1 3 (bd (fX1_quickestLane S.2.2 S x3) fun v13 S13 => ( some (v13, S13))) else gn S.2.2 1 3 (if (S.1 S.2.2 1) = 0 then some ((-4), S) else gn S.2.2 1 3 (gz (S.1 S.2.2 1) (gn S.2.2 1 3 (gi (x2 - x2 / (S.1 S.2.2 1) * (S.1 S.2.2 1)) 5 (bd (fX3_mayBeChosen (5 * S.2.2 + 2 + (x2 - x2 / (S.1 S.2.2 1) * (S.1 S.2.2 1)).toNatClampNeg) S) fun v10 S10 => ( if v10 = 0 then some ((-4), S10) else some (x2 - x2 / (S.1 S.2.2 1) * (S.1 S.2.2 1), S10)))))))
set_option maxHeartbeats 4000000 in
set_option maxRecDepth 100000 in
theorem mX5_chosen (l : Launch) (Γ : gG)   {S : cM} {x1 : Int32} {x2 : Int32} {x3 : Int32} {rz : Int32} {Sz : cM} (hf : fX5_chosen S x1 x2 x3 = some (rz, Sz)) : CtI l Γ 74 yX5_chosen cX5_chosen 5 .int 5 111 [.ref (Γ.2.2 (0)), .int x1, .int x2, .int x3] (cE Γ S) rz (cE Γ Sz) := by
  refine met_body (Γ := Γ) (lv := [(0, .ref (Γ.2.2 (0))), (1, .int x1), (2, .int x2), (3, .int x3)]) RX5 (by decide) rfl rfl rfl ?_
  intro p e s m below meth c H locs ls C hP hl
  obtain ⟨hx, hb, -, -, hown, hts, -, hwx, -⟩ := id C
  unfold fX5_chosen at hf
  refine lv_iload_n hx hb dX5_chosen_0 rfl (lv_at hl 1 rfl) ?_
  refine lv_if_ne (tgt := 12) hx hb dX5_chosen_1 (by decide) (fun hc1 => ?_) (fun hc1 => ?_)
  · have hf := if_f hc1 hf
    refine lv_iload_n hx hb dX5_chosen_12 rfl (lv_at hl 1 rfl) ?_
    refine lv_iconst (v := nI 1) hx hb dX5_chosen_13 rfl ?_
    refine lv_icmp_ne (tgt := 26) hx hb dX5_chosen_14 (by decide) (fun hc2 => ?_) (fun hc2 => ?_)
    · have hf := if_f hc2 hf
      refine lv_aload_n hx hb dX5_chosen_26 rfl (lv_at hl 0 rfl) ?_
      refine gn_i hf (fun hN3 hf => ?_)
      refine c0_get C hP 1 (by decide) k1_128 rfl (v := .ref (Γ.2.2 (S.2.2))) rfl dX5_chosen_27 ?_
      refine c1_get C hP hN3 1 (by decide) k1_75 rfl (v := .int (S.1 S.2.2 1)) rfl dX5_chosen_30 ?_
      refine lv_if_ne (tgt := 39) hx hb dX5_chosen_33 (by decide) (fun hc4 => ?_) (fun hc4 => ?_)
      · have hf := if_f hc4 hf
        refine lv_iload_n hx hb dX5_chosen_39 rfl (lv_at hl 2 rfl) ?_
        refine lv_aload_n hx hb dX5_chosen_40 rfl (lv_at hl 0 rfl) ?_
        refine gn_i hf (fun hN5 hf => ?_)
        refine c0_get C hP 1 (by decide) k1_128 rfl (v := .ref (Γ.2.2 (S.2.2))) rfl dX5_chosen_41 ?_
        refine c1_get C hP hN5 1 (by decide) k1_75 rfl (v := .int (S.1 S.2.2 1)) rfl dX5_chosen_44 ?_
        refine gz_i hf (fun hz6 hf => ?_)
        refine lv_irem hx hb dX5_chosen_47 hz6 ?_
        refine lv_istore (lv' := [(4, .int (x2 - x2 / (S.1 S.2.2 1) * (S.1 S.2.2 1))), (0, .ref (Γ.2.2 (0))), (1, .int x1), (2, .int x2), (3, .int x3)]) hx hb dX5_chosen_48 hl (by decide) rfl (fun ls hl => ?_)
        refine lv_aload_n hx hb dX5_chosen_50 rfl (lv_at hl 1 rfl) ?_
        refine gn_i hf (fun hN7 hf => ?_)
        refine c0_get C hP 1 (by decide) k1_128 rfl (v := .ref (Γ.2.2 (S.2.2))) rfl dX5_chosen_51 ?_
        refine c1_get C hP hN7 0 (by decide) k1_71 rfl (v := .ref (Γ.2.2 (S.2.2 + 3))) rfl dX5_chosen_54 ?_
        refine lv_iload hx hb dX5_chosen_57 (lv_at hl 0 rfl) ?_
        refine gi_i hf (fun hi8 hj9 hf => ?_)
        refine c_aldQ (q := S.2.2) C hP hN7 hi8 dX5_chosen_59 ?_
        refine bd_i hf (fun v10 S10 hq10 hf => ?_)
        refine goI (runV (rest := []) (mX3_mayBeChosen l Γ (by omega) hq10) C hP hl.1 (by have := (show 7 ≤ 5 * S.2.2 + 2 + (x2 - x2 / (S.1 S.2.2 1) * (S.1 S.2.2 1)).toNatClampNeg ∧ 5 * S.2.2 + 2 + (x2 - x2 / (S.1 S.2.2 1) * (S.1 S.2.2 1)).toNatClampNeg ≤ 21 by omega); omega) (cE3 (by omega)) rfl k3_15 qX3_mayBeChosen.1 qX3_mayBeChosen.2.1 qX3_mayBeChosen.2.2.1 qX3_mayBeChosen.2.2.2.1 rfl qX3_mayBeChosen.2.2.2.2 ⟨Nat.le_of_ble_eq_true rfl, Nat.le_of_ble_eq_true rfl⟩ ⟨Nat.le_refl 0, Nat.le_refl 0⟩ (Nat.le_of_ble_eq_true rfl) dX5_chosen_60) hP (fun H locs hP => ?_)
        refine lv_if_eq (tgt := 71) hx hb dX5_chosen_63 (by decide) (fun hc11 => ?_) (fun hc11 => ?_)
        · have hf := if_t hc11 hf
          refine lv_bipush (v := (-4)) hx hb dX5_chosen_71 rfl ?_
          exact r_iret (X := cE Γ) C hP hf dX5_chosen_73
        · have hf := if_f hc11 hf
          refine lv_iload hx hb dX5_chosen_66 (lv_at hl 0 rfl) ?_
          refine lv_goto (tgt := 73) hx hb dX5_chosen_68 (by decide) ?_
          exact r_iret (X := cE Γ) C hP hf dX5_chosen_73
      · have hf := if_t hc4 hf
        refine lv_bipush (v := (-4)) hx hb dX5_chosen_36 rfl ?_
        exact r_iret (X := cE Γ) C hP hf dX5_chosen_38
    · have hf := if_t hc2 hf
      refine lv_aload_n hx hb dX5_chosen_17 rfl (lv_at hl 0 rfl) ?_
      refine gn_i hf (fun hN12 hf => ?_)
      refine c0_get C hP 1 (by decide) k1_128 rfl (v := .ref (Γ.2.2 (S.2.2))) rfl dX5_chosen_18 ?_
      refine lv_iload_n hx hb dX5_chosen_21 rfl (lv_at hl 3 rfl) ?_
      refine bd_i hf (fun v13 S13 hq13 hf => ?_)
      refine goI (runV (rest := []) (mX1_quickestLane l Γ hN12 hq13) C hP hl.1 (by have := hN12; omega) (cE1 hN12) rfl k2_114 qX1_quickestLane.1 qX1_quickestLane.2.1 qX1_quickestLane.2.2.1 qX1_quickestLane.2.2.2.1 rfl qX1_quickestLane.2.2.2.2 ⟨Nat.le_of_ble_eq_true rfl, Nat.le_of_ble_eq_true rfl⟩ ⟨Nat.le_refl 0, Nat.le_refl 0⟩ (Nat.le_of_ble_eq_true rfl) dX5_chosen_22) hP (fun H locs hP => ?_)
      exact r_iret (X := cE Γ) C hP hf dX5_chosen_25
  · have hf := if_t hc1 hf
    refine lv_aload_n hx hb dX5_chosen_4 rfl (lv_at hl 0 rfl) ?_
    refine gn_i hf (fun hN14 hf => ?_)
    refine c0_get C hP 1 (by decide) k1_128 rfl (v := .ref (Γ.2.2 (S.2.2))) rfl dX5_chosen_5 ?_
    refine bd_i hf (fun v15 S15 hq15 hf => ?_)
    refine goI (runV (rest := []) (mX1_seemingLane l Γ hN14 hq15) C hP hl.1 (by have := hN14; omega) (cE1 hN14) rfl k2_99 qX1_seemingLane.1 qX1_seemingLane.2.1 qX1_seemingLane.2.2.1 qX1_seemingLane.2.2.2.1 rfl qX1_seemingLane.2.2.2.2 ⟨Nat.le_of_ble_eq_true rfl, Nat.le_of_ble_eq_true rfl⟩ ⟨Nat.le_refl 0, Nat.le_refl 0⟩ (Nat.le_of_ble_eq_true rfl) dX5_chosen_8) hP (fun H locs hP => ?_)
    exact r_iret (X := cE Γ) C hP hf dX5_chosen_11
