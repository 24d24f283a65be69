-- X1_becomeLike
theorem qX1_becomeLike : Cond.instanceMethod yX1_becomeLike ∈ Ub ∧ Cond.selects RX1 yX1_becomeLike yX1_becomeLike ∈ Ub ∧ Cond.initialized RX1 ∈ Ub ∧ Cond.code yX1_becomeLike cX1_becomeLike 3 (none : Option Jvm.ClassFile.FieldType) ∈ Ub ∧ (yX1_becomeLike.cls = RX1 ∧ yX1_becomeLike.cls ≠ "java/lang/invoke/MethodHandle" ∧ yX1_becomeLike.cls ≠ "java/lang/invoke/VarHandle" ∧ (parseMethodDescriptor yX1_becomeLike.desc).map (fun d => d.parameters.length) = some 1) := ⟨k1_190, k1_191, k1_2, k1_192, by decide +kernel⟩
def fX1_becomeLike_26 (u0 : Nat) (u1 : Nat)  : Nat → cM → Int32 → Option cM
  | 0, _, _ => none
  | n + 1, S, x2 =>
    if (S.1 u0 1) ≤ x2 then some S else gi x2 5 (gi x2 5 (bv (fX3_becomeLike (5 * u0 + 2 + (x2).toNatClampNeg) (5 * u1 + 2 + (x2).toNatClampNeg) S) fun S9 => ( (fX1_becomeLike_26 u0 u1  n) S9 (x2 + (nI 1)))))
set_option maxHeartbeats 4000000 in
set_option maxRecDepth 100000 in
theorem wX1_becomeLike_26 {p : Program} {l : Launch} {e : Env} {s : State} {m : MethodId} {args : Array Value} {below : List Frame} {meth : Method} {c : Code} {Γ : gG} {Sz : cM} (C : Cx Γ 74 p s m args meth c RX1 cX1_becomeLike 3 none) {u0 : Nat} (hu0 : 1 ≤ u0 ∧ u0 ≤ 3) {u1 : Nat} (hu1 : 1 ≤ u1 ∧ u1 ≤ 3)  : ∀ n : Nat, ∀ (S : cM) (x2 : Int32) , fX1_becomeLike_26 u0 u1  n S x2 = some Sz → ∀ (H : Heap) (locs : List Loc) (ls : Array Slot), St Γ 74 (cE Γ S) s.heap H locs → lv_has ls 3 [(0, .ref (Γ.2.2 (u0))), (1, .ref (Γ.2.2 (u1))), (2, .int x2)] → W p l e { frames := 2, cells := 0, slots := 0, locals := 47 } s m args below meth c H locs 0 0 (MQ below (gQv Γ 74 (cE Γ Sz)) args s 0 0 (wA Γ 74)) (F0 m 26 ls []) := by
  obtain ⟨hx, hb, -, -, hown, hts, -, hwx, -⟩ := id C
  intro n
  induction n with
  | zero =>
    intro S x2 hf
    unfold fX1_becomeLike_26 at hf
    cases hf
  | succ n ih =>
    intro S x2 hf H locs ls hP hl
    unfold fX1_becomeLike_26 at hf
    refine lv_iload_n hx hb dX1_becomeLike_26 rfl (lv_at hl 2 rfl) ?_
    refine lv_aload_n hx hb dX1_becomeLike_27 rfl (lv_at hl 0 rfl) ?_
    refine c1_get C hP hu0 1 (by decide) k1_73 rfl (v := .int (S.1 u0 1)) rfl dX1_becomeLike_28 ?_
    refine lv_icmp_ge (tgt := 55) hx hb dX1_becomeLike_31 (by decide) (fun hc4 => ?_) (fun hc4 => ?_)
    · have hf := if_t hc4 hf
      exact r_vret (X := cE Γ) C hP hf dX1_becomeLike_55
    · have hf := if_f hc4 hf
      refine lv_aload_n hx hb dX1_becomeLike_34 rfl (lv_at hl 0 rfl) ?_
      refine c1_get C hP hu0 0 (by decide) k1_70 rfl (v := .ref (Γ.2.2 (u0 + 3))) rfl dX1_becomeLike_35 ?_
      refine lv_iload_n hx hb dX1_becomeLike_38 rfl (lv_at hl 2 rfl) ?_
      refine gi_i hf (fun hi5 hj6 hf => ?_)
      refine c_aldQ (q := u0) C hP hu0 hi5 dX1_becomeLike_39 ?_
      refine lv_aload_n hx hb dX1_becomeLike_40 rfl (lv_at hl 1 rfl) ?_
      refine c1_get C hP hu1 0 (by decide) k1_70 rfl (v := .ref (Γ.2.2 (u1 + 3))) rfl dX1_becomeLike_41 ?_
      refine lv_iload_n hx hb dX1_becomeLike_44 rfl (lv_at hl 2 rfl) ?_
      refine gi_i hf (fun hi7 hj8 hf => ?_)
      refine c_aldQ (q := u1) C hP hu1 hi7 dX1_becomeLike_45 ?_
      refine bv_i hf (fun S9 hq9 hf => ?_)
      refine goV (runV (rest := []) (mX3_becomeLike l Γ (by omega) (by omega) hq9) C hP hl.1 (by have := (show 7 ≤ 5 * u0 + 2 + (x2).toNatClampNeg ∧ 5 * u0 + 2 + (x2).toNatClampNeg ≤ 21 by omega); omega) (cE3 (by omega)) rfl k1_193 qX3_becomeLike.1 qX3_becomeLike.2.1 qX3_becomeLike.2.2.1 qX3_becomeLike.2.2.2.1 rfl qX3_becomeLike.2.2.2.2 ⟨Nat.le_of_ble_eq_true rfl, Nat.le_of_ble_eq_true rfl⟩ ⟨Nat.le_refl 0, Nat.le_refl 0⟩ (Nat.le_of_ble_eq_true rfl) dX1_becomeLike_46) hP (fun H locs hP => ?_)
      refine lv_iinc (v := x2 + (nI 1)) (lv' := [(2, .int (x2 + (nI 1))), (0, .ref (Γ.2.2 (u0))), (1, .ref (Γ.2.2 (u1)))]) hx hb dX1_becomeLike_49 hl (k := 2) rfl rfl (by decide) rfl (fun ls hl => ?_)
      refine lv_goto (tgt := 26) hx hb dX1_becomeLike_52 (by decide) ?_
      exact ih S9 (x2 + (nI 1))  hf _ _ _ hP (lv_sub hl [1, 2, 0] rfl)
def fX1_becomeLike (u0 : Nat) (u1 : Nat) (S : cM)  : Option cM :=
  sv (cS S u0 1 (S.1 u1 1)) fun S1 => ( sv (cS S1 u0 2 (S1.1 u1 2)) fun S2 => ( sv (cS S2 u0 3 (S2.1 u1 3)) fun S3 => ( fX1_becomeLike_26 u0 u1  lF S3 (nI 0))))
set_option maxHeartbeats 4000000 in
set_option maxRecDepth 100000 in
theorem mX1_becomeLike (l : Launch) (Γ : gG) {u0 : Nat} {u1 : Nat} (hu0 : 1 ≤ u0 ∧ u0 ≤ 3) (hu1 : 1 ≤ u1 ∧ u1 ≤ 3) {S : cM}  {Sz : cM} (hf : fX1_becomeLike u0 u1 S = some Sz) : CtV l Γ 74 yX1_becomeLike cX1_becomeLike 3 2 47 [.ref (Γ.2.2 (u0)), .ref (Γ.2.2 (u1))] (cE Γ S) (cE Γ Sz) := by
  refine met_body (Γ := Γ) (lv := [(0, .ref (Γ.2.2 (u0))), (1, .ref (Γ.2.2 (u1)))]) RX1 (by decide) rfl rfl rfl ?_
  intro p e s m below meth c H locs ls C hP hl
  obtain ⟨hx, hb, -, -, hown, hts, -, hwx, -⟩ := id C
  unfold fX1_becomeLike at hf
  refine lv_aload_n hx hb dX1_becomeLike_0 rfl (lv_at hl 0 rfl) ?_
  refine lv_aload_n hx hb dX1_becomeLike_1 rfl (lv_at hl 1 rfl) ?_
  refine c1_get C hP hu1 1 (by decide) k1_73 rfl (v := .int (S.1 u1 1)) rfl dX1_becomeLike_2 ?_
  refine c1_put C hP hu0 1 (by decide) k1_73 dX1_becomeLike_5 (fun H locs hP => ?_)
  refine sv_i hf (fun S1 e1 hf => ?_)
  rw [← e1] at hP
  refine lv_aload_n hx hb dX1_becomeLike_8 rfl (lv_at hl 0 rfl) ?_
  refine lv_aload_n hx hb dX1_becomeLike_9 rfl (lv_at hl 1 rfl) ?_
  refine c1_get C hP hu1 2 (by decide) k1_76 rfl (v := .int (S1.1 u1 2)) rfl dX1_becomeLike_10 ?_
  refine c1_put C hP hu0 2 (by decide) k1_76 dX1_becomeLike_13 (fun H locs hP => ?_)
  refine sv_i hf (fun S2 e2 hf => ?_)
  rw [← e2] at hP
  refine lv_aload_n hx hb dX1_becomeLike_16 rfl (lv_at hl 0 rfl) ?_
  refine lv_aload_n hx hb dX1_becomeLike_17 rfl (lv_at hl 1 rfl) ?_
  refine c1_get C hP hu1 3 (by decide) k1_78 rfl (v := .int (S2.1 u1 3)) rfl dX1_becomeLike_18 ?_
  refine c1_put C hP hu0 3 (by decide) k1_78 dX1_becomeLike_21 (fun H locs hP => ?_)
  refine sv_i hf (fun S3 e3 hf => ?_)
  rw [← e3] at hP
  refine lv_iconst (v := nI 0) hx hb dX1_becomeLike_24 rfl ?_
  refine lv_istore_n (lv' := [(2, .int (nI 0)), (0, .ref (Γ.2.2 (u0))), (1, .ref (Γ.2.2 (u1)))]) hx hb dX1_becomeLike_25 rfl hl (by decide) rfl (fun ls hl => ?_)
  exact wX1_becomeLike_26 C hu0 hu1  lF S3 (nI 0)  hf _ _ _ hP (lv_sub hl [1, 2, 0] rfl)
-- X1_has
theorem qX1_has : Cond.instanceMethod yX1_has ∈ Ub ∧ Cond.selects RX1 yX1_has yX1_has ∈ Ub ∧ Cond.initialized RX1 ∈ Ub ∧ Cond.code yX1_has cX1_has 2 (some FieldType.boolean) ∈ Ub ∧ (yX1_has.cls = RX1 ∧ yX1_has.cls ≠ "java/lang/invoke/MethodHandle" ∧ yX1_has.cls ≠ "java/lang/invoke/VarHandle" ∧ (parseMethodDescriptor yX1_has.desc).map (fun d => d.parameters.length) = some 1) := ⟨k1_231, k1_232, k1_2, k1_233, by decide +kernel⟩
def fX1_has (u0 : Nat) (S : cM) (x1 : Int32) : Option (Int32 × cM) :=
  if x1 < 0 then some (nI 0, S) else if (S.1 u0 1) ≤ x1 then some (nI 0, S) else some (nI 1, S)
set_option maxHeartbeats 4000000 in
set_option maxRecDepth 100000 in
theorem mX1_has (l : Launch) (Γ : gG) {u0 : Nat} (hu0 : 1 ≤ u0 ∧ u0 ≤ 3) {S : cM} {x1 : Int32} {rz : Int32} {Sz : cM} (hf : fX1_has u0 S x1 = some (rz, Sz)) : CtI l Γ 74 yX1_has cX1_has 2 .boolean 0 0 [.ref (Γ.2.2 (u0)), .int x1] (cE Γ S) rz (cE Γ Sz) := by
  refine met_body (Γ := Γ) (lv := [(0, .ref (Γ.2.2 (u0))), (1, .int x1)]) RX1 (by decide) rfl rfl rfl ?_
  intro p e s m below meth c H locs ls C hP hl
  obtain ⟨hx, hb, -, -, hown, hts, -, hwx, -⟩ := id C
  unfold fX1_has at hf
  refine lv_iload_n hx hb dX1_has_0 rfl (lv_at hl 1 rfl) ?_
  refine lv_if_lt (tgt := 16) hx hb dX1_has_1 (by decide) (fun hc1 => ?_) (fun hc1 => ?_)
  · have hf := if_t hc1 hf
    refine lv_iconst (v := nI 0) hx hb dX1_has_16 rfl ?_
    exact r_zret (X := cE Γ) C hP (Or.inl rfl) hf dX1_has_17
  · have hf := if_f hc1 hf
    refine lv_iload_n hx hb dX1_has_4 rfl (lv_at hl 1 rfl) ?_
    refine lv_aload_n hx hb dX1_has_5 rfl (lv_at hl 0 rfl) ?_
    refine c1_get C hP hu0 1 (by decide) k1_73 rfl (v := .int (S.1 u0 1)) rfl dX1_has_6 ?_
    refine lv_icmp_ge (tgt := 16) hx hb dX1_has_9 (by decide) (fun hc2 => ?_) (fun hc2 => ?_)
    · have hf := if_t hc2 hf
      refine lv_iconst (v := nI 0) hx hb dX1_has_16 rfl ?_
      exact r_zret (X := cE Γ) C hP (Or.inl rfl) hf dX1_has_17
    · have hf := if_f hc2 hf
      refine lv_iconst (v := nI 1) hx hb dX1_has_12 rfl ?_
      refine lv_goto (tgt := 17) hx hb dX1_has_13 (by decide) ?_
      exact r_zret (X := cE Γ) C hP (Or.inr rfl) hf dX1_has_17
-- X1_hasCar
theorem qX1_hasCar : Cond.instanceMethod yX1_hasCar ∈ Ub ∧ Cond.selects RX1 yX1_hasCar yX1_hasCar ∈ Ub ∧ Cond.initialized RX1 ∈ Ub ∧ Cond.code yX1_hasCar cX1_hasCar 3 (some FieldType.boolean) ∈ Ub ∧ (yX1_hasCar.cls = RX1 ∧ yX1_hasCar.cls ≠ "java/lang/invoke/MethodHandle" ∧ yX1_hasCar.cls ≠ "java/lang/invoke/VarHandle" ∧ (parseMethodDescriptor yX1_hasCar.desc).map (fun d => d.parameters.length) = some 2) := ⟨k2_70, k2_71, k1_2, k2_72, by decide +kernel⟩
def fX1_hasCar (u0 : Nat) (S : cM) (x1 : Int32) (x2 : Int32) : Option (Int32 × cM) :=
  bd (fX1_has u0 S x1) fun v1 S1 => ( if v1 = 0 then some (nI 0, S1) else if x2 < 0 then some (nI 0, S1) else gi x1 5 (if (S1.1 (5 * u0 + 2 + (x1).toNatClampNeg) 2) ≤ x2 then some (nI 0, S1) else some (nI 1, S1)))
set_option maxHeartbeats 4000000 in
set_option maxRecDepth 100000 in
theorem mX1_hasCar (l : Launch) (Γ : gG) {u0 : Nat} (hu0 : 1 ≤ u0 ∧ u0 ≤ 3) {S : cM} {x1 : Int32} {x2 : Int32} {rz : Int32} {Sz : cM} (hf : fX1_hasCar u0 S x1 x2 = some (rz, Sz)) : CtI l Γ 74 yX1_hasCar cX1_hasCar 3 .boolean 1 21 [.ref (Γ.2.2 (u0)), .int x1, .int x2] (cE Γ S) rz (cE Γ Sz) := by
  refine met_body (Γ := Γ) (lv := [(0, .ref (Γ.2.2 (u0))), (1, .int x1), (2, .int x2)]) RX1 (by decide) rfl rfl rfl ?_
  intro p e s m below meth c H locs ls C hP hl
  obtain ⟨hx, hb, -, -, hown, hts, -, hwx, -⟩ := id C
  unfold fX1_hasCar at hf
  refine lv_aload_n hx hb dX1_hasCar_0 rfl (lv_at hl 0 rfl) ?_
  refine lv_iload_n hx hb dX1_hasCar_1 rfl (lv_at hl 1 rfl) ?_
  refine bd_i hf (fun v1 S1 hq1 hf => ?_)
  refine goI (runV (rest := []) (mX1_has l Γ hu0 hq1) C hP hl.1 (by have := hu0; omega) (cE1 hu0) rfl k2_73 qX1_has.1 qX1_has.2.1 qX1_has.2.2.1 qX1_has.2.2.2.1 rfl qX1_has.2.2.2.2 ⟨Nat.le_of_ble_eq_true rfl, Nat.le_of_ble_eq_true rfl⟩ ⟨Nat.le_refl 0, Nat.le_refl 0⟩ (Nat.le_of_ble_eq_true rfl) dX1_hasCar_2) hP (fun H locs hP => ?_)
  refine lv_if_eq (tgt := 29) hx hb dX1_hasCar_5 (by decide) (fun hc2 => ?_) (fun hc2 => ?_)
  · have hf := if_t hc2 hf
    refine lv_iconst (v := nI 0) hx hb dX1_hasCar_29 rfl ?_
    exact r_zret (X := cE Γ) C hP (Or.inl rfl) hf dX1_hasCar_30
  · have hf := if_f hc2 hf
    refine lv_iload_n hx hb dX1_hasCar_8 rfl (lv_at hl 2 rfl) ?_
    refine lv_if_lt (tgt := 29) hx hb dX1_hasCar_9 (by decide) (fun hc3 => ?_) (fun hc3 => ?_)
    · have hf := if_t hc3 hf
      refine lv_iconst (v := nI 0) hx hb dX1_hasCar_29 rfl ?_
      exact r_zret (X := cE Γ) C hP (Or.inl rfl) hf dX1_hasCar_30
    · have hf := if_f hc3 hf
      refine lv_iload_n hx hb dX1_hasCar_12 rfl (lv_at hl 2 rfl) ?_
      refine lv_aload_n hx hb dX1_hasCar_13 rfl (lv_at hl 0 rfl) ?_
      refine c1_get C hP hu0 0 (by decide) k1_70 rfl (v := .ref (Γ.2.2 (u0 + 3))) rfl dX1_hasCar_14 ?_
      refine lv_iload_n hx hb dX1_hasCar_17 rfl (lv_at hl 1 rfl) ?_
      refine gi_i hf (fun hi4 hj5 hf => ?_)
      refine c_aldQ (q := u0) C hP hu0 hi4 dX1_hasCar_18 ?_
      refine c3_get C hP (by omega) 2 (by decide) k1_45 rfl (v := .int (S1.1 (5 * u0 + 2 + (x1).toNatClampNeg) 2)) rfl dX1_hasCar_19 ?_
      refine lv_icmp_ge (tgt := 29) hx hb dX1_hasCar_22 (by decide) (fun hc6 => ?_) (fun hc6 => ?_)
      · have hf := if_t hc6 hf
        refine lv_iconst (v := nI 0) hx hb dX1_hasCar_29 rfl ?_
        exact r_zret (X := cE Γ) C hP (Or.inl rfl) hf dX1_hasCar_30
      · have hf := if_f hc6 hf
        refine lv_iconst (v := nI 1) hx hb dX1_hasCar_25 rfl ?_
        refine lv_goto (tgt := 30) hx hb dX1_hasCar_26 (by decide) ?_
        exact r_zret (X := cE Γ) C hP (Or.inr rfl) hf dX1_hasCar_30
-- X1_addLane
theorem qX1_addLane : Cond.instanceMethod yX1_addLane ∈ Ub ∧ Cond.selects RX1 yX1_addLane yX1_addLane ∈ Ub ∧ Cond.initialized RX1 ∈ Ub ∧ Cond.code yX1_addLane cX1_addLane 3 (some FieldType.boolean) ∈ Ub ∧ (yX1_addLane.cls = RX1 ∧ yX1_addLane.cls ≠ "java/lang/invoke/MethodHandle" ∧ yX1_addLane.cls ≠ "java/lang/invoke/VarHandle" ∧ (parseMethodDescriptor yX1_addLane.desc).map (fun d => d.parameters.length) = some 2) := ⟨k1_214, k1_215, k1_2, k1_216, by decide +kernel⟩
def fX1_addLane (u0 : Nat) (S : cM) (x1 : Int32) (x2 : Int32) : Option (Int32 × cM) :=
  if (S.1 u0 1) < (nI 5) then gi (S.1 u0 1) 5 (bv (fX3_begin (5 * u0 + 2 + (S.1 u0 1).toNatClampNeg) S x1 x2) fun S4 => ( sv (cS S4 u0 1 ((S4.1 u0 1) + (nI 1))) fun S5 => ( some (nI 1, S5)))) else some (nI 0, S)
set_option maxHeartbeats 4000000 in
set_option maxRecDepth 100000 in
theorem mX1_addLane (l : Launch) (Γ : gG) {u0 : Nat} (hu0 : 1 ≤ u0 ∧ u0 ≤ 3) {S : cM} {x1 : Int32} {x2 : Int32} {rz : Int32} {Sz : cM} (hf : fX1_addLane u0 S x1 x2 = some (rz, Sz)) : CtI l Γ 74 yX1_addLane cX1_addLane 3 .boolean 3 68 [.ref (Γ.2.2 (u0)), .int x1, .int x2] (cE Γ S) rz (cE Γ Sz) := by
  refine met_body (Γ := Γ) (lv := [(0, .ref (Γ.2.2 (u0))), (1, .int x1), (2, .int x2)]) RX1 (by decide) rfl rfl rfl ?_
  intro p e s m below meth c H locs ls C hP hl
  obtain ⟨hx, hb, -, -, hown, hts, -, hwx, -⟩ := id C
  unfold fX1_addLane at hf
  refine lv_aload_n hx hb dX1_addLane_0 rfl (lv_at hl 0 rfl) ?_
  refine c1_get C hP hu0 1 (by decide) k1_73 rfl (v := .int (S.1 u0 1)) rfl dX1_addLane_1 ?_
  refine lv_iconst (v := nI 5) hx hb dX1_addLane_4 rfl ?_
  refine lv_icmp_lt (tgt := 10) hx hb dX1_addLane_5 (by decide) (fun hc1 => ?_) (fun hc1 => ?_)
  · have hf := if_t hc1 hf
    refine lv_aload_n hx hb dX1_addLane_10 rfl (lv_at hl 0 rfl) ?_
    refine c1_get C hP hu0 0 (by decide) k1_70 rfl (v := .ref (Γ.2.2 (u0 + 3))) rfl dX1_addLane_11 ?_
    refine lv_aload_n hx hb dX1_addLane_14 rfl (lv_at hl 0 rfl) ?_
    refine c1_get C hP hu0 1 (by decide) k1_73 rfl (v := .int (S.1 u0 1)) rfl dX1_addLane_15 ?_
    refine gi_i hf (fun hi2 hj3 hf => ?_)
    refine c_aldQ (q := u0) C hP hu0 hi2 dX1_addLane_18 ?_
    refine lv_iload_n hx hb dX1_addLane_19 rfl (lv_at hl 1 rfl) ?_
    refine lv_iload_n hx hb dX1_addLane_20 rfl (lv_at hl 2 rfl) ?_
    refine bv_i hf (fun S4 hq4 hf => ?_)
    refine goV (runV (rest := []) (mX3_begin l Γ (by omega) hq4) C hP hl.1 (by have := (show 7 ≤ 5 * u0 + 2 + (S.1 u0 1).toNatClampNeg ∧ 5 * u0 + 2 + (S.1 u0 1).toNatClampNeg ≤ 21 by omega); omega) (cE3 (by omega)) rfl k1_217 qX3_begin.1 qX3_begin.2.1 qX3_begin.2.2.1 qX3_begin.2.2.2.1 rfl qX3_begin.2.2.2.2 ⟨Nat.le_of_ble_eq_true rfl, Nat.le_of_ble_eq_true rfl⟩ ⟨Nat.le_refl 0, Nat.le_refl 0⟩ (Nat.le_of_ble_eq_true rfl) dX1_addLane_21) hP (fun H locs hP => ?_)
    refine lv_aload_n hx hb dX1_addLane_24 rfl (lv_at hl 0 rfl) ?_
    refine lv_dup hx hb dX1_addLane_25 rfl ?_
    refine c1_get C hP hu0 1 (by decide) k1_73 rfl (v := .int (S4.1 u0 1)) rfl dX1_addLane_26 ?_
    refine lv_iconst (v := nI 1) hx hb dX1_addLane_29 rfl ?_
    refine lv_iadd hx hb dX1_addLane_30 ?_
    refine c1_put C hP hu0 1 (by decide) k1_73 dX1_addLane_31 (fun H locs hP => ?_)
    refine sv_i hf (fun S5 e5 hf => ?_)
    rw [← e5] at hP
    refine lv_iconst (v := nI 1) hx hb dX1_addLane_34 rfl ?_
    exact r_zret (X := cE Γ) C hP (Or.inr rfl) hf dX1_addLane_35
  · have hf := if_f hc1 hf
    refine lv_iconst (v := nI 0) hx hb dX1_addLane_8 rfl ?_
    exact r_zret (X := cE Γ) C hP (Or.inl rfl) hf dX1_addLane_9
-- X1_goBy
theorem qX1_goBy : Cond.instanceMethod yX1_goBy ∈ Ub ∧ Cond.selects RX1 yX1_goBy yX1_goBy ∈ Ub ∧ Cond.initialized RX1 ∈ Ub ∧ Cond.code yX1_goBy cX1_goBy 5 (some FieldType.int) ∈ Ub ∧ (yX1_goBy.cls = RX1 ∧ yX1_goBy.cls ≠ "java/lang/invoke/MethodHandle" ∧ yX1_goBy.cls ≠ "java/lang/invoke/VarHandle" ∧ (parseMethodDescriptor yX1_goBy.desc).map (fun d => d.parameters.length) = some 1) := ⟨k2_14, k2_15, k1_2, k2_16, by decide +kernel⟩
def fX1_goBy_40 (u0 : Nat) (K4 : cM → Int32 → Int32 → Int32 → Option (Int32 × cM)) (K12 : cM → Int32 → Int32 → Int32 → Int32 → Option (Int32 × cM)) (S : cM) (x1 : Int32) (x3 : Int32) (x4 : Int32) (y0 : Int32) (y1 : Int32) : Option (Int32 × cM) :=
  K12 S x1 (y0 + y1) x3 (x4 + (nI 1))
set_option maxHeartbeats 4000000 in
set_option maxRecDepth 100000 in
theorem wX1_goBy_40 {p : Program} {l : Launch} {e : Env} {s : State} {m : MethodId} {args : Array Value} {below : List Frame} {meth : Method} {c : Code} {Γ : gG} {rz : Int32} {Sz : cM} (C : Cx Γ 74 p s m args meth c RX1 cX1_goBy 5 (some .int)) {u0 : Nat} (hu0 : 1 ≤ u0 ∧ u0 ≤ 3) {K4 : cM → Int32 → Int32 → Int32 → Option (Int32 × cM)} (hK4 : ∀ (S : cM) (x1 : Int32) (x2 : Int32) (x3 : Int32) , K4 S x1 x2 x3 = some (rz, Sz) → ∀ (H : Heap) (locs : List Loc) (ls : Array Slot), St Γ 74 (cE Γ S) s.heap H locs → lv_has ls 5 [(0, .ref (Γ.2.2 (u0))), (1, .int x1), (2, .int x2), (3, .int x3)] → W p l e { frames := 2, cells := 0, slots := 0, locals := 42 } s m args below meth c H locs 0 0 (MQ below (gQi Γ 74 rz (cE Γ Sz)) args s 0 0 (wA Γ 74)) (F0 m 4 ls [])) {K12 : cM → Int32 → Int32 → Int32 → Int32 → Option (Int32 × cM)} (hK12 : ∀ (S : cM) (x1 : Int32) (x2 : Int32) (x3 : Int32) (x4 : Int32) , K12 S x1 x2 x3 x4 = some (rz, Sz) → ∀ (H : Heap) (locs : List Loc) (ls : Array Slot), St Γ 74 (cE Γ S) s.heap H locs → lv_has ls 5 [(0, .ref (Γ.2.2 (u0))), (1, .int x1), (2, .int x2), (3, .int x3), (4, .int x4)] → W p l e { frames := 2, cells := 0, slots := 0, locals := 42 } s m args below meth c H locs 0 0 (MQ below (gQi Γ 74 rz (cE Γ Sz)) args s 0 0 (wA Γ 74)) (F0 m 12 ls [])) : ∀ (S : cM) (x1 : Int32) (x3 : Int32) (x4 : Int32) (y0 : Int32) (y1 : Int32) , fX1_goBy_40 u0 K4 K12 S x1 x3 x4 y0 y1 = some (rz, Sz) → ∀ (H : Heap) (locs : List Loc) (ls : Array Slot), St Γ 74 (cE Γ S) s.heap H locs → lv_has ls 5 [(0, .ref (Γ.2.2 (u0))), (1, .int x1), (3, .int x3), (4, .int x4)] → W p l e { frames := 2, cells := 0, slots := 0, locals := 42 } s m args below meth c H locs 0 0 (MQ below (gQi Γ 74 rz (cE Γ Sz)) args s 0 0 (wA Γ 74)) (F0 m 40 ls [.int y1, .int y0]) := by
  obtain ⟨hx, hb, -, -, hown, hts, -, hwx, -⟩ := id C
  intro S x1 x3 x4 y0 y1 hf H locs ls hP hl
  unfold fX1_goBy_40 at hf
  refine lv_iadd hx hb dX1_goBy_40 ?_
  refine lv_istore_n (lv' := [(2, .int (y0 + y1)), (0, .ref (Γ.2.2 (u0))), (1, .int x1), (3, .int x3), (4, .int x4)]) hx hb dX1_goBy_41 rfl hl (by decide) rfl (fun ls hl => ?_)
  refine lv_iinc (v := x4 + (nI 1)) (lv' := [(4, .int (x4 + (nI 1))), (2, .int (y0 + y1)), (0, .ref (Γ.2.2 (u0))), (1, .int x1), (3, .int x3)]) hx hb dX1_goBy_42 hl (k := 4) rfl rfl (by decide) rfl (fun ls hl => ?_)
  refine lv_goto (tgt := 12) hx hb dX1_goBy_45 (by decide) ?_
  exact hK12 S x1 (y0 + y1) x3 (x4 + (nI 1))  hf _ _ _ hP (lv_sub hl [2, 3, 1, 4, 0] rfl)
def fX1_goBy_12 (u0 : Nat) (K4 : cM → Int32 → Int32 → Int32 → Option (Int32 × cM)) : Nat → cM → Int32 → Int32 → Int32 → Int32 → Option (Int32 × cM)
  | 0, _, _, _, _, _ => none
  | n + 1, S, x1, x2, x3, x4 =>
    if (S.1 u0 1) ≤ x4 then K4 S x1 x2 (x3 + (nI 1)) else gi x4 5 (bd (fX3_minuteGoes (5 * u0 + 2 + (x4).toNatClampNeg) S) fun v7 S7 => ( if v7 = 0 then fX1_goBy_40 u0 K4 (fX1_goBy_12 u0 K4 n)  S7 x1 x3 x4 x2 (nI 0) else fX1_goBy_40 u0 K4 (fX1_goBy_12 u0 K4 n)  S7 x1 x3 x4 x2 (nI 1)))
set_option maxHeartbeats 4000000 in
set_option maxRecDepth 100000 in
theorem wX1_goBy_12 {p : Program} {l : Launch} {e : Env} {s : State} {m : MethodId} {args : Array Value} {below : List Frame} {meth : Method} {c : Code} {Γ : gG} {rz : Int32} {Sz : cM} (C : Cx Γ 74 p s m args meth c RX1 cX1_goBy 5 (some .int)) {u0 : Nat} (hu0 : 1 ≤ u0 ∧ u0 ≤ 3) {K4 : cM → Int32 → Int32 → Int32 → Option (Int32 × cM)} (hK4 : ∀ (S : cM) (x1 : Int32) (x2 : Int32) (x3 : Int32) , K4 S x1 x2 x3 = some (rz, Sz) → ∀ (H : Heap) (locs : List Loc) (ls : Array Slot), St Γ 74 (cE Γ S) s.heap H locs → lv_has ls 5 [(0, .ref (Γ.2.2 (u0))), (1, .int x1), (2, .int x2), (3, .int x3)] → W p l e { frames := 2, cells := 0, slots := 0, locals := 42 } s m args below meth c H locs 0 0 (MQ below (gQi Γ 74 rz (cE Γ Sz)) args s 0 0 (wA Γ 74)) (F0 m 4 ls [])) : ∀ n : Nat, ∀ (S : cM) (x1 : Int32) (x2 : Int32) (x3 : Int32) (x4 : Int32) , fX1_goBy_12 u0 K4 n S x1 x2 x3 x4 = some (rz, Sz) → ∀ (H : Heap) (locs : List Loc) (ls : Array Slot), St Γ 74 (cE Γ S) s.heap H locs → lv_has ls 5 [(0, .ref (Γ.2.2 (u0))), (1, .int x1), (2, .int x2), (3, .int x3), (4, .int x4)] → W p l e { frames := 2, cells := 0, slots := 0, locals := 42 } s m args below meth c H locs 0 0 (MQ below (gQi Γ 74 rz (cE Γ Sz)) args s 0 0 (wA Γ 74)) (F0 m 12 ls []) := by
  obtain ⟨hx, hb, -, -, hown, hts, -, hwx, -⟩ := id C
  intro n
  induction n with
  | zero =>
    intro S x1 x2 x3 x4 hf
    unfold fX1_goBy_12 at hf
    cases hf
  | succ n ih =>
    intro S x1 x2 x3 x4 hf H locs ls hP hl
    unfold fX1_goBy_12 at hf
    refine lv_iload hx hb dX1_goBy_12 (lv_at hl 4 rfl) ?_
    refine lv_aload_n hx hb dX1_goBy_14 rfl (lv_at hl 0 rfl) ?_
    refine c1_get C hP hu0 1 (by decide) k1_73 rfl (v := .int (S.1 u0 1)) rfl dX1_goBy_15 ?_
    refine lv_icmp_ge (tgt := 48) hx hb dX1_goBy_18 (by decide) (fun hc4 => ?_) (fun hc4 => ?_)
    · have hf := if_t hc4 hf
      refine lv_iinc (v := x3 + (nI 1)) (lv' := [(3, .int (x3 + (nI 1))), (0, .ref (Γ.2.2 (u0))), (1, .int x1), (2, .int x2), (4, .int x4)]) hx hb dX1_goBy_48 hl (k := 3) rfl rfl (by decide) rfl (fun ls hl => ?_)
      refine lv_goto (tgt := 4) hx hb dX1_goBy_51 (by decide) ?_
      exact hK4 S x1 x2 (x3 + (nI 1))  hf _ _ _ hP (lv_sub hl [1, 2, 3, 0] rfl)
    · have hf := if_f hc4 hf
      refine lv_iload_n hx hb dX1_goBy_21 rfl (lv_at hl 2 rfl) ?_
      refine lv_aload_n hx hb dX1_goBy_22 rfl (lv_at hl 0 rfl) ?_
      refine c1_get C hP hu0 0 (by decide) k1_70 rfl (v := .ref (Γ.2.2 (u0 + 3))) rfl dX1_goBy_23 ?_
      refine lv_iload hx hb dX1_goBy_26 (lv_at hl 4 rfl) ?_
      refine gi_i hf (fun hi5 hj6 hf => ?_)
      refine c_aldQ (q := u0) C hP hu0 hi5 dX1_goBy_28 ?_
      refine bd_i hf (fun v7 S7 hq7 hf => ?_)
      refine goI (runV (rest := [.int x2]) (mX3_minuteGoes l Γ (by omega) hq7) C hP hl.1 (by have := (show 7 ≤ 5 * u0 + 2 + (x4).toNatClampNeg ∧ 5 * u0 + 2 + (x4).toNatClampNeg ≤ 21 by omega); omega) (cE3 (by omega)) rfl k2_17 qX3_minuteGoes.1 qX3_minuteGoes.2.1 qX3_minuteGoes.2.2.1 qX3_minuteGoes.2.2.2.1 rfl qX3_minuteGoes.2.2.2.2 ⟨Nat.le_of_ble_eq_true rfl, Nat.le_of_ble_eq_true rfl⟩ ⟨Nat.le_refl 0, Nat.le_refl 0⟩ (Nat.le_of_ble_eq_true rfl) dX1_goBy_29) hP (fun H locs hP => ?_)
      refine lv_if_eq (tgt := 39) hx hb dX1_goBy_32 (by decide) (fun hc8 => ?_) (fun hc8 => ?_)
      · have hf := if_t hc8 hf
        refine lv_iconst (v := nI 0) hx hb dX1_goBy_39 rfl ?_
        exact wX1_goBy_40 C hu0 hK4 ih  S7 x1 x3 x4 x2 (nI 0)  hf _ _ _ hP (lv_sub hl [0, 1, 3, 4] rfl)
      · have hf := if_f hc8 hf
        refine lv_iconst (v := nI 1) hx hb dX1_goBy_35 rfl ?_
        refine lv_goto (tgt := 40) hx hb dX1_goBy_36 (by decide) ?_
        exact wX1_goBy_40 C hu0 hK4 ih  S7 x1 x3 x4 x2 (nI 1)  hf _ _ _ hP (lv_sub hl [0, 1, 3, 4] rfl)
def fX1_goBy_4 (u0 : Nat)  : Nat → cM → Int32 → Int32 → Int32 → Option (Int32 × cM)
  | 0, _, _, _, _ => none
  | n + 1, S, x1, x2, x3 =>
    if x1 ≤ x3 then sv (cS S u0 2 ((S.1 u0 2) + x1)) fun S2 => ( sv (cS S2 u0 3 ((S2.1 u0 3) + x2)) fun S3 => ( some (x2, S3))) else fX1_goBy_12 u0 (fX1_goBy_4 u0  n) lF S x1 x2 x3 (nI 0)
set_option maxHeartbeats 4000000 in
set_option maxRecDepth 100000 in
theorem wX1_goBy_4 {p : Program} {l : Launch} {e : Env} {s : State} {m : MethodId} {args : Array Value} {below : List Frame} {meth : Method} {c : Code} {Γ : gG} {rz : Int32} {Sz : cM} (C : Cx Γ 74 p s m args meth c RX1 cX1_goBy 5 (some .int)) {u0 : Nat} (hu0 : 1 ≤ u0 ∧ u0 ≤ 3)  : ∀ n : Nat, ∀ (S : cM) (x1 : Int32) (x2 : Int32) (x3 : Int32) , fX1_goBy_4 u0  n S x1 x2 x3 = some (rz, Sz) → ∀ (H : Heap) (locs : List Loc) (ls : Array Slot), St Γ 74 (cE Γ S) s.heap H locs → lv_has ls 5 [(0, .ref (Γ.2.2 (u0))), (1, .int x1), (2, .int x2), (3, .int x3)] → W p l e { frames := 2, cells := 0, slots := 0, locals := 42 } s m args below meth c H locs 0 0 (MQ below (gQi Γ 74 rz (cE Γ Sz)) args s 0 0 (wA Γ 74)) (F0 m 4 ls []) := by
  obtain ⟨hx, hb, -, -, hown, hts, -, hwx, -⟩ := id C
  intro n
  induction n with
  | zero =>
    intro S x1 x2 x3 hf
    unfold fX1_goBy_4 at hf
    cases hf
  | succ n ih =>
    intro S x1 x2 x3 hf H locs ls hP hl
    unfold fX1_goBy_4 at hf
    refine lv_iload_n hx hb dX1_goBy_4 rfl (lv_at hl 3 rfl) ?_
    refine lv_iload_n hx hb dX1_goBy_5 rfl (lv_at hl 1 rfl) ?_
    refine lv_icmp_ge (tgt := 54) hx hb dX1_goBy_6 (by decide) (fun hc1 => ?_) (fun hc1 => ?_)
    · have hf := if_t hc1 hf
      refine lv_aload_n hx hb dX1_goBy_54 rfl (lv_at hl 0 rfl) ?_
      refine lv_dup hx hb dX1_goBy_55 rfl ?_
      refine c1_get C hP hu0 2 (by decide) k1_76 rfl (v := .int (S.1 u0 2)) rfl dX1_goBy_56 ?_
      refine lv_iload_n hx hb dX1_goBy_59 rfl (lv_at hl 1 rfl) ?_
      refine lv_iadd hx hb dX1_goBy_60 ?_
      refine c1_put C hP hu0 2 (by decide) k1_76 dX1_goBy_61 (fun H locs hP => ?_)
      refine sv_i hf (fun S2 e2 hf => ?_)
      rw [← e2] at hP
      refine lv_aload_n hx hb dX1_goBy_64 rfl (lv_at hl 0 rfl) ?_
      refine lv_dup hx hb dX1_goBy_65 rfl ?_
      refine c1_get C hP hu0 3 (by decide) k1_78 rfl (v := .int (S2.1 u0 3)) rfl dX1_goBy_66 ?_
      refine lv_iload_n hx hb dX1_goBy_69 rfl (lv_at hl 2 rfl) ?_
      refine lv_iadd hx hb dX1_goBy_70 ?_
      refine c1_put C hP hu0 3 (by decide) k1_78 dX1_goBy_71 (fun H locs hP => ?_)
      refine sv_i hf (fun S3 e3 hf => ?_)
      rw [← e3] at hP
      refine lv_iload_n hx hb dX1_goBy_74 rfl (lv_at hl 2 rfl) ?_
      exact r_iret (X := cE Γ) C hP hf dX1_goBy_75
    · have hf := if_f hc1 hf
      refine lv_iconst (v := nI 0) hx hb dX1_goBy_9 rfl ?_
      refine lv_istore (lv' := [(4, .int (nI 0)), (0, .ref (Γ.2.2 (u0))), (1, .int x1), (2, .int x2), (3, .int x3)]) hx hb dX1_goBy_10 hl (by decide) rfl (fun ls hl => ?_)
      exact wX1_goBy_12 C hu0 ih lF S x1 x2 x3 (nI 0)  hf _ _ _ hP (lv_sub hl [1, 2, 3, 4, 0] rfl)
def fX1_goBy (u0 : Nat) (S : cM) (x1 : Int32) : Option (Int32 × cM) :=
  fX1_goBy_4 u0  lF S x1 (nI 0) (nI 0)
set_option maxHeartbeats 4000000 in
set_option maxRecDepth 100000 in
theorem mX1_goBy (l : Launch) (Γ : gG) {u0 : Nat} (hu0 : 1 ≤ u0 ∧ u0 ≤ 3) {S : cM} {x1 : Int32} {rz : Int32} {Sz : cM} (hf : fX1_goBy u0 S x1 = some (rz, Sz)) : CtI l Γ 74 yX1_goBy cX1_goBy 5 .int 2 42 [.ref (Γ.2.2 (u0)), .int x1] (cE Γ S) rz (cE Γ Sz) := by
  refine met_body (Γ := Γ) (lv := [(0, .ref (Γ.2.2 (u0))), (1, .int x1)]) RX1 (by decide) rfl rfl rfl ?_
  intro p e s m below meth c H locs ls C hP hl
  obtain ⟨hx, hb, -, -, hown, hts, -, hwx, -⟩ := id C
  unfold fX1_goBy at hf
  refine lv_iconst (v := nI 0) hx hb dX1_goBy_0 rfl ?_
  refine lv_istore_n (lv' := [(2, .int (nI 0)), (0, .ref (Γ.2.2 (u0))), (1, .int x1)]) hx hb dX1_goBy_1 rfl hl (by decide) rfl (fun ls hl => ?_)
  refine lv_iconst (v := nI 0) hx hb dX1_goBy_2 rfl ?_
  refine lv_istore_n (lv' := [(3, .int (nI 0)), (2, .int (nI 0)), (0, .ref (Γ.2.2 (u0))), (1, .int x1)]) hx hb dX1_goBy_3 rfl hl (by decide) rfl (fun ls hl => ?_)
  exact wX1_goBy_4 C hu0  lF S x1 (nI 0) (nI 0)  hf _ _ _ hP (lv_sub hl [2, 3, 1, 0] rfl)
-- X1_seemingLane
theorem qX1_seemingLane : Cond.instanceMethod yX1_seemingLane ∈ Ub ∧ Cond.selects RX1 yX1_seemingLane yX1_seemingLane ∈ Ub ∧ Cond.initialized RX1 ∈ Ub ∧ Cond.code yX1_seemingLane cX1_seemingLane 5 (some FieldType.int) ∈ Ub ∧ (yX1_seemingLane.cls = RX1 ∧ yX1_seemingLane.cls ≠ "java/lang/invoke/MethodHandle" ∧ yX1_seemingLane.cls ≠ "java/lang/invoke/VarHandle" ∧ (parseMethodDescriptor yX1_seemingLane.desc).map (fun d => d.parameters.length) = some 0) := ⟨k2_100, k2_101, k1_2, k2_102, by decide +kernel⟩
def fX1_seemingLane_50 (u0 : Nat) (K8 : cM → Int32 → Int32 → Int32 → Option (Int32 × cM)) (S : cM) (x1 : Int32) (x2 : Int32) (x3 : Int32) : Option (Int32 × cM) :=
  K8 S x1 x2 (x3 + (nI 1))
set_option maxHeartbeats 4000000 in
set_option maxRecDepth 100000 in
theorem wX1_seemingLane_50 {p : Program} {l : Launch} {e : Env} {s : State} {m : MethodId} {args : Array Value} {below : List Frame} {meth : Method} {c : Code} {Γ : gG} {rz : Int32} {Sz : cM} (C : Cx Γ 74 p s m args meth c RX1 cX1_seemingLane 5 (some .int)) {u0 : Nat} (hu0 : 1 ≤ u0 ∧ u0 ≤ 3) {K8 : cM → Int32 → Int32 → Int32 → Option (Int32 × cM)} (hK8 : ∀ (S : cM) (x1 : Int32) (x2 : Int32) (x3 : Int32) , K8 S x1 x2 x3 = some (rz, Sz) → ∀ (H : Heap) (locs : List Loc) (ls : Array Slot), St Γ 74 (cE Γ S) s.heap H locs → lv_has ls 5 [(0, .ref (Γ.2.2 (u0))), (1, .int x1), (2, .int x2), (3, .int x3)] → W p l e { frames := 4, cells := 0, slots := 0, locals := 87 } s m args below meth c H locs 0 0 (MQ below (gQi Γ 74 rz (cE Γ Sz)) args s 0 0 (wA Γ 74)) (F0 m 8 ls [])) : ∀ (S : cM) (x1 : Int32) (x2 : Int32) (x3 : Int32) , fX1_seemingLane_50 u0 K8 S x1 x2 x3 = some (rz, Sz) → ∀ (H : Heap) (locs : List Loc) (ls : Array Slot), St Γ 74 (cE Γ S) s.heap H locs → lv_has ls 5 [(0, .ref (Γ.2.2 (u0))), (1, .int x1), (2, .int x2), (3, .int x3)] → W p l e { frames := 4, cells := 0, slots := 0, locals := 87 } s m args below meth c H locs 0 0 (MQ below (gQi Γ 74 rz (cE Γ Sz)) args s 0 0 (wA Γ 74)) (F0 m 50 ls []) := by
  obtain ⟨hx, hb, -, -, hown, hts, -, hwx, -⟩ := id C
  intro S x1 x2 x3 hf H locs ls hP hl
  unfold fX1_seemingLane_50 at hf
  refine lv_iinc (v := x3 + (nI 1)) (lv' := [(3, .int (x3 + (nI 1))), (0, .ref (Γ.2.2 (u0))), (1, .int x1), (2, .int x2)]) hx hb dX1_seemingLane_50 hl (k := 3) rfl rfl (by decide) rfl (fun ls hl => ?_)
  refine lv_goto (tgt := 8) hx hb dX1_seemingLane_53 (by decide) ?_
  exact hK8 S x1 x2 (x3 + (nI 1))  hf _ _ _ hP (lv_sub hl [1, 2, 3, 0] rfl)
def fX1_seemingLane_8 (u0 : Nat)  : Nat → cM → Int32 → Int32 → Int32 → Option (Int32 × cM)
  | 0, _, _, _, _ => none
  | n + 1, S, x1, x2, x3 =>
    if (S.1 u0 1) ≤ x3 then some (x1, S) else gi x3 5 (bd (fX3_seemsNow (5 * u0 + 2 + (x3).toNatClampNeg) S) fun v4 S4 => ( gi x3 5 (bd (fX3_mayBeChosen (5 * u0 + 2 + (x3).toNatClampNeg) S4) fun v7 S7 => ( if v7 = 0 then fX1_seemingLane_50 u0 (fX1_seemingLane_8 u0  n)  S7 x1 x2 x3 else if x2 ≤ v4 then fX1_seemingLane_50 u0 (fX1_seemingLane_8 u0  n)  S7 x1 x2 x3 else fX1_seemingLane_50 u0 (fX1_seemingLane_8 u0  n)  S7 x3 v4 x3))))
set_option maxHeartbeats 4000000 in
set_option maxRecDepth 100000 in
theorem wX1_seemingLane_8 {p : Program} {l : Launch} {e : Env} {s : State} {m : MethodId} {args : Array Value} {below : List Frame} {meth : Method} {c : Code} {Γ : gG} {rz : Int32} {Sz : cM} (C : Cx Γ 74 p s m args meth c RX1 cX1_seemingLane 5 (some .int)) {u0 : Nat} (hu0 : 1 ≤ u0 ∧ u0 ≤ 3)  : ∀ n : Nat, ∀ (S : cM) (x1 : Int32) (x2 : Int32) (x3 : Int32) , fX1_seemingLane_8 u0  n S x1 x2 x3 = some (rz, Sz) → ∀ (H : Heap) (locs : List Loc) (ls : Array Slot), St Γ 74 (cE Γ S) s.heap H locs → lv_has ls 5 [(0, .ref (Γ.2.2 (u0))), (1, .int x1), (2, .int x2), (3, .int x3)] → W p l e { frames := 4, cells := 0, slots := 0, locals := 87 } s m args below meth c H locs 0 0 (MQ below (gQi Γ 74 rz (cE Γ Sz)) args s 0 0 (wA Γ 74)) (F0 m 8 ls []) := by
  obtain ⟨hx, hb, -, -, hown, hts, -, hwx, -⟩ := id C
  intro n
  induction n with
  | zero =>
    intro S x1 x2 x3 hf
    unfold fX1_seemingLane_8 at hf
    cases hf
  | succ n ih =>
    intro S x1 x2 x3 hf H locs ls hP hl
    unfold fX1_seemingLane_8 at hf
    refine lv_iload_n hx hb dX1_seemingLane_8 rfl (lv_at hl 3 rfl) ?_
    refine lv_aload_n hx hb dX1_seemingLane_9 rfl (lv_at hl 0 rfl) ?_
    refine c1_get C hP hu0 1 (by decide) k1_73 rfl (v := .int (S.1 u0 1)) rfl dX1_seemingLane_10 ?_
    refine lv_icmp_ge (tgt := 56) hx hb dX1_seemingLane_13 (by decide) (fun hc1 => ?_) (fun hc1 => ?_)
    · have hf := if_t hc1 hf
      refine lv_iload_n hx hb dX1_seemingLane_56 rfl (lv_at hl 1 rfl) ?_
      exact r_iret (X := cE Γ) C hP hf dX1_seemingLane_57
    · have hf := if_f hc1 hf
      refine lv_aload_n hx hb dX1_seemingLane_16 rfl (lv_at hl 0 rfl) ?_
      refine c1_get C hP hu0 0 (by decide) k1_70 rfl (v := .ref (Γ.2.2 (u0 + 3))) rfl dX1_seemingLane_17 ?_
      refine lv_iload_n hx hb dX1_seemingLane_20 rfl (lv_at hl 3 rfl) ?_
      refine gi_i hf (fun hi2 hj3 hf => ?_)
      refine c_aldQ (q := u0) C hP hu0 hi2 dX1_seemingLane_21 ?_
      refine bd_i hf (fun v4 S4 hq4 hf => ?_)
      refine goI (runV (rest := []) (mX3_seemsNow l Γ (by omega) hq4) C hP hl.1 (by have := (show 7 ≤ 5 * u0 + 2 + (x3).toNatClampNeg ∧ 5 * u0 + 2 + (x3).toNatClampNeg ≤ 21 by omega); omega) (cE3 (by omega)) rfl k2_104 qX3_seemsNow.1 qX3_seemsNow.2.1 qX3_seemsNow.2.2.1 qX3_seemsNow.2.2.2.1 rfl qX3_seemsNow.2.2.2.2 ⟨Nat.le_of_ble_eq_true rfl, Nat.le_of_ble_eq_true rfl⟩ ⟨Nat.le_refl 0, Nat.le_refl 0⟩ (Nat.le_of_ble_eq_true rfl) dX1_seemingLane_22) hP (fun H locs hP => ?_)
      refine lv_istore (lv' := [(4, .int v4), (0, .ref (Γ.2.2 (u0))), (1, .int x1), (2, .int x2), (3, .int x3)]) hx hb dX1_seemingLane_25 hl (by decide) rfl (fun ls hl => ?_)
      refine lv_aload_n hx hb dX1_seemingLane_27 rfl (lv_at hl 1 rfl) ?_
      refine c1_get C hP hu0 0 (by decide) k1_70 rfl (v := .ref (Γ.2.2 (u0 + 3))) rfl dX1_seemingLane_28 ?_
      refine lv_iload_n hx hb dX1_seemingLane_31 rfl (lv_at hl 4 rfl) ?_
      refine gi_i hf (fun hi5 hj6 hf => ?_)
      refine c_aldQ (q := u0) C hP hu0 hi5 dX1_seemingLane_32 ?_
      refine bd_i hf (fun v7 S7 hq7 hf => ?_)
      refine goI (runV (rest := []) (mX3_mayBeChosen l Γ (by omega) hq7) C hP hl.1 (by have := (show 7 ≤ 5 * u0 + 2 + (x3).toNatClampNeg ∧ 5 * u0 + 2 + (x3).toNatClampNeg ≤ 21 by omega); omega) (cE3 (by omega)) rfl k2_105 qX3_mayBeChosen.1 qX3_mayBeChosen.2.1 qX3_mayBeChosen.2.2.1 qX3_mayBeChosen.2.2.2.1 rfl qX3_mayBeChosen.2.2.2.2 ⟨Nat.le_of_ble_eq_true rfl, Nat.le_of_ble_eq_true rfl⟩ ⟨Nat.le_refl 0, Nat.le_refl 0⟩ (Nat.le_of_ble_eq_true rfl) dX1_seemingLane_33) hP (fun H locs hP => ?_)
      refine lv_if_eq (tgt := 50) hx hb dX1_seemingLane_36 (by decide) (fun hc8 => ?_) (fun hc8 => ?_)
      · have hf := if_t hc8 hf
        exact wX1_seemingLane_50 C hu0 ih  S7 x1 x2 x3  hf _ _ _ hP (lv_sub hl [1, 2, 3, 4] rfl)
      · have hf := if_f hc8 hf
        refine lv_iload hx hb dX1_seemingLane_39 (lv_at hl 0 rfl) ?_
        refine lv_iload_n hx hb dX1_seemingLane_41 rfl (lv_at hl 3 rfl) ?_
        refine lv_icmp_ge (tgt := 50) hx hb dX1_seemingLane_42 (by decide) (fun hc9 => ?_) (fun hc9 => ?_)
        · have hf := if_t hc9 hf
          exact wX1_seemingLane_50 C hu0 ih  S7 x1 x2 x3  hf _ _ _ hP (lv_sub hl [1, 2, 3, 4] rfl)
        · have hf := if_f hc9 hf
          refine lv_iload hx hb dX1_seemingLane_45 (lv_at hl 0 rfl) ?_
          refine lv_istore_n (lv' := [(2, .int v4), (4, .int v4), (0, .ref (Γ.2.2 (u0))), (1, .int x1), (3, .int x3)]) hx hb dX1_seemingLane_47 rfl hl (by decide) rfl (fun ls hl => ?_)
          refine lv_iload_n hx hb dX1_seemingLane_48 rfl (lv_at hl 4 rfl) ?_
          refine lv_istore_n (lv' := [(1, .int x3), (2, .int v4), (4, .int v4), (0, .ref (Γ.2.2 (u0))), (3, .int x3)]) hx hb dX1_seemingLane_49 rfl hl (by decide) rfl (fun ls hl => ?_)
          exact wX1_seemingLane_50 C hu0 ih  S7 x3 v4 x3  hf _ _ _ hP (lv_sub hl [3, 0, 1, 4] rfl)
def fX1_seemingLane (u0 : Nat) (S : cM)  : Option (Int32 × cM) :=
  fX1_seemingLane_8 u0  lF S (-4) (nI 2147483647) (nI 0)
set_option maxHeartbeats 4000000 in
set_option maxRecDepth 100000 in
theorem mX1_seemingLane (l : Launch) (Γ : gG) {u0 : Nat} (hu0 : 1 ≤ u0 ∧ u0 ≤ 3) {S : cM}  {rz : Int32} {Sz : cM} (hf : fX1_seemingLane u0 S = some (rz, Sz)) : CtI l Γ 74 yX1_seemingLane cX1_seemingLane 5 .int 4 87 [.ref (Γ.2.2 (u0))] (cE Γ S) rz (cE Γ Sz) := by
  refine met_body (Γ := Γ) (lv := [(0, .ref (Γ.2.2 (u0)))]) RX1 (by decide) rfl rfl rfl ?_
  intro p e s m below meth c H locs ls C hP hl
  obtain ⟨hx, hb, -, -, hown, hts, -, hwx, -⟩ := id C
  unfold fX1_seemingLane at hf
  refine lv_bipush (v := (-4)) hx hb dX1_seemingLane_0 rfl ?_
  refine lv_istore_n (lv' := [(1, .int ((-4))), (0, .ref (Γ.2.2 (u0)))]) hx hb dX1_seemingLane_2 rfl hl (by decide) rfl (fun ls hl => ?_)
  refine lv_ldc (v := 2147483647) hx hb hown (hts _ k2_103) dX1_seemingLane_3 ?_
  rw [show (2147483647 : Int32) = nI 2147483647 from rfl]
  refine lv_istore_n (lv' := [(2, .int (nI 2147483647)), (1, .int ((-4))), (0, .ref (Γ.2.2 (u0)))]) hx hb dX1_seemingLane_5 rfl hl (by decide) rfl (fun ls hl => ?_)
  refine lv_iconst (v := nI 0) hx hb dX1_seemingLane_6 rfl ?_
  refine lv_istore_n (lv' := [(3, .int (nI 0)), (2, .int (nI 2147483647)), (1, .int ((-4))), (0, .ref (Γ.2.2 (u0)))]) hx hb dX1_seemingLane_7 rfl hl (by decide) rfl (fun ls hl => ?_)
  exact wX1_seemingLane_8 C hu0  lF S (-4) (nI 2147483647) (nI 0)  hf _ _ _ hP (lv_sub hl [3, 2, 1, 0] rfl)
-- X1_quickestLane
theorem qX1_quickestLane : Cond.instanceMethod yX1_quickestLane ∈ Ub ∧ Cond.selects RX1 yX1_quickestLane yX1_quickestLane ∈ Ub ∧ Cond.initialized RX1 ∈ Ub ∧ Cond.code yX1_quickestLane cX1_quickestLane 6 (some FieldType.int) ∈ Ub ∧ (yX1_quickestLane.cls = RX1 ∧ yX1_quickestLane.cls ≠ "java/lang/invoke/MethodHandle" ∧ yX1_quickestLane.cls ≠ "java/lang/invoke/VarHandle" ∧ (parseMethodDescriptor yX1_quickestLane.desc).map (fun d => d.parameters.length) = some 1) := ⟨k2_115, k2_116, k1_2, k2_117, by decide +kernel⟩
def fX1_quickestLane_56 (u0 : Nat) (K9 : cM → Int32 → Int32 → Int32 → Int32 → Option (Int32 × cM)) (S : cM) (x1 : Int32) (x2 : Int32) (x3 : Int32) (x4 : Int32) : Option (Int32 × cM) :=
  K9 S x1 x2 x3 (x4 + (nI 1))
set_option maxHeartbeats 4000000 in
set_option maxRecDepth 100000 in
theorem wX1_quickestLane_56 {p : Program} {l : Launch} {e : Env} {s : State} {m : MethodId} {args : Array Value} {below : List Frame} {meth : Method} {c : Code} {Γ : gG} {rz : Int32} {Sz : cM} (C : Cx Γ 74 p s m args meth c RX1 cX1_quickestLane 6 (some .int)) {u0 : Nat} (hu0 : 1 ≤ u0 ∧ u0 ≤ 3) {K9 : cM → Int32 → Int32 → Int32 → Int32 → Option (Int32 × cM)} (hK9 : ∀ (S : cM) (x1 : Int32) (x2 : Int32) (x3 : Int32) (x4 : Int32) , K9 S x1 x2 x3 x4 = some (rz, Sz) → ∀ (H : Heap) (locs : List Loc) (ls : Array Slot), St Γ 74 (cE Γ S) s.heap H locs → lv_has ls 6 [(0, .ref (Γ.2.2 (u0))), (1, .int x1), (2, .int x2), (3, .int x3), (4, .int x4)] → W p l e { frames := 3, cells := 0, slots := 0, locals := 65 } s m args below meth c H locs 0 0 (MQ below (gQi Γ 74 rz (cE Γ Sz)) args s 0 0 (wA Γ 74)) (F0 m 9 ls [])) : ∀ (S : cM) (x1 : Int32) (x2 : Int32) (x3 : Int32) (x4 : Int32) , fX1_quickestLane_56 u0 K9 S x1 x2 x3 x4 = some (rz, Sz) → ∀ (H : Heap) (locs : List Loc) (ls : Array Slot), St Γ 74 (cE Γ S) s.heap H locs → lv_has ls 6 [(0, .ref (Γ.2.2 (u0))), (1, .int x1), (2, .int x2), (3, .int x3), (4, .int x4)] → W p l e { frames := 3, cells := 0, slots := 0, locals := 65 } s m args below meth c H locs 0 0 (MQ below (gQi Γ 74 rz (cE Γ Sz)) args s 0 0 (wA Γ 74)) (F0 m 56 ls []) := by
  obtain ⟨hx, hb, -, -, hown, hts, -, hwx, -⟩ := id C
  intro S x1 x2 x3 x4 hf H locs ls hP hl
  unfold fX1_quickestLane_56 at hf
  refine lv_iinc (v := x4 + (nI 1)) (lv' := [(4, .int (x4 + (nI 1))), (0, .ref (Γ.2.2 (u0))), (1, .int x1), (2, .int x2), (3, .int x3)]) hx hb dX1_quickestLane_56 hl (k := 4) rfl rfl (by decide) rfl (fun ls hl => ?_)
  refine lv_goto (tgt := 9) hx hb dX1_quickestLane_59 (by decide) ?_
  exact hK9 S x1 x2 x3 (x4 + (nI 1))  hf _ _ _ hP (lv_sub hl [1, 2, 3, 4, 0] rfl)
def fX1_quickestLane_9 (u0 : Nat)  : Nat → cM → Int32 → Int32 → Int32 → Int32 → Option (Int32 × cM)
  | 0, _, _, _, _, _ => none
  | n + 1, S, x1, x2, x3, x4 =>
    if (S.1 u0 1) ≤ x4 then some (x2, S) else gi x4 5 (bd (fX3_timeOfNext (5 * u0 + 2 + (x4).toNatClampNeg) S x1) fun v4 S4 => ( gi x4 5 (bd (fX3_mayBeChosen (5 * u0 + 2 + (x4).toNatClampNeg) S4) fun v7 S7 => ( if v7 = 0 then fX1_quickestLane_56 u0 (fX1_quickestLane_9 u0  n)  S7 x1 x2 x3 x4 else if x3 ≤ v4 then fX1_quickestLane_56 u0 (fX1_quickestLane_9 u0  n)  S7 x1 x2 x3 x4 else fX1_quickestLane_56 u0 (fX1_quickestLane_9 u0  n)  S7 x1 x4 v4 x4))))
set_option maxHeartbeats 4000000 in
set_option maxRecDepth 100000 in
theorem wX1_quickestLane_9 {p : Program} {l : Launch} {e : Env} {s : State} {m : MethodId} {args : Array Value} {below : List Frame} {meth : Method} {c : Code} {Γ : gG} {rz : Int32} {Sz : cM} (C : Cx Γ 74 p s m args meth c RX1 cX1_quickestLane 6 (some .int)) {u0 : Nat} (hu0 : 1 ≤ u0 ∧ u0 ≤ 3)  : ∀ n : Nat, ∀ (S : cM) (x1 : Int32) (x2 : Int32) (x3 : Int32) (x4 : Int32) , fX1_quickestLane_9 u0  n S x1 x2 x3 x4 = some (rz, Sz) → ∀ (H : Heap) (locs : List Loc) (ls : Array Slot), St Γ 74 (cE Γ S) s.heap H locs → lv_has ls 6 [(0, .ref (Γ.2.2 (u0))), (1, .int x1), (2, .int x2), (3, .int x3), (4, .int x4)] → W p l e { frames := 3, cells := 0, slots := 0, locals := 65 } s m args below meth c H locs 0 0 (MQ below (gQi Γ 74 rz (cE Γ Sz)) args s 0 0 (wA Γ 74)) (F0 m 9 ls []) := by
  obtain ⟨hx, hb, -, -, hown, hts, -, hwx, -⟩ := id C
  intro n
  induction n with
  | zero =>
    intro S x1 x2 x3 x4 hf
    unfold fX1_quickestLane_9 at hf
    cases hf
  | succ n ih =>
    intro S x1 x2 x3 x4 hf H locs ls hP hl
    unfold fX1_quickestLane_9 at hf
    refine lv_iload hx hb dX1_quickestLane_9 (lv_at hl 4 rfl) ?_
    refine lv_aload_n hx hb dX1_quickestLane_11 rfl (lv_at hl 0 rfl) ?_
    refine c1_get C hP hu0 1 (by decide) k1_73 rfl (v := .int (S.1 u0 1)) rfl dX1_quickestLane_12 ?_
    refine lv_icmp_ge (tgt := 62) hx hb dX1_quickestLane_15 (by decide) (fun hc1 => ?_) (fun hc1 => ?_)
    · have hf := if_t hc1 hf
      refine lv_iload_n hx hb dX1_quickestLane_62 rfl (lv_at hl 2 rfl) ?_
      exact r_iret (X := cE Γ) C hP hf dX1_quickestLane_63
    · have hf := if_f hc1 hf
      refine lv_aload_n hx hb dX1_quickestLane_18 rfl (lv_at hl 0 rfl) ?_
      refine c1_get C hP hu0 0 (by decide) k1_70 rfl (v := .ref (Γ.2.2 (u0 + 3))) rfl dX1_quickestLane_19 ?_
      refine lv_iload hx hb dX1_quickestLane_22 (lv_at hl 4 rfl) ?_
      refine gi_i hf (fun hi2 hj3 hf => ?_)
      refine c_aldQ (q := u0) C hP hu0 hi2 dX1_quickestLane_24 ?_
      refine lv_iload_n hx hb dX1_quickestLane_25 rfl (lv_at hl 1 rfl) ?_
      refine bd_i hf (fun v4 S4 hq4 hf => ?_)
      refine goI (runV (rest := []) (mX3_timeOfNext l Γ (by omega) hq4) C hP hl.1 (by have := (show 7 ≤ 5 * u0 + 2 + (x4).toNatClampNeg ∧ 5 * u0 + 2 + (x4).toNatClampNeg ≤ 21 by omega); omega) (cE3 (by omega)) rfl k2_118 qX3_timeOfNext.1 qX3_timeOfNext.2.1 qX3_timeOfNext.2.2.1 qX3_timeOfNext.2.2.2.1 rfl qX3_timeOfNext.2.2.2.2 ⟨Nat.le_of_ble_eq_true rfl, Nat.le_of_ble_eq_true rfl⟩ ⟨Nat.le_refl 0, Nat.le_refl 0⟩ (Nat.le_of_ble_eq_true rfl) dX1_quickestLane_26) hP (fun H locs hP => ?_)
      refine lv_istore (lv' := [(5, .int v4), (0, .ref (Γ.2.2 (u0))), (1, .int x1), (2, .int x2), (3, .int x3), (4, .int x4)]) hx hb dX1_quickestLane_29 hl (by decide) rfl (fun ls hl => ?_)
      refine lv_aload_n hx hb dX1_quickestLane_31 rfl (lv_at hl 1 rfl) ?_
      refine c1_get C hP hu0 0 (by decide) k1_70 rfl (v := .ref (Γ.2.2 (u0 + 3))) rfl dX1_quickestLane_32 ?_
      refine lv_iload hx hb dX1_quickestLane_35 (lv_at hl 5 rfl) ?_
      refine gi_i hf (fun hi5 hj6 hf => ?_)
      refine c_aldQ (q := u0) C hP hu0 hi5 dX1_quickestLane_37 ?_
      refine bd_i hf (fun v7 S7 hq7 hf => ?_)
      refine goI (runV (rest := []) (mX3_mayBeChosen l Γ (by omega) hq7) C hP hl.1 (by have := (show 7 ≤ 5 * u0 + 2 + (x4).toNatClampNeg ∧ 5 * u0 + 2 + (x4).toNatClampNeg ≤ 21 by omega); omega) (cE3 (by omega)) rfl k2_105 qX3_mayBeChosen.1 qX3_mayBeChosen.2.1 qX3_mayBeChosen.2.2.1 qX3_mayBeChosen.2.2.2.1 rfl qX3_mayBeChosen.2.2.2.2 ⟨Nat.le_of_ble_eq_true rfl, Nat.le_of_ble_eq_true rfl⟩ ⟨Nat.le_refl 0, Nat.le_refl 0⟩ (Nat.le_of_ble_eq_true rfl) dX1_quickestLane_38) hP (fun H locs hP => ?_)
      refine lv_if_eq (tgt := 56) hx hb dX1_quickestLane_41 (by decide) (fun hc8 => ?_) (fun hc8 => ?_)
      · have hf := if_t hc8 hf
        exact wX1_quickestLane_56 C hu0 ih  S7 x1 x2 x3 x4  hf _ _ _ hP (lv_sub hl [1, 2, 3, 4, 5] rfl)
      · have hf := if_f hc8 hf
        refine lv_iload hx hb dX1_quickestLane_44 (lv_at hl 0 rfl) ?_
        refine lv_iload_n hx hb dX1_quickestLane_46 rfl (lv_at hl 4 rfl) ?_
        refine lv_icmp_ge (tgt := 56) hx hb dX1_quickestLane_47 (by decide) (fun hc9 => ?_) (fun hc9 => ?_)
        · have hf := if_t hc9 hf
          exact wX1_quickestLane_56 C hu0 ih  S7 x1 x2 x3 x4  hf _ _ _ hP (lv_sub hl [1, 2, 3, 4, 5] rfl)
        · have hf := if_f hc9 hf
          refine lv_iload hx hb dX1_quickestLane_50 (lv_at hl 0 rfl) ?_
          refine lv_istore_n (lv' := [(3, .int v4), (5, .int v4), (0, .ref (Γ.2.2 (u0))), (1, .int x1), (2, .int x2), (4, .int x4)]) hx hb dX1_quickestLane_52 rfl hl (by decide) rfl (fun ls hl => ?_)
          refine lv_iload hx hb dX1_quickestLane_53 (lv_at hl 5 rfl) ?_
          refine lv_istore_n (lv' := [(2, .int x4), (3, .int v4), (5, .int v4), (0, .ref (Γ.2.2 (u0))), (1, .int x1), (4, .int x4)]) hx hb dX1_quickestLane_55 rfl hl (by decide) rfl (fun ls hl => ?_)
          exact wX1_quickestLane_56 C hu0 ih  S7 x1 x4 v4 x4  hf _ _ _ hP (lv_sub hl [3, 4, 0, 1, 5] rfl)
def fX1_quickestLane (u0 : Nat) (S : cM) (x1 : Int32) : Option (Int32 × cM) :=
  fX1_quickestLane_9 u0  lF S x1 (-4) (nI 2147483647) (nI 0)
set_option maxHeartbeats 4000000 in
set_option maxRecDepth 100000 in
theorem mX1_quickestLane (l : Launch) (Γ : gG) {u0 : Nat} (hu0 : 1 ≤ u0 ∧ u0 ≤ 3) {S : cM} {x1 : Int32} {rz : Int32} {Sz : cM} (hf : fX1_quickestLane u0 S x1 = some (rz, Sz)) : CtI l Γ 74 yX1_quickestLane cX1_quickestLane 6 .int 3 65 [.ref (Γ.2.2 (u0)), .int x1] (cE Γ S) rz (cE Γ Sz) := by
  refine met_body (Γ := Γ) (lv := [(0, .ref (Γ.2.2 (u0))), (1, .int x1)]) RX1 (by decide) rfl rfl rfl ?_
  intro p e s m below meth c H locs ls C hP hl
  obtain ⟨hx, hb, -, -, hown, hts, -, hwx, -⟩ := id C
  unfold fX1_quickestLane at hf
  refine lv_bipush (v := (-4)) hx hb dX1_quickestLane_0 rfl ?_
  refine lv_istore_n (lv' := [(2, .int ((-4))), (0, .ref (Γ.2.2 (u0))), (1, .int x1)]) hx hb dX1_quickestLane_2 rfl hl (by decide) rfl (fun ls hl => ?_)
  refine lv_ldc (v := 2147483647) hx hb hown (hts _ k2_103) dX1_quickestLane_3 ?_
  rw [show (2147483647 : Int32) = nI 2147483647 from rfl]
  refine lv_istore_n (lv' := [(3, .int (nI 2147483647)), (2, .int ((-4))), (0, .ref (Γ.2.2 (u0))), (1, .int x1)]) hx hb dX1_quickestLane_5 rfl hl (by decide) rfl (fun ls hl => ?_)
  refine lv_iconst (v := nI 0) hx hb dX1_quickestLane_6 rfl ?_
  refine lv_istore (lv' := [(4, .int (nI 0)), (3, .int (nI 2147483647)), (2, .int ((-4))), (0, .ref (Γ.2.2 (u0))), (1, .int x1)]) hx hb dX1_quickestLane_7 hl (by decide) rfl (fun ls hl => ?_)
  exact wX1_quickestLane_9 C hu0  lF S x1 (-4) (nI 2147483647) (nI 0)  hf _ _ _ hP (lv_sub hl [3, 4, 2, 1, 0] rfl)
-- X1_leastTime
theorem qX1_leastTime : Cond.instanceMethod yX1_leastTime ∈ Ub ∧ Cond.selects RX1 yX1_leastTime yX1_leastTime ∈ Ub ∧ Cond.initialized RX1 ∈ Ub ∧ Cond.code yX1_leastTime cX1_leastTime 3 (some FieldType.int) ∈ Ub ∧ (yX1_leastTime.cls = RX1 ∧ yX1_leastTime.cls ≠ "java/lang/invoke/MethodHandle" ∧ yX1_leastTime.cls ≠ "java/lang/invoke/VarHandle" ∧ (parseMethodDescriptor yX1_leastTime.desc).map (fun d => d.parameters.length) = some 1) := ⟨k2_128, k2_129, k1_2, k2_130, by decide +kernel⟩
def fX1_leastTime (u0 : Nat) (S : cM) (x1 : Int32) : Option (Int32 × cM) :=
  bd (fX1_quickestLane u0 S x1) fun v1 S1 => ( if v1 < 0 then some (nI 2147483647, S1) else gi v1 5 (bd (fX3_timeOfNext (5 * u0 + 2 + (v1).toNatClampNeg) S1 x1) fun v5 S5 => ( some (v5, S5))))
set_option maxHeartbeats 4000000 in
set_option maxRecDepth 100000 in
theorem mX1_leastTime (l : Launch) (Γ : gG) {u0 : Nat} (hu0 : 1 ≤ u0 ∧ u0 ≤ 3) {S : cM} {x1 : Int32} {rz : Int32} {Sz : cM} (hf : fX1_leastTime u0 S x1 = some (rz, Sz)) : CtI l Γ 74 yX1_leastTime cX1_leastTime 3 .int 4 90 [.ref (Γ.2.2 (u0)), .int x1] (cE Γ S) rz (cE Γ Sz) := by
  refine met_body (Γ := Γ) (lv := [(0, .ref (Γ.2.2 (u0))), (1, .int x1)]) RX1 (by decide) rfl rfl rfl ?_
  intro p e s m below meth c H locs ls C hP hl
  obtain ⟨hx, hb, -, -, hown, hts, -, hwx, -⟩ := id C
  unfold fX1_leastTime at hf
  refine lv_aload_n hx hb dX1_leastTime_0 rfl (lv_at hl 0 rfl) ?_
  refine lv_iload_n hx hb dX1_leastTime_1 rfl (lv_at hl 1 rfl) ?_
  refine bd_i hf (fun v1 S1 hq1 hf => ?_)
  refine goI (runV (rest := []) (mX1_quickestLane l Γ hu0 hq1) C hP hl.1 (by have := hu0; omega) (cE1 hu0) rfl k2_131 qX1_quickestLane.1 qX1_quickestLane.2.1 qX1_quickestLane.2.2.1 qX1_quickestLane.2.2.2.1 rfl qX1_quickestLane.2.2.2.2 ⟨Nat.le_of_ble_eq_true rfl, Nat.le_of_ble_eq_true rfl⟩ ⟨Nat.le_refl 0, Nat.le_refl 0⟩ (Nat.le_of_ble_eq_true rfl) dX1_leastTime_2) hP (fun H locs hP => ?_)
  refine lv_istore_n (lv' := [(2, .int v1), (0, .ref (Γ.2.2 (u0))), (1, .int x1)]) hx hb dX1_leastTime_5 rfl hl (by decide) rfl (fun ls hl => ?_)
  refine lv_iload_n hx hb dX1_leastTime_6 rfl (lv_at hl 0 rfl) ?_
  refine lv_if_lt (tgt := 23) hx hb dX1_leastTime_7 (by decide) (fun hc2 => ?_) (fun hc2 => ?_)
  · have hf := if_t hc2 hf
    refine lv_ldc (v := 2147483647) hx hb hown (hts _ k2_103) dX1_leastTime_23 ?_
    rw [show (2147483647 : Int32) = nI 2147483647 from rfl]
    exact r_iret (X := cE Γ) C hP hf dX1_leastTime_25
  · have hf := if_f hc2 hf
    refine lv_aload_n hx hb dX1_leastTime_10 rfl (lv_at hl 1 rfl) ?_
    refine c1_get C hP hu0 0 (by decide) k1_70 rfl (v := .ref (Γ.2.2 (u0 + 3))) rfl dX1_leastTime_11 ?_
    refine lv_iload_n hx hb dX1_leastTime_14 rfl (lv_at hl 0 rfl) ?_
    refine gi_i hf (fun hi3 hj4 hf => ?_)
    refine c_aldQ (q := u0) C hP hu0 hi3 dX1_leastTime_15 ?_
    refine lv_iload_n hx hb dX1_leastTime_16 rfl (lv_at hl 2 rfl) ?_
    refine bd_i hf (fun v5 S5 hq5 hf => ?_)
    refine goI (runV (rest := []) (mX3_timeOfNext l Γ (by omega) hq5) C hP hl.1 (by have := (show 7 ≤ 5 * u0 + 2 + (v1).toNatClampNeg ∧ 5 * u0 + 2 + (v1).toNatClampNeg ≤ 21 by omega); omega) (cE3 (by omega)) rfl k2_118 qX3_timeOfNext.1 qX3_timeOfNext.2.1 qX3_timeOfNext.2.2.1 qX3_timeOfNext.2.2.2.1 rfl qX3_timeOfNext.2.2.2.2 ⟨Nat.le_of_ble_eq_true rfl, Nat.le_of_ble_eq_true rfl⟩ ⟨Nat.le_refl 0, Nat.le_refl 0⟩ (Nat.le_of_ble_eq_true rfl) dX1_leastTime_17) hP (fun H locs hP => ?_)
    refine lv_goto (tgt := 25) hx hb dX1_leastTime_20 (by decide) ?_
    exact r_iret (X := cE Γ) C hP hf dX1_leastTime_25
-- X1_timesTogether
theorem qX1_timesTogether : Cond.instanceMethod yX1_timesTogether ∈ Ub ∧ Cond.selects RX1 yX1_timesTogether yX1_timesTogether ∈ Ub ∧ Cond.initialized RX1 ∈ Ub ∧ Cond.code yX1_timesTogether cX1_timesTogether 3 (some FieldType.int) ∈ Ub ∧ (yX1_timesTogether.cls = RX1 ∧ yX1_timesTogether.cls ≠ "java/lang/invoke/MethodHandle" ∧ yX1_timesTogether.cls ≠ "java/lang/invoke/VarHandle" ∧ (parseMethodDescriptor yX1_timesTogether.desc).map (fun d => d.parameters.length) = some 0) := ⟨k2_142, k2_143, k1_2, k2_144, by decide +kernel⟩
def fX1_timesTogether_4 (u0 : Nat)  : Nat → cM → Int32 → Int32 → Option (Int32 × cM)
  | 0, _, _, _ => none
  | n + 1, S, x1, x2 =>
    if (S.1 u0 1) ≤ x2 then some (x1, S) else gi x2 5 (bd (fX3_timesTogether (5 * u0 + 2 + (x2).toNatClampNeg) S) fun v4 S4 => ( (fX1_timesTogether_4 u0  n) S4 (x1 + v4) (x2 + (nI 1))))
set_option maxHeartbeats 4000000 in
set_option maxRecDepth 100000 in
theorem wX1_timesTogether_4 {p : Program} {l : Launch} {e : Env} {s : State} {m : MethodId} {args : Array Value} {below : List Frame} {meth : Method} {c : Code} {Γ : gG} {rz : Int32} {Sz : cM} (C : Cx Γ 74 p s m args meth c RX1 cX1_timesTogether 3 (some .int)) {u0 : Nat} (hu0 : 1 ≤ u0 ∧ u0 ≤ 3)  : ∀ n : Nat, ∀ (S : cM) (x1 : Int32) (x2 : Int32) , fX1_timesTogether_4 u0  n S x1 x2 = some (rz, Sz) → ∀ (H : Heap) (locs : List Loc) (ls : Array Slot), St Γ 74 (cE Γ S) s.heap H locs → lv_has ls 3 [(0, .ref (Γ.2.2 (u0))), (1, .int x1), (2, .int x2)] → W p l e { frames := 2, cells := 0, slots := 0, locals := 44 } s m args below meth c H locs 0 0 (MQ below (gQi Γ 74 rz (cE Γ Sz)) args s 0 0 (wA Γ 74)) (F0 m 4 ls []) := by
  obtain ⟨hx, hb, -, -, hown, hts, -, hwx, -⟩ := id C
  intro n
  induction n with
  | zero =>
    intro S x1 x2 hf
    unfold fX1_timesTogether_4 at hf
    cases hf
  | succ n ih =>
    intro S x1 x2 hf H locs ls hP hl
    unfold fX1_timesTogether_4 at hf
    refine lv_iload_n hx hb dX1_timesTogether_4 rfl (lv_at hl 2 rfl) ?_
    refine lv_aload_n hx hb dX1_timesTogether_5 rfl (lv_at hl 0 rfl) ?_
    refine c1_get C hP hu0 1 (by decide) k1_73 rfl (v := .int (S.1 u0 1)) rfl dX1_timesTogether_6 ?_
    refine lv_icmp_ge (tgt := 30) hx hb dX1_timesTogether_9 (by decide) (fun hc1 => ?_) (fun hc1 => ?_)
    · have hf := if_t hc1 hf
      refine lv_iload_n hx hb dX1_timesTogether_30 rfl (lv_at hl 1 rfl) ?_
      exact r_iret (X := cE Γ) C hP hf dX1_timesTogether_31
    · have hf := if_f hc1 hf
      refine lv_iload_n hx hb dX1_timesTogether_12 rfl (lv_at hl 1 rfl) ?_
      refine lv_aload_n hx hb dX1_timesTogether_13 rfl (lv_at hl 0 rfl) ?_
      refine c1_get C hP hu0 0 (by decide) k1_70 rfl (v := .ref (Γ.2.2 (u0 + 3))) rfl dX1_timesTogether_14 ?_
      refine lv_iload_n hx hb dX1_timesTogether_17 rfl (lv_at hl 2 rfl) ?_
      refine gi_i hf (fun hi2 hj3 hf => ?_)
      refine c_aldQ (q := u0) C hP hu0 hi2 dX1_timesTogether_18 ?_
      refine bd_i hf (fun v4 S4 hq4 hf => ?_)
      refine goI (runV (rest := [.int x1]) (mX3_timesTogether l Γ (by omega) hq4) C hP hl.1 (by have := (show 7 ≤ 5 * u0 + 2 + (x2).toNatClampNeg ∧ 5 * u0 + 2 + (x2).toNatClampNeg ≤ 21 by omega); omega) (cE3 (by omega)) rfl k2_145 qX3_timesTogether.1 qX3_timesTogether.2.1 qX3_timesTogether.2.2.1 qX3_timesTogether.2.2.2.1 rfl qX3_timesTogether.2.2.2.2 ⟨Nat.le_of_ble_eq_true rfl, Nat.le_of_ble_eq_true rfl⟩ ⟨Nat.le_refl 0, Nat.le_refl 0⟩ (Nat.le_of_ble_eq_true rfl) dX1_timesTogether_19) hP (fun H locs hP => ?_)
      refine lv_iadd hx hb dX1_timesTogether_22 ?_
      refine lv_istore_n (lv' := [(1, .int (x1 + v4)), (0, .ref (Γ.2.2 (u0))), (2, .int x2)]) hx hb dX1_timesTogether_23 rfl hl (by decide) rfl (fun ls hl => ?_)
      refine lv_iinc (v := x2 + (nI 1)) (lv' := [(2, .int (x2 + (nI 1))), (1, .int (x1 + v4)), (0, .ref (Γ.2.2 (u0)))]) hx hb dX1_timesTogether_24 hl (k := 2) rfl rfl (by decide) rfl (fun ls hl => ?_)
      refine lv_goto (tgt := 4) hx hb dX1_timesTogether_27 (by decide) ?_
      exact ih S4 (x1 + v4) (x2 + (nI 1))  hf _ _ _ hP (lv_sub hl [2, 1, 0] rfl)
def fX1_timesTogether (u0 : Nat) (S : cM)  : Option (Int32 × cM) :=
  fX1_timesTogether_4 u0  lF S (nI 0) (nI 0)
set_option maxHeartbeats 4000000 in
set_option maxRecDepth 100000 in
theorem mX1_timesTogether (l : Launch) (Γ : gG) {u0 : Nat} (hu0 : 1 ≤ u0 ∧ u0 ≤ 3) {S : cM}  {rz : Int32} {Sz : cM} (hf : fX1_timesTogether u0 S = some (rz, Sz)) : CtI l Γ 74 yX1_timesTogether cX1_timesTogether 3 .int 2 44 [.ref (Γ.2.2 (u0))] (cE Γ S) rz (cE Γ Sz) := by
  refine met_body (Γ := Γ) (lv := [(0, .ref (Γ.2.2 (u0)))]) RX1 (by decide) rfl rfl rfl ?_
  intro p e s m below meth c H locs ls C hP hl
  obtain ⟨hx, hb, -, -, hown, hts, -, hwx, -⟩ := id C
  unfold fX1_timesTogether at hf
  refine lv_iconst (v := nI 0) hx hb dX1_timesTogether_0 rfl ?_
  refine lv_istore_n (lv' := [(1, .int (nI 0)), (0, .ref (Γ.2.2 (u0)))]) hx hb dX1_timesTogether_1 rfl hl (by decide) rfl (fun ls hl => ?_)
  refine lv_iconst (v := nI 0) hx hb dX1_timesTogether_2 rfl ?_
  refine lv_istore_n (lv' := [(2, .int (nI 0)), (1, .int (nI 0)), (0, .ref (Γ.2.2 (u0)))]) hx hb dX1_timesTogether_3 rfl hl (by decide) rfl (fun ls hl => ?_)
  exact wX1_timesTogether_4 C hu0  lF S (nI 0) (nI 0)  hf _ _ _ hP (lv_sub hl [2, 1, 0] rfl)
-- X1_carsTogether
theorem qX1_carsTogether : Cond.instanceMethod yX1_carsTogether ∈ Ub ∧ Cond.selects RX1 yX1_carsTogether yX1_carsTogether ∈ Ub ∧ Cond.initialized RX1 ∈ Ub ∧ Cond.code yX1_carsTogether cX1_carsTogether 3 (some FieldType.int) ∈ Ub ∧ (yX1_carsTogether.cls = RX1 ∧ yX1_carsTogether.cls ≠ "java/lang/invoke/MethodHandle" ∧ yX1_carsTogether.cls ≠ "java/lang/invoke/VarHandle" ∧ (parseMethodDescriptor yX1_carsTogether.desc).map (fun d => d.parameters.length) = some 0) := ⟨k3_81, k3_82, k1_2, k3_83, by decide +kernel⟩
def fX1_carsTogether_4 (u0 : Nat)  : Nat → cM → Int32 → Int32 → Option (Int32 × cM)
  | 0, _, _, _ => none
  | n + 1, S, x1, x2 =>
    if (S.1 u0 1) ≤ x2 then some (x1, S) else gi x2 5 ((fX1_carsTogether_4 u0  n) S (x1 + (S.1 (5 * u0 + 2 + (x2).toNatClampNeg) 2)) (x2 + (nI 1)))
set_option maxHeartbeats 4000000 in
set_option maxRecDepth 100000 in
theorem wX1_carsTogether_4 {p : Program} {l : Launch} {e : Env} {s : State} {m : MethodId} {args : Array Value} {below : List Frame} {meth : Method} {c : Code} {Γ : gG} {rz : Int32} {Sz : cM} (C : Cx Γ 74 p s m args meth c RX1 cX1_carsTogether 3 (some .int)) {u0 : Nat} (hu0 : 1 ≤ u0 ∧ u0 ≤ 3)  : ∀ n : Nat, ∀ (S : cM) (x1 : Int32) (x2 : Int32) , fX1_carsTogether_4 u0  n S x1 x2 = some (rz, Sz) → ∀ (H : Heap) (locs : List Loc) (ls : Array Slot), St Γ 74 (cE Γ S) s.heap H locs → lv_has ls 3 [(0, .ref (Γ.2.2 (u0))), (1, .int x1), (2, .int x2)] → W p l e { frames := 0, cells := 0, slots := 0, locals := 0 } s m args below meth c H locs 0 0 (MQ below (gQi Γ 74 rz (cE Γ Sz)) args s 0 0 (wA Γ 74)) (F0 m 4 ls []) := by
  obtain ⟨hx, hb, -, -, hown, hts, -, hwx, -⟩ := id C
  intro n
  induction n with
  | zero =>
    intro S x1 x2 hf
    unfold fX1_carsTogether_4 at hf
    cases hf
  | succ n ih =>
    intro S x1 x2 hf H locs ls hP hl
    unfold fX1_carsTogether_4 at hf
    refine lv_iload_n hx hb dX1_carsTogether_4 rfl (lv_at hl 2 rfl) ?_
    refine lv_aload_n hx hb dX1_carsTogether_5 rfl (lv_at hl 0 rfl) ?_
    refine c1_get C hP hu0 1 (by decide) k1_73 rfl (v := .int (S.1 u0 1)) rfl dX1_carsTogether_6 ?_
    refine lv_icmp_ge (tgt := 30) hx hb dX1_carsTogether_9 (by decide) (fun hc1 => ?_) (fun hc1 => ?_)
    · have hf := if_t hc1 hf
      refine lv_iload_n hx hb dX1_carsTogether_30 rfl (lv_at hl 1 rfl) ?_
      exact r_iret (X := cE Γ) C hP hf dX1_carsTogether_31
    · have hf := if_f hc1 hf
      refine lv_iload_n hx hb dX1_carsTogether_12 rfl (lv_at hl 1 rfl) ?_
      refine lv_aload_n hx hb dX1_carsTogether_13 rfl (lv_at hl 0 rfl) ?_
      refine c1_get C hP hu0 0 (by decide) k1_70 rfl (v := .ref (Γ.2.2 (u0 + 3))) rfl dX1_carsTogether_14 ?_
      refine lv_iload_n hx hb dX1_carsTogether_17 rfl (lv_at hl 2 rfl) ?_
      refine gi_i hf (fun hi2 hj3 hf => ?_)
      refine c_aldQ (q := u0) C hP hu0 hi2 dX1_carsTogether_18 ?_
      refine c3_get C hP (by omega) 2 (by decide) k1_45 rfl (v := .int (S.1 (5 * u0 + 2 + (x2).toNatClampNeg) 2)) rfl dX1_carsTogether_19 ?_
      refine lv_iadd hx hb dX1_carsTogether_22 ?_
      refine lv_istore_n (lv' := [(1, .int (x1 + (S.1 (5 * u0 + 2 + (x2).toNatClampNeg) 2))), (0, .ref (Γ.2.2 (u0))), (2, .int x2)]) hx hb dX1_carsTogether_23 rfl hl (by decide) rfl (fun ls hl => ?_)
      refine lv_iinc (v := x2 + (nI 1)) (lv' := [(2, .int (x2 + (nI 1))), (1, .int (x1 + (S.1 (5 * u0 + 2 + (x2).toNatClampNeg) 2))), (0, .ref (Γ.2.2 (u0)))]) hx hb dX1_carsTogether_24 hl (k := 2) rfl rfl (by decide) rfl (fun ls hl => ?_)
      refine lv_goto (tgt := 4) hx hb dX1_carsTogether_27 (by decide) ?_
      exact ih S (x1 + (S.1 (5 * u0 + 2 + (x2).toNatClampNeg) 2)) (x2 + (nI 1))  hf _ _ _ hP (lv_sub hl [2, 1, 0] rfl)
def fX1_carsTogether (u0 : Nat) (S : cM)  : Option (Int32 × cM) :=
  fX1_carsTogether_4 u0  lF S (nI 0) (nI 0)
set_option maxHeartbeats 4000000 in
set_option maxRecDepth 100000 in
theorem mX1_carsTogether (l : Launch) (Γ : gG) {u0 : Nat} (hu0 : 1 ≤ u0 ∧ u0 ≤ 3) {S : cM}  {rz : Int32} {Sz : cM} (hf : fX1_carsTogether u0 S = some (rz, Sz)) : CtI l Γ 74 yX1_carsTogether cX1_carsTogether 3 .int 0 0 [.ref (Γ.2.2 (u0))] (cE Γ S) rz (cE Γ Sz) := by
  refine met_body (Γ := Γ) (lv := [(0, .ref (Γ.2.2 (u0)))]) RX1 (by decide) rfl rfl rfl ?_
  intro p e s m below meth c H locs ls C hP hl
  obtain ⟨hx, hb, -, -, hown, hts, -, hwx, -⟩ := id C
  unfold fX1_carsTogether at hf
  refine lv_iconst (v := nI 0) hx hb dX1_carsTogether_0 rfl ?_
  refine lv_istore_n (lv' := [(1, .int (nI 0)), (0, .ref (Γ.2.2 (u0)))]) hx hb dX1_carsTogether_1 rfl hl (by decide) rfl (fun ls hl => ?_)
  refine lv_iconst (v := nI 0) hx hb dX1_carsTogether_2 rfl ?_
  refine lv_istore_n (lv' := [(2, .int (nI 0)), (1, .int (nI 0)), (0, .ref (Γ.2.2 (u0)))]) hx hb dX1_carsTogether_3 rfl hl (by decide) rfl (fun ls hl => ?_)
  exact wX1_carsTogether_4 C hu0  lF S (nI 0) (nI 0)  hf _ _ _ hP (lv_sub hl [2, 1, 0] rfl)
-- X1_lanesToChoose
theorem qX1_lanesToChoose : Cond.instanceMethod yX1_lanesToChoose ∈ Ub ∧ Cond.selects RX1 yX1_lanesToChoose yX1_lanesToChoose ∈ Ub ∧ Cond.initialized RX1 ∈ Ub ∧ Cond.code yX1_lanesToChoose cX1_lanesToChoose 3 (some FieldType.int) ∈ Ub ∧ (yX1_lanesToChoose.cls = RX1 ∧ yX1_lanesToChoose.cls ≠ "java/lang/invoke/MethodHandle" ∧ yX1_lanesToChoose.cls ≠ "java/lang/invoke/VarHandle" ∧ (parseMethodDescriptor yX1_lanesToChoose.desc).map (fun d => d.parameters.length) = some 0) := ⟨k3_106, k3_107, k1_2, k3_108, by decide +kernel⟩
def fX1_lanesToChoose_30 (u0 : Nat) (K4 : cM → Int32 → Int32 → Option (Int32 × cM)) (S : cM) (x2 : Int32) (y0 : Int32) (y1 : Int32) : Option (Int32 × cM) :=
  K4 S (y0 + y1) (x2 + (nI 1))
set_option maxHeartbeats 4000000 in
set_option maxRecDepth 100000 in
theorem wX1_lanesToChoose_30 {p : Program} {l : Launch} {e : Env} {s : State} {m : MethodId} {args : Array Value} {below : List Frame} {meth : Method} {c : Code} {Γ : gG} {rz : Int32} {Sz : cM} (C : Cx Γ 74 p s m args meth c RX1 cX1_lanesToChoose 3 (some .int)) {u0 : Nat} (hu0 : 1 ≤ u0 ∧ u0 ≤ 3) {K4 : cM → Int32 → Int32 → Option (Int32 × cM)} (hK4 : ∀ (S : cM) (x1 : Int32) (x2 : Int32) , K4 S x1 x2 = some (rz, Sz) → ∀ (H : Heap) (locs : List Loc) (ls : Array Slot), St Γ 74 (cE Γ S) s.heap H locs → lv_has ls 3 [(0, .ref (Γ.2.2 (u0))), (1, .int x1), (2, .int x2)] → W p l e { frames := 3, cells := 0, slots := 0, locals := 62 } s m args below meth c H locs 0 0 (MQ below (gQi Γ 74 rz (cE Γ Sz)) args s 0 0 (wA Γ 74)) (F0 m 4 ls [])) : ∀ (S : cM) (x2 : Int32) (y0 : Int32) (y1 : Int32) , fX1_lanesToChoose_30 u0 K4 S x2 y0 y1 = some (rz, Sz) → ∀ (H : Heap) (locs : List Loc) (ls : Array Slot), St Γ 74 (cE Γ S) s.heap H locs → lv_has ls 3 [(0, .ref (Γ.2.2 (u0))), (2, .int x2)] → W p l e { frames := 3, cells := 0, slots := 0, locals := 62 } s m args below meth c H locs 0 0 (MQ below (gQi Γ 74 rz (cE Γ Sz)) args s 0 0 (wA Γ 74)) (F0 m 30 ls [.int y1, .int y0]) := by
  obtain ⟨hx, hb, -, -, hown, hts, -, hwx, -⟩ := id C
  intro S x2 y0 y1 hf H locs ls hP hl
  unfold fX1_lanesToChoose_30 at hf
  refine lv_iadd hx hb dX1_lanesToChoose_30 ?_
  refine lv_istore_n (lv' := [(1, .int (y0 + y1)), (0, .ref (Γ.2.2 (u0))), (2, .int x2)]) hx hb dX1_lanesToChoose_31 rfl hl (by decide) rfl (fun ls hl => ?_)
  refine lv_iinc (v := x2 + (nI 1)) (lv' := [(2, .int (x2 + (nI 1))), (1, .int (y0 + y1)), (0, .ref (Γ.2.2 (u0)))]) hx hb dX1_lanesToChoose_32 hl (k := 2) rfl rfl (by decide) rfl (fun ls hl => ?_)
  refine lv_goto (tgt := 4) hx hb dX1_lanesToChoose_35 (by decide) ?_
  exact hK4 S (y0 + y1) (x2 + (nI 1))  hf _ _ _ hP (lv_sub hl [2, 1, 0] rfl)
def fX1_lanesToChoose_4 (u0 : Nat)  : Nat → cM → Int32 → Int32 → Option (Int32 × cM)
  | 0, _, _, _ => none
  | n + 1, S, x1, x2 =>
    if (S.1 u0 1) ≤ x2 then some (x1, S) else gi x2 5 (bd (fX3_mayBeChosen (5 * u0 + 2 + (x2).toNatClampNeg) S) fun v4 S4 => ( if v4 = 0 then fX1_lanesToChoose_30 u0 (fX1_lanesToChoose_4 u0  n)  S4 x2 x1 (nI 0) else fX1_lanesToChoose_30 u0 (fX1_lanesToChoose_4 u0  n)  S4 x2 x1 (nI 1)))
set_option maxHeartbeats 4000000 in
set_option maxRecDepth 100000 in
theorem wX1_lanesToChoose_4 {p : Program} {l : Launch} {e : Env} {s : State} {m : MethodId} {args : Array Value} {below : List Frame} {meth : Method} {c : Code} {Γ : gG} {rz : Int32} {Sz : cM} (C : Cx Γ 74 p s m args meth c RX1 cX1_lanesToChoose 3 (some .int)) {u0 : Nat} (hu0 : 1 ≤ u0 ∧ u0 ≤ 3)  : ∀ n : Nat, ∀ (S : cM) (x1 : Int32) (x2 : Int32) , fX1_lanesToChoose_4 u0  n S x1 x2 = some (rz, Sz) → ∀ (H : Heap) (locs : List Loc) (ls : Array Slot), St Γ 74 (cE Γ S) s.heap H locs → lv_has ls 3 [(0, .ref (Γ.2.2 (u0))), (1, .int x1), (2, .int x2)] → W p l e { frames := 3, cells := 0, slots := 0, locals := 62 } s m args below meth c H locs 0 0 (MQ below (gQi Γ 74 rz (cE Γ Sz)) args s 0 0 (wA Γ 74)) (F0 m 4 ls []) := by
  obtain ⟨hx, hb, -, -, hown, hts, -, hwx, -⟩ := id C
  intro n
  induction n with
  | zero =>
    intro S x1 x2 hf
    unfold fX1_lanesToChoose_4 at hf
    cases hf
  | succ n ih =>
    intro S x1 x2 hf H locs ls hP hl
    unfold fX1_lanesToChoose_4 at hf
    refine lv_iload_n hx hb dX1_lanesToChoose_4 rfl (lv_at hl 2 rfl) ?_
    refine lv_aload_n hx hb dX1_lanesToChoose_5 rfl (lv_at hl 0 rfl) ?_
    refine c1_get C hP hu0 1 (by decide) k1_73 rfl (v := .int (S.1 u0 1)) rfl dX1_lanesToChoose_6 ?_
    refine lv_icmp_ge (tgt := 38) hx hb dX1_lanesToChoose_9 (by decide) (fun hc1 => ?_) (fun hc1 => ?_)
    · have hf := if_t hc1 hf
      refine lv_iload_n hx hb dX1_lanesToChoose_38 rfl (lv_at hl 1 rfl) ?_
      exact r_iret (X := cE Γ) C hP hf dX1_lanesToChoose_39
    · have hf := if_f hc1 hf
      refine lv_iload_n hx hb dX1_lanesToChoose_12 rfl (lv_at hl 1 rfl) ?_
      refine lv_aload_n hx hb dX1_lanesToChoose_13 rfl (lv_at hl 0 rfl) ?_
      refine c1_get C hP hu0 0 (by decide) k1_70 rfl (v := .ref (Γ.2.2 (u0 + 3))) rfl dX1_lanesToChoose_14 ?_
      refine lv_iload_n hx hb dX1_lanesToChoose_17 rfl (lv_at hl 2 rfl) ?_
      refine gi_i hf (fun hi2 hj3 hf => ?_)
      refine c_aldQ (q := u0) C hP hu0 hi2 dX1_lanesToChoose_18 ?_
      refine bd_i hf (fun v4 S4 hq4 hf => ?_)
      refine goI (runV (rest := [.int x1]) (mX3_mayBeChosen l Γ (by omega) hq4) C hP hl.1 (by have := (show 7 ≤ 5 * u0 + 2 + (x2).toNatClampNeg ∧ 5 * u0 + 2 + (x2).toNatClampNeg ≤ 21 by omega); omega) (cE3 (by omega)) rfl k2_105 qX3_mayBeChosen.1 qX3_mayBeChosen.2.1 qX3_mayBeChosen.2.2.1 qX3_mayBeChosen.2.2.2.1 rfl qX3_mayBeChosen.2.2.2.2 ⟨Nat.le_of_ble_eq_true rfl, Nat.le_of_ble_eq_true rfl⟩ ⟨Nat.le_refl 0, Nat.le_refl 0⟩ (Nat.le_of_ble_eq_true rfl) dX1_lanesToChoose_19) hP (fun H locs hP => ?_)
      refine lv_if_eq (tgt := 29) hx hb dX1_lanesToChoose_22 (by decide) (fun hc5 => ?_) (fun hc5 => ?_)
      · have hf := if_t hc5 hf
        refine lv_iconst (v := nI 0) hx hb dX1_lanesToChoose_29 rfl ?_
        exact wX1_lanesToChoose_30 C hu0 ih  S4 x2 x1 (nI 0)  hf _ _ _ hP (lv_sub hl [0, 2] rfl)
      · have hf := if_f hc5 hf
        refine lv_iconst (v := nI 1) hx hb dX1_lanesToChoose_25 rfl ?_
        refine lv_goto (tgt := 30) hx hb dX1_lanesToChoose_26 (by decide) ?_
        exact wX1_lanesToChoose_30 C hu0 ih  S4 x2 x1 (nI 1)  hf _ _ _ hP (lv_sub hl [0, 2] rfl)
def fX1_lanesToChoose (u0 : Nat) (S : cM)  : Option (Int32 × cM) :=
  fX1_lanesToChoose_4 u0  lF S (nI 0) (nI 0)
set_option maxHeartbeats 4000000 in
set_option maxRecDepth 100000 in
theorem mX1_lanesToChoose (l : Launch) (Γ : gG) {u0 : Nat} (hu0 : 1 ≤ u0 ∧ u0 ≤ 3) {S : cM}  {rz : Int32} {Sz : cM} (hf : fX1_lanesToChoose u0 S = some (rz, Sz)) : CtI l Γ 74 yX1_lanesToChoose cX1_lanesToChoose 3 .int 3 62 [.ref (Γ.2.2 (u0))] (cE Γ S) rz (cE Γ Sz) := by
  refine met_body (Γ := Γ) (lv := [(0, .ref (Γ.2.2 (u0)))]) RX1 (by decide) rfl rfl rfl ?_
  intro p e s m below meth c H locs ls C hP hl
  obtain ⟨hx, hb, -, -, hown, hts, -, hwx, -⟩ := id C
  unfold fX1_lanesToChoose at hf
  refine lv_iconst (v := nI 0) hx hb dX1_lanesToChoose_0 rfl ?_
  refine lv_istore_n (lv' := [(1, .int (nI 0)), (0, .ref (Γ.2.2 (u0)))]) hx hb dX1_lanesToChoose_1 rfl hl (by decide) rfl (fun ls hl => ?_)
  refine lv_iconst (v := nI 0) hx hb dX1_lanesToChoose_2 rfl ?_
  refine lv_istore_n (lv' := [(2, .int (nI 0)), (1, .int (nI 0)), (0, .ref (Γ.2.2 (u0)))]) hx hb dX1_lanesToChoose_3 rfl hl (by decide) rfl (fun ls hl => ?_)
  exact wX1_lanesToChoose_4 C hu0  lF S (nI 0) (nI 0)  hf _ _ _ hP (lv_sub hl [2, 1, 0] rfl)
-- X1_greatestWait
theorem qX1_greatestWait : Cond.instanceMethod yX1_greatestWait ∈ Ub ∧ Cond.selects RX1 yX1_greatestWait yX1_greatestWait ∈ Ub ∧ Cond.initialized RX1 ∈ Ub ∧ Cond.code yX1_greatestWait cX1_greatestWait 3 (some FieldType.int) ∈ Ub ∧ (yX1_greatestWait.cls = RX1 ∧ yX1_greatestWait.cls ≠ "java/lang/invoke/MethodHandle" ∧ yX1_greatestWait.cls ≠ "java/lang/invoke/VarHandle" ∧ (parseMethodDescriptor yX1_greatestWait.desc).map (fun d => d.parameters.length) = some 0) := ⟨k3_110, k3_111, k1_2, k3_112, by decide +kernel⟩
def fX1_greatestWait_4 (u0 : Nat)  : Nat → cM → Int32 → Int32 → Option (Int32 × cM)
  | 0, _, _, _ => none
  | n + 1, S, x1, x2 =>
    if (S.1 u0 1) ≤ x2 then some (x1, S) else gi x2 5 (bd (fX3_waitNow (5 * u0 + 2 + (x2).toNatClampNeg) S) fun v4 S4 => ( (fX1_greatestWait_4 u0  n) S4 (if x1 < v4 then v4 else x1) (x2 + (nI 1))))
set_option maxHeartbeats 4000000 in
set_option maxRecDepth 100000 in
theorem wX1_greatestWait_4 {p : Program} {l : Launch} {e : Env} {s : State} {m : MethodId} {args : Array Value} {below : List Frame} {meth : Method} {c : Code} {Γ : gG} {rz : Int32} {Sz : cM} (C : Cx Γ 74 p s m args meth c RX1 cX1_greatestWait 3 (some .int)) {u0 : Nat} (hu0 : 1 ≤ u0 ∧ u0 ≤ 3)  : ∀ n : Nat, ∀ (S : cM) (x1 : Int32) (x2 : Int32) , fX1_greatestWait_4 u0  n S x1 x2 = some (rz, Sz) → ∀ (H : Heap) (locs : List Loc) (ls : Array Slot), St Γ 74 (cE Γ S) s.heap H locs → lv_has ls 3 [(0, .ref (Γ.2.2 (u0))), (1, .int x1), (2, .int x2)] → W p l e { frames := 3, cells := 0, slots := 0, locals := 64 } s m args below meth c H locs 0 0 (MQ below (gQi Γ 74 rz (cE Γ Sz)) args s 0 0 (wA Γ 74)) (F0 m 4 ls []) := by
  obtain ⟨hx, hb, -, -, hown, hts, -, hwx, -⟩ := id C
  intro n
  induction n with
  | zero =>
    intro S x1 x2 hf
    unfold fX1_greatestWait_4 at hf
    cases hf
  | succ n ih =>
    intro S x1 x2 hf H locs ls hP hl
    unfold fX1_greatestWait_4 at hf
    refine lv_iload_n hx hb dX1_greatestWait_4 rfl (lv_at hl 2 rfl) ?_
    refine lv_aload_n hx hb dX1_greatestWait_5 rfl (lv_at hl 0 rfl) ?_
    refine c1_get C hP hu0 1 (by decide) k1_73 rfl (v := .int (S.1 u0 1)) rfl dX1_greatestWait_6 ?_
    refine lv_icmp_ge (tgt := 32) hx hb dX1_greatestWait_9 (by decide) (fun hc1 => ?_) (fun hc1 => ?_)
    · have hf := if_t hc1 hf
      refine lv_iload_n hx hb dX1_greatestWait_32 rfl (lv_at hl 1 rfl) ?_
      exact r_iret (X := cE Γ) C hP hf dX1_greatestWait_33
    · have hf := if_f hc1 hf
      refine lv_iload_n hx hb dX1_greatestWait_12 rfl (lv_at hl 1 rfl) ?_
      refine lv_aload_n hx hb dX1_greatestWait_13 rfl (lv_at hl 0 rfl) ?_
      refine c1_get C hP hu0 0 (by decide) k1_70 rfl (v := .ref (Γ.2.2 (u0 + 3))) rfl dX1_greatestWait_14 ?_
      refine lv_iload_n hx hb dX1_greatestWait_17 rfl (lv_at hl 2 rfl) ?_
      refine gi_i hf (fun hi2 hj3 hf => ?_)
      refine c_aldQ (q := u0) C hP hu0 hi2 dX1_greatestWait_18 ?_
      refine bd_i hf (fun v4 S4 hq4 hf => ?_)
      refine goI (runV (rest := [.int x1]) (mX3_waitNow l Γ (by omega) hq4) C hP hl.1 (by have := (show 7 ≤ 5 * u0 + 2 + (x2).toNatClampNeg ∧ 5 * u0 + 2 + (x2).toNatClampNeg ≤ 21 by omega); omega) (cE3 (by omega)) rfl k3_113 qX3_waitNow.1 qX3_waitNow.2.1 qX3_waitNow.2.2.1 qX3_waitNow.2.2.2.1 rfl qX3_waitNow.2.2.2.2 ⟨Nat.le_of_ble_eq_true rfl, Nat.le_of_ble_eq_true rfl⟩ ⟨Nat.le_refl 0, Nat.le_refl 0⟩ (Nat.le_of_ble_eq_true rfl) dX1_greatestWait_19) hP (fun H locs hP => ?_)
      refine va_mmax hx hb (by rw [C.2.2.2.1]; exact hl.1.symm) hown (hts _ k3_114) (hts _ k2_46) (hts _ k1_9) (hts _ k2_47) (Nat.le_of_ble_eq_true rfl) (Nat.le_of_ble_eq_true rfl) (Nat.le_refl 0) (Nat.le_refl 0) dX1_greatestWait_22 ?_
      refine lv_istore_n (lv' := [(1, .int (if x1 < v4 then v4 else x1)), (0, .ref (Γ.2.2 (u0))), (2, .int x2)]) hx hb dX1_greatestWait_25 rfl hl (by decide) rfl (fun ls hl => ?_)
      refine lv_iinc (v := x2 + (nI 1)) (lv' := [(2, .int (x2 + (nI 1))), (1, .int (if x1 < v4 then v4 else x1)), (0, .ref (Γ.2.2 (u0)))]) hx hb dX1_greatestWait_26 hl (k := 2) rfl rfl (by decide) rfl (fun ls hl => ?_)
      refine lv_goto (tgt := 4) hx hb dX1_greatestWait_29 (by decide) ?_
      exact ih S4 (if x1 < v4 then v4 else x1) (x2 + (nI 1))  hf _ _ _ hP (lv_sub hl [2, 1, 0] rfl)
def fX1_greatestWait (u0 : Nat) (S : cM)  : Option (Int32 × cM) :=
  fX1_greatestWait_4 u0  lF S (nI 0) (nI 0)
set_option maxHeartbeats 4000000 in
set_option maxRecDepth 100000 in
theorem mX1_greatestWait (l : Launch) (Γ : gG) {u0 : Nat} (hu0 : 1 ≤ u0 ∧ u0 ≤ 3) {S : cM}  {rz : Int32} {Sz : cM} (hf : fX1_greatestWait u0 S = some (rz, Sz)) : CtI l Γ 74 yX1_greatestWait cX1_greatestWait 3 .int 3 64 [.ref (Γ.2.2 (u0))] (cE Γ S) rz (cE Γ Sz) := by
  refine met_body (Γ := Γ) (lv := [(0, .ref (Γ.2.2 (u0)))]) RX1 (by decide) rfl rfl rfl ?_
  intro p e s m below meth c H locs ls C hP hl
  obtain ⟨hx, hb, -, -, hown, hts, -, hwx, -⟩ := id C
  unfold fX1_greatestWait at hf
  refine lv_iconst (v := nI 0) hx hb dX1_greatestWait_0 rfl ?_
  refine lv_istore_n (lv' := [(1, .int (nI 0)), (0, .ref (Γ.2.2 (u0)))]) hx hb dX1_greatestWait_1 rfl hl (by decide) rfl (fun ls hl => ?_)
  refine lv_iconst (v := nI 0) hx hb dX1_greatestWait_2 rfl ?_
  refine lv_istore_n (lv' := [(2, .int (nI 0)), (1, .int (nI 0)), (0, .ref (Γ.2.2 (u0)))]) hx hb dX1_greatestWait_3 rfl hl (by decide) rfl (fun ls hl => ?_)
  exact wX1_greatestWait_4 C hu0  lF S (nI 0) (nI 0)  hf _ _ _ hP (lv_sub hl [2, 1, 0] rfl)
-- X1_gain
theorem qX1_gain : Cond.instanceMethod yX1_gain ∈ Ub ∧ Cond.selects RX1 yX1_gain yX1_gain ∈ Ub ∧ Cond.initialized RX1 ∈ Ub ∧ Cond.code yX1_gain cX1_gain 5 (some FieldType.int) ∈ Ub ∧ (yX1_gain.cls = RX1 ∧ yX1_gain.cls ≠ "java/lang/invoke/MethodHandle" ∧ yX1_gain.cls ≠ "java/lang/invoke/VarHandle" ∧ (parseMethodDescriptor yX1_gain.desc).map (fun d => d.parameters.length) = some 3) := ⟨k2_161, k2_162, k1_2, k2_163, by decide +kernel⟩
def fX1_gain (u0 : Nat) (S : cM) (x1 : Int32) (x2 : Int32) (x3 : Int32) : Option (Int32 × cM) :=
  gi x1 5 (gi x2 8 (gi x1 5 (bd (fX3_timeAt (5 * u0 + 2 + (x1).toNatClampNeg) S x2) fun v7 S7 => ( gi x3 5 (bd (fX3_timeOfNext (5 * u0 + 2 + (x3).toNatClampNeg) S7 (S.1 ((5 * u0 + 2 + (x1).toNatClampNeg) + 15) (x2).toNatClampNeg)) fun v10 S10 => ( some (v7 - v10, S10)))))))
set_option maxHeartbeats 4000000 in
set_option maxRecDepth 100000 in
theorem mX1_gain (l : Launch) (Γ : gG) {u0 : Nat} (hu0 : 1 ≤ u0 ∧ u0 ≤ 3) {S : cM} {x1 : Int32} {x2 : Int32} {x3 : Int32} {rz : Int32} {Sz : cM} (hf : fX1_gain u0 S x1 x2 x3 = some (rz, Sz)) : CtI l Γ 74 yX1_gain cX1_gain 5 .int 3 65 [.ref (Γ.2.2 (u0)), .int x1, .int x2, .int x3] (cE Γ S) rz (cE Γ Sz) := by
  refine met_body (Γ := Γ) (lv := [(0, .ref (Γ.2.2 (u0))), (1, .int x1), (2, .int x2), (3, .int x3)]) RX1 (by decide) rfl rfl rfl ?_
  intro p e s m below meth c H locs ls C hP hl
  obtain ⟨hx, hb, -, -, hown, hts, -, hwx, -⟩ := id C
  unfold fX1_gain at hf
  refine lv_aload_n hx hb dX1_gain_0 rfl (lv_at hl 0 rfl) ?_
  refine c1_get C hP hu0 0 (by decide) k1_70 rfl (v := .ref (Γ.2.2 (u0 + 3))) rfl dX1_gain_1 ?_
  refine lv_iload_n hx hb dX1_gain_4 rfl (lv_at hl 1 rfl) ?_
  refine gi_i hf (fun hi1 hj2 hf => ?_)
  refine c_aldQ (q := u0) C hP hu0 hi1 dX1_gain_5 ?_
  refine c3_get C hP (by omega) 5 (by decide) k1_52 rfl (v := .ref (Γ.2.2 ((5 * u0 + 2 + (x1).toNatClampNeg) + 15))) rfl dX1_gain_6 ?_
  refine lv_iload_n hx hb dX1_gain_9 rfl (lv_at hl 2 rfl) ?_
  refine gi_i hf (fun hi3 hj4 hf => ?_)
  refine c_ild C hP (cA_so (by omega)) hi3 dX1_gain_10 ?_
  refine lv_istore (lv' := [(4, .int (S.1 ((5 * u0 + 2 + (x1).toNatClampNeg) + 15) (x2).toNatClampNeg)), (0, .ref (Γ.2.2 (u0))), (1, .int x1), (2, .int x2), (3, .int x3)]) hx hb dX1_gain_11 hl (by decide) rfl (fun ls hl => ?_)
  refine lv_aload_n hx hb dX1_gain_13 rfl (lv_at hl 1 rfl) ?_
  refine c1_get C hP hu0 0 (by decide) k1_70 rfl (v := .ref (Γ.2.2 (u0 + 3))) rfl dX1_gain_14 ?_
  refine lv_iload_n hx hb dX1_gain_17 rfl (lv_at hl 2 rfl) ?_
  refine gi_i hf (fun hi5 hj6 hf => ?_)
  refine c_aldQ (q := u0) C hP hu0 hi5 dX1_gain_18 ?_
  refine lv_iload_n hx hb dX1_gain_19 rfl (lv_at hl 3 rfl) ?_
  refine bd_i hf (fun v7 S7 hq7 hf => ?_)
  refine goI (runV (rest := []) (mX3_timeAt l Γ (by omega) hq7) C hP hl.1 (by have := (show 7 ≤ 5 * u0 + 2 + (x1).toNatClampNeg ∧ 5 * u0 + 2 + (x1).toNatClampNeg ≤ 21 by omega); omega) (cE3 (by omega)) rfl k2_164 qX3_timeAt.1 qX3_timeAt.2.1 qX3_timeAt.2.2.1 qX3_timeAt.2.2.2.1 rfl qX3_timeAt.2.2.2.2 ⟨Nat.le_of_ble_eq_true rfl, Nat.le_of_ble_eq_true rfl⟩ ⟨Nat.le_refl 0, Nat.le_refl 0⟩ (Nat.le_of_ble_eq_true rfl) dX1_gain_20) hP (fun H locs hP => ?_)
  refine lv_aload_n hx hb dX1_gain_23 rfl (lv_at hl 1 rfl) ?_
  refine c1_get C hP hu0 0 (by decide) k1_70 rfl (v := .ref (Γ.2.2 (u0 + 3))) rfl dX1_gain_24 ?_
  refine lv_iload_n hx hb dX1_gain_27 rfl (lv_at hl 4 rfl) ?_
  refine gi_i hf (fun hi8 hj9 hf => ?_)
  refine c_aldQ (q := u0) C hP hu0 hi8 dX1_gain_28 ?_
  refine lv_iload hx hb dX1_gain_29 (lv_at hl 0 rfl) ?_
  refine bd_i hf (fun v10 S10 hq10 hf => ?_)
  refine goI (runV (rest := [.int v7]) (mX3_timeOfNext l Γ (by omega) hq10) C hP hl.1 (by have := (show 7 ≤ 5 * u0 + 2 + (x3).toNatClampNeg ∧ 5 * u0 + 2 + (x3).toNatClampNeg ≤ 21 by omega); omega) (cE3 (by omega)) rfl k2_118 qX3_timeOfNext.1 qX3_timeOfNext.2.1 qX3_timeOfNext.2.2.1 qX3_timeOfNext.2.2.2.1 rfl qX3_timeOfNext.2.2.2.2 ⟨Nat.le_of_ble_eq_true rfl, Nat.le_of_ble_eq_true rfl⟩ ⟨Nat.le_refl 0, Nat.le_refl 0⟩ (Nat.le_of_ble_eq_true rfl) dX1_gain_31) hP (fun H locs hP => ?_)
  refine lv_isub hx hb dX1_gain_34 ?_
  exact r_iret (X := cE Γ) C hP hf dX1_gain_35
-- X1_move
theorem qX1_move : Cond.instanceMethod yX1_move ∈ Ub ∧ Cond.selects RX1 yX1_move yX1_move ∈ Ub ∧ Cond.initialized RX1 ∈ Ub ∧ Cond.code yX1_move cX1_move 4 (none : Option Jvm.ClassFile.FieldType) ∈ Ub ∧ (yX1_move.cls = RX1 ∧ yX1_move.cls ≠ "java/lang/invoke/MethodHandle" ∧ yX1_move.cls ≠ "java/lang/invoke/VarHandle" ∧ (parseMethodDescriptor yX1_move.desc).map (fun d => d.parameters.length) = some 3) := ⟨k2_170, k2_171, k1_2, k2_172, by decide +kernel⟩
def fX1_move (u0 : Nat) (S : cM) (x1 : Int32) (x2 : Int32) (x3 : Int32) : Option cM :=
  bd (fX1_hasCar u0 S x1 x2) fun v1 S1 => ( if v1 = 0 then some S1 else bd (fX1_has u0 S1 x3) fun v3 S3 => ( if v3 = 0 then some S3 else gi x3 5 (bd (fX3_hasRoom (5 * u0 + 2 + (x3).toNatClampNeg) S3) fun v7 S7 => ( if v7 = 0 then some S7 else gi x3 5 (gi x1 5 (bd (fX3_goOut (5 * u0 + 2 + (x1).toNatClampNeg) S7 x2) fun v13 S13 => ( bv (fX3_comeIn (5 * u0 + 2 + (x3).toNatClampNeg) S13 v13) fun S14 => ( some S14))))))))
set_option maxHeartbeats 4000000 in
set_option maxRecDepth 100000 in
theorem mX1_move (l : Launch) (Γ : gG) {u0 : Nat} (hu0 : 1 ≤ u0 ∧ u0 ≤ 3) {S : cM} {x1 : Int32} {x2 : Int32} {x3 : Int32} {Sz : cM} (hf : fX1_move u0 S x1 x2 x3 = some Sz) : CtV l Γ 74 yX1_move cX1_move 4 2 44 [.ref (Γ.2.2 (u0)), .int x1, .int x2, .int x3] (cE Γ S) (cE Γ Sz) := by
  refine met_body (Γ := Γ) (lv := [(0, .ref (Γ.2.2 (u0))), (1, .int x1), (2, .int x2), (3, .int x3)]) RX1 (by decide) rfl rfl rfl ?_
  intro p e s m below meth c H locs ls C hP hl
  obtain ⟨hx, hb, -, -, hown, hts, -, hwx, -⟩ := id C
  unfold fX1_move at hf
  refine lv_aload_n hx hb dX1_move_0 rfl (lv_at hl 0 rfl) ?_
  refine lv_iload_n hx hb dX1_move_1 rfl (lv_at hl 1 rfl) ?_
  refine lv_iload_n hx hb dX1_move_2 rfl (lv_at hl 2 rfl) ?_
  refine bd_i hf (fun v1 S1 hq1 hf => ?_)
  refine goI (runV (rest := []) (mX1_hasCar l Γ hu0 hq1) C hP hl.1 (by have := hu0; omega) (cE1 hu0) rfl k2_173 qX1_hasCar.1 qX1_hasCar.2.1 qX1_hasCar.2.2.1 qX1_hasCar.2.2.2.1 rfl qX1_hasCar.2.2.2.2 ⟨Nat.le_of_ble_eq_true rfl, Nat.le_of_ble_eq_true rfl⟩ ⟨Nat.le_refl 0, Nat.le_refl 0⟩ (Nat.le_of_ble_eq_true rfl) dX1_move_3) hP (fun H locs hP => ?_)
  refine lv_if_eq (tgt := 48) hx hb dX1_move_6 (by decide) (fun hc2 => ?_) (fun hc2 => ?_)
  · have hf := if_t hc2 hf
    exact r_vret (X := cE Γ) C hP hf dX1_move_48
  · have hf := if_f hc2 hf
    refine lv_aload_n hx hb dX1_move_9 rfl (lv_at hl 0 rfl) ?_
    refine lv_iload_n hx hb dX1_move_10 rfl (lv_at hl 3 rfl) ?_
    refine bd_i hf (fun v3 S3 hq3 hf => ?_)
    refine goI (runV (rest := []) (mX1_has l Γ hu0 hq3) C hP hl.1 (by have := hu0; omega) (cE1 hu0) rfl k2_73 qX1_has.1 qX1_has.2.1 qX1_has.2.2.1 qX1_has.2.2.2.1 rfl qX1_has.2.2.2.2 ⟨Nat.le_of_ble_eq_true rfl, Nat.le_of_ble_eq_true rfl⟩ ⟨Nat.le_refl 0, Nat.le_refl 0⟩ (Nat.le_of_ble_eq_true rfl) dX1_move_11) hP (fun H locs hP => ?_)
    refine lv_if_eq (tgt := 48) hx hb dX1_move_14 (by decide) (fun hc4 => ?_) (fun hc4 => ?_)
    · have hf := if_t hc4 hf
      exact r_vret (X := cE Γ) C hP hf dX1_move_48
    · have hf := if_f hc4 hf
      refine lv_aload_n hx hb dX1_move_17 rfl (lv_at hl 0 rfl) ?_
      refine c1_get C hP hu0 0 (by decide) k1_70 rfl (v := .ref (Γ.2.2 (u0 + 3))) rfl dX1_move_18 ?_
      refine lv_iload_n hx hb dX1_move_21 rfl (lv_at hl 3 rfl) ?_
      refine gi_i hf (fun hi5 hj6 hf => ?_)
      refine c_aldQ (q := u0) C hP hu0 hi5 dX1_move_22 ?_
      refine bd_i hf (fun v7 S7 hq7 hf => ?_)
      refine goI (runV (rest := []) (mX3_hasRoom l Γ (by omega) hq7) C hP hl.1 (by have := (show 7 ≤ 5 * u0 + 2 + (x3).toNatClampNeg ∧ 5 * u0 + 2 + (x3).toNatClampNeg ≤ 21 by omega); omega) (cE3 (by omega)) rfl k2_174 qX3_hasRoom.1 qX3_hasRoom.2.1 qX3_hasRoom.2.2.1 qX3_hasRoom.2.2.2.1 rfl qX3_hasRoom.2.2.2.2 ⟨Nat.le_of_ble_eq_true rfl, Nat.le_of_ble_eq_true rfl⟩ ⟨Nat.le_refl 0, Nat.le_refl 0⟩ (Nat.le_of_ble_eq_true rfl) dX1_move_23) hP (fun H locs hP => ?_)
      refine lv_if_eq (tgt := 48) hx hb dX1_move_26 (by decide) (fun hc8 => ?_) (fun hc8 => ?_)
      · have hf := if_t hc8 hf
        exact r_vret (X := cE Γ) C hP hf dX1_move_48
      · have hf := if_f hc8 hf
        refine lv_aload_n hx hb dX1_move_29 rfl (lv_at hl 0 rfl) ?_
        refine c1_get C hP hu0 0 (by decide) k1_70 rfl (v := .ref (Γ.2.2 (u0 + 3))) rfl dX1_move_30 ?_
        refine lv_iload_n hx hb dX1_move_33 rfl (lv_at hl 3 rfl) ?_
        refine gi_i hf (fun hi9 hj10 hf => ?_)
        refine c_aldQ (q := u0) C hP hu0 hi9 dX1_move_34 ?_
        refine lv_aload_n hx hb dX1_move_35 rfl (lv_at hl 0 rfl) ?_
        refine c1_get C hP hu0 0 (by decide) k1_70 rfl (v := .ref (Γ.2.2 (u0 + 3))) rfl dX1_move_36 ?_
        refine lv_iload_n hx hb dX1_move_39 rfl (lv_at hl 1 rfl) ?_
        refine gi_i hf (fun hi11 hj12 hf => ?_)
        refine c_aldQ (q := u0) C hP hu0 hi11 dX1_move_40 ?_
        refine lv_iload_n hx hb dX1_move_41 rfl (lv_at hl 2 rfl) ?_
        refine bd_i hf (fun v13 S13 hq13 hf => ?_)
        refine goI (runV (rest := [.ref (Γ.2.2 (5 * u0 + 2 + (x3).toNatClampNeg))]) (mX3_goOut l Γ (by omega) hq13) C hP hl.1 (by have := (show 7 ≤ 5 * u0 + 2 + (x1).toNatClampNeg ∧ 5 * u0 + 2 + (x1).toNatClampNeg ≤ 21 by omega); omega) (cE3 (by omega)) rfl k2_175 qX3_goOut.1 qX3_goOut.2.1 qX3_goOut.2.2.1 qX3_goOut.2.2.2.1 rfl qX3_goOut.2.2.2.2 ⟨Nat.le_of_ble_eq_true rfl, Nat.le_of_ble_eq_true rfl⟩ ⟨Nat.le_refl 0, Nat.le_refl 0⟩ (Nat.le_of_ble_eq_true rfl) dX1_move_42) hP (fun H locs hP => ?_)
        refine bv_i hf (fun S14 hq14 hf => ?_)
        refine goV (runV (rest := []) (mX3_comeIn l Γ (by omega) hq14) C hP hl.1 (by have := (show 7 ≤ 5 * u0 + 2 + (x3).toNatClampNeg ∧ 5 * u0 + 2 + (x3).toNatClampNeg ≤ 21 by omega); omega) (cE3 (by omega)) rfl k2_179 qX3_comeIn.1 qX3_comeIn.2.1 qX3_comeIn.2.2.1 qX3_comeIn.2.2.2.1 rfl qX3_comeIn.2.2.2.2 ⟨Nat.le_of_ble_eq_true rfl, Nat.le_of_ble_eq_true rfl⟩ ⟨Nat.le_refl 0, Nat.le_refl 0⟩ (Nat.le_of_ble_eq_true rfl) dX1_move_45) hP (fun H locs hP => ?_)
        exact r_vret (X := cE Γ) C hP hf dX1_move_48
-- X1_bestChange
theorem qX1_bestChange : Cond.instanceMethod yX1_bestChange ∈ Ub ∧ Cond.selects RX1 yX1_bestChange yX1_bestChange ∈ Ub ∧ Cond.initialized RX1 ∈ Ub ∧ Cond.code yX1_bestChange cX1_bestChange 8 (some FieldType.int) ∈ Ub ∧ (yX1_bestChange.cls = RX1 ∧ yX1_bestChange.cls ≠ "java/lang/invoke/MethodHandle" ∧ yX1_bestChange.cls ≠ "java/lang/invoke/VarHandle" ∧ (parseMethodDescriptor yX1_bestChange.desc).map (fun d => d.parameters.length) = some 3) := ⟨k2_194, ks_7, k1_2, k2_195, by decide +kernel⟩
def fX1_bestChange_63 (u0 : Nat) (K10 : cM → Int32 → Int32 → Int32 → Int32 → Int32 → Option (Int32 × cM)) (S : cM) (x1 : Int32) (x2 : Int32) (x4 : Int32) (x5 : Int32) (x6 : Int32) : Option (Int32 × cM) :=
  K10 S x1 x2 x4 x5 (x6 + (nI 1))
set_option maxHeartbeats 4000000 in
set_option maxRecDepth 100000 in
theorem wX1_bestChange_63 {p : Program} {l : Launch} {e : Env} {s : State} {m : MethodId} {args : Array Value} {below : List Frame} {meth : Method} {c : Code} {Γ : gG} {rz : Int32} {Sz : cM} (C : Cx Γ 74 p s m args meth c RX1 cX1_bestChange 8 (some .int)) {u0 : Nat} (hu0 : 1 ≤ u0 ∧ u0 ≤ 3) {K10 : cM → Int32 → Int32 → Int32 → Int32 → Int32 → Option (Int32 × cM)} (hK10 : ∀ (S : cM) (x1 : Int32) (x2 : Int32) (x4 : Int32) (x5 : Int32) (x6 : Int32) , K10 S x1 x2 x4 x5 x6 = some (rz, Sz) → ∀ (H : Heap) (locs : List Loc) (ls : Array Slot), St Γ 74 (cE Γ S) s.heap H locs → lv_has ls 8 [(0, .ref (Γ.2.2 (u0))), (1, .int x1), (2, .int x2), (4, .int x4), (5, .int x5), (6, .int x6)] → W p l e { frames := 4, cells := 0, slots := 0, locals := 89 } s m args below meth c H locs 0 0 (MQ below (gQi Γ 74 rz (cE Γ Sz)) args s 0 0 (wA Γ 74)) (F0 m 10 ls [])) : ∀ (S : cM) (x1 : Int32) (x2 : Int32) (x4 : Int32) (x5 : Int32) (x6 : Int32) , fX1_bestChange_63 u0 K10 S x1 x2 x4 x5 x6 = some (rz, Sz) → ∀ (H : Heap) (locs : List Loc) (ls : Array Slot), St Γ 74 (cE Γ S) s.heap H locs → lv_has ls 8 [(0, .ref (Γ.2.2 (u0))), (1, .int x1), (2, .int x2), (4, .int x4), (5, .int x5), (6, .int x6)] → W p l e { frames := 4, cells := 0, slots := 0, locals := 89 } s m args below meth c H locs 0 0 (MQ below (gQi Γ 74 rz (cE Γ Sz)) args s 0 0 (wA Γ 74)) (F0 m 63 ls []) := by
  obtain ⟨hx, hb, -, -, hown, hts, -, hwx, -⟩ := id C
  intro S x1 x2 x4 x5 x6 hf H locs ls hP hl
  unfold fX1_bestChange_63 at hf
  refine lv_iinc (v := x6 + (nI 1)) (lv' := [(6, .int (x6 + (nI 1))), (0, .ref (Γ.2.2 (u0))), (1, .int x1), (2, .int x2), (4, .int x4), (5, .int x5)]) hx hb dX1_bestChange_63 hl (k := 5) rfl rfl (by decide) rfl (fun ls hl => ?_)
  refine lv_goto (tgt := 10) hx hb dX1_bestChange_66 (by decide) ?_
  exact hK10 S x1 x2 x4 x5 (x6 + (nI 1))  hf _ _ _ hP (lv_sub hl [1, 2, 3, 4, 5, 0] rfl)
def fX1_bestChange_10 (u0 : Nat)  : Nat → cM → Int32 → Int32 → Int32 → Int32 → Int32 → Option (Int32 × cM)
  | 0, _, _, _, _, _, _ => none
  | n + 1, S, x1, x2, x4, x5, x6 =>
    if (S.1 u0 1) ≤ x6 then some (x4, S) else bd (fX1_gain u0 S x1 x2 x6) fun v2 S2 => ( if x6 = x1 then fX1_bestChange_63 u0 (fX1_bestChange_10 u0  n)  S2 x1 x2 x4 x5 x6 else gi x6 5 (bd (fX3_mayBeChosen (5 * u0 + 2 + (x6).toNatClampNeg) S2) fun v6 S6 => ( if v6 = 0 then fX1_bestChange_63 u0 (fX1_bestChange_10 u0  n)  S6 x1 x2 x4 x5 x6 else if v2 ≤ x5 then fX1_bestChange_63 u0 (fX1_bestChange_10 u0  n)  S6 x1 x2 x4 x5 x6 else fX1_bestChange_63 u0 (fX1_bestChange_10 u0  n)  S6 x1 x2 x6 v2 x6)))
set_option maxHeartbeats 4000000 in
set_option maxRecDepth 100000 in
theorem wX1_bestChange_10 {p : Program} {l : Launch} {e : Env} {s : State} {m : MethodId} {args : Array Value} {below : List Frame} {meth : Method} {c : Code} {Γ : gG} {rz : Int32} {Sz : cM} (C : Cx Γ 74 p s m args meth c RX1 cX1_bestChange 8 (some .int)) {u0 : Nat} (hu0 : 1 ≤ u0 ∧ u0 ≤ 3)  : ∀ n : Nat, ∀ (S : cM) (x1 : Int32) (x2 : Int32) (x4 : Int32) (x5 : Int32) (x6 : Int32) , fX1_bestChange_10 u0  n S x1 x2 x4 x5 x6 = some (rz, Sz) → ∀ (H : Heap) (locs : List Loc) (ls : Array Slot), St Γ 74 (cE Γ S) s.heap H locs → lv_has ls 8 [(0, .ref (Γ.2.2 (u0))), (1, .int x1), (2, .int x2), (4, .int x4), (5, .int x5), (6, .int x6)] → W p l e { frames := 4, cells := 0, slots := 0, locals := 89 } s m args below meth c H locs 0 0 (MQ below (gQi Γ 74 rz (cE Γ Sz)) args s 0 0 (wA Γ 74)) (F0 m 10 ls []) := by
  obtain ⟨hx, hb, -, -, hown, hts, -, hwx, -⟩ := id C
  intro n
  induction n with
  | zero =>
    intro S x1 x2 x4 x5 x6 hf
    unfold fX1_bestChange_10 at hf
    cases hf
  | succ n ih =>
    intro S x1 x2 x4 x5 x6 hf H locs ls hP hl
    unfold fX1_bestChange_10 at hf
    refine lv_iload hx hb dX1_bestChange_10 (lv_at hl 5 rfl) ?_
    refine lv_aload_n hx hb dX1_bestChange_12 rfl (lv_at hl 0 rfl) ?_
    refine c1_get C hP hu0 1 (by decide) k1_73 rfl (v := .int (S.1 u0 1)) rfl dX1_bestChange_13 ?_
    refine lv_icmp_ge (tgt := 69) hx hb dX1_bestChange_16 (by decide) (fun hc1 => ?_) (fun hc1 => ?_)
    · have hf := if_t hc1 hf
      refine lv_iload hx hb dX1_bestChange_69 (lv_at hl 3 rfl) ?_
      exact r_iret (X := cE Γ) C hP hf dX1_bestChange_71
    · have hf := if_f hc1 hf
      refine lv_aload_n hx hb dX1_bestChange_19 rfl (lv_at hl 0 rfl) ?_
      refine lv_iload_n hx hb dX1_bestChange_20 rfl (lv_at hl 1 rfl) ?_
      refine lv_iload_n hx hb dX1_bestChange_21 rfl (lv_at hl 2 rfl) ?_
      refine lv_iload hx hb dX1_bestChange_22 (lv_at hl 5 rfl) ?_
      refine bd_i hf (fun v2 S2 hq2 hf => ?_)
      refine goI (runV (rest := []) (mX1_gain l Γ hu0 hq2) C hP hl.1 (by have := hu0; omega) (cE1 hu0) rfl k2_196 qX1_gain.1 qX1_gain.2.1 qX1_gain.2.2.1 qX1_gain.2.2.2.1 rfl qX1_gain.2.2.2.2 ⟨Nat.le_of_ble_eq_true rfl, Nat.le_of_ble_eq_true rfl⟩ ⟨Nat.le_refl 0, Nat.le_refl 0⟩ (Nat.le_of_ble_eq_true rfl) dX1_bestChange_24) hP (fun H locs hP => ?_)
      refine lv_istore (lv' := [(7, .int v2), (0, .ref (Γ.2.2 (u0))), (1, .int x1), (2, .int x2), (4, .int x4), (5, .int x5), (6, .int x6)]) hx hb dX1_bestChange_27 hl (by decide) rfl (fun ls hl => ?_)
      refine lv_iload hx hb dX1_bestChange_29 (lv_at hl 6 rfl) ?_
      refine lv_iload_n hx hb dX1_bestChange_31 rfl (lv_at hl 2 rfl) ?_
      refine lv_icmp_eq (tgt := 63) hx hb dX1_bestChange_32 (by decide) (fun hc3 => ?_) (fun hc3 => ?_)
      · have hf := if_t hc3 hf
        exact wX1_bestChange_63 C hu0 ih  S2 x1 x2 x4 x5 x6  hf _ _ _ hP (lv_sub hl [1, 2, 3, 4, 5, 6] rfl)
      · have hf := if_f hc3 hf
        refine lv_aload_n hx hb dX1_bestChange_35 rfl (lv_at hl 1 rfl) ?_
        refine c1_get C hP hu0 0 (by decide) k1_70 rfl (v := .ref (Γ.2.2 (u0 + 3))) rfl dX1_bestChange_36 ?_
        refine lv_iload hx hb dX1_bestChange_39 (lv_at hl 6 rfl) ?_
        refine gi_i hf (fun hi4 hj5 hf => ?_)
        refine c_aldQ (q := u0) C hP hu0 hi4 dX1_bestChange_41 ?_
        refine bd_i hf (fun v6 S6 hq6 hf => ?_)
        refine goI (runV (rest := []) (mX3_mayBeChosen l Γ (by omega) hq6) C hP hl.1 (by have := (show 7 ≤ 5 * u0 + 2 + (x6).toNatClampNeg ∧ 5 * u0 + 2 + (x6).toNatClampNeg ≤ 21 by omega); omega) (cE3 (by omega)) rfl k2_105 qX3_mayBeChosen.1 qX3_mayBeChosen.2.1 qX3_mayBeChosen.2.2.1 qX3_mayBeChosen.2.2.2.1 rfl qX3_mayBeChosen.2.2.2.2 ⟨Nat.le_of_ble_eq_true rfl, Nat.le_of_ble_eq_true rfl⟩ ⟨Nat.le_refl 0, Nat.le_refl 0⟩ (Nat.le_of_ble_eq_true rfl) dX1_bestChange_42) hP (fun H locs hP => ?_)
        refine lv_if_eq (tgt := 63) hx hb dX1_bestChange_45 (by decide) (fun hc7 => ?_) (fun hc7 => ?_)
        · have hf := if_t hc7 hf
          exact wX1_bestChange_63 C hu0 ih  S6 x1 x2 x4 x5 x6  hf _ _ _ hP (lv_sub hl [1, 2, 3, 4, 5, 6] rfl)
        · have hf := if_f hc7 hf
          refine lv_iload hx hb dX1_bestChange_48 (lv_at hl 0 rfl) ?_
          refine lv_iload hx hb dX1_bestChange_50 (lv_at hl 5 rfl) ?_
          refine lv_icmp_le (tgt := 63) hx hb dX1_bestChange_52 (by decide) (fun hc8 => ?_) (fun hc8 => ?_)
          · have hf := if_t hc8 hf
            exact wX1_bestChange_63 C hu0 ih  S6 x1 x2 x4 x5 x6  hf _ _ _ hP (lv_sub hl [1, 2, 3, 4, 5, 6] rfl)
          · have hf := if_f hc8 hf
            refine lv_iload hx hb dX1_bestChange_55 (lv_at hl 0 rfl) ?_
            refine lv_istore (lv' := [(5, .int v2), (7, .int v2), (0, .ref (Γ.2.2 (u0))), (1, .int x1), (2, .int x2), (4, .int x4), (6, .int x6)]) hx hb dX1_bestChange_57 hl (by decide) rfl (fun ls hl => ?_)
            refine lv_iload hx hb dX1_bestChange_59 (lv_at hl 6 rfl) ?_
            refine lv_istore (lv' := [(4, .int x6), (5, .int v2), (7, .int v2), (0, .ref (Γ.2.2 (u0))), (1, .int x1), (2, .int x2), (6, .int x6)]) hx hb dX1_bestChange_61 hl (by decide) rfl (fun ls hl => ?_)
            exact wX1_bestChange_63 C hu0 ih  S6 x1 x2 x6 v2 x6  hf _ _ _ hP (lv_sub hl [3, 4, 5, 0, 1, 6] rfl)
def fX1_bestChange (u0 : Nat) (S : cM) (x1 : Int32) (x2 : Int32) (x3 : Int32) : Option (Int32 × cM) :=
  fX1_bestChange_10 u0  lF S x1 x2 (-4) x3 (nI 0)
set_option maxHeartbeats 4000000 in
set_option maxRecDepth 100000 in
theorem mX1_bestChange (l : Launch) (Γ : gG) {u0 : Nat} (hu0 : 1 ≤ u0 ∧ u0 ≤ 3) {S : cM} {x1 : Int32} {x2 : Int32} {x3 : Int32} {rz : Int32} {Sz : cM} (hf : fX1_bestChange u0 S x1 x2 x3 = some (rz, Sz)) : CtI l Γ 74 yX1_bestChange cX1_bestChange 8 .int 4 89 [.ref (Γ.2.2 (u0)), .int x1, .int x2, .int x3] (cE Γ S) rz (cE Γ Sz) := by
  refine met_body (Γ := Γ) (lv := [(0, .ref (Γ.2.2 (u0))), (1, .int x1), (2, .int x2), (3, .int x3)]) RX1 (by decide) rfl rfl rfl ?_
  intro p e s m below meth c H locs ls C hP hl
  obtain ⟨hx, hb, -, -, hown, hts, -, hwx, -⟩ := id C
  unfold fX1_bestChange at hf
  refine lv_bipush (v := (-4)) hx hb dX1_bestChange_0 rfl ?_
  refine lv_istore (lv' := [(4, .int ((-4))), (0, .ref (Γ.2.2 (u0))), (1, .int x1), (2, .int x2), (3, .int x3)]) hx hb dX1_bestChange_2 hl (by decide) rfl (fun ls hl => ?_)
  refine lv_iload_n hx hb dX1_bestChange_4 rfl (lv_at hl 4 rfl) ?_
  refine lv_istore (lv' := [(5, .int x3), (4, .int ((-4))), (0, .ref (Γ.2.2 (u0))), (1, .int x1), (2, .int x2), (3, .int x3)]) hx hb dX1_bestChange_5 hl (by decide) rfl (fun ls hl => ?_)
  refine lv_iconst (v := nI 0) hx hb dX1_bestChange_7 rfl ?_
  refine lv_istore (lv' := [(6, .int (nI 0)), (5, .int x3), (4, .int ((-4))), (0, .ref (Γ.2.2 (u0))), (1, .int x1), (2, .int x2), (3, .int x3)]) hx hb dX1_bestChange_8 hl (by decide) rfl (fun ls hl => ?_)
  exact wX1_bestChange_10 C hu0  lF S x1 x2 (-4) x3 (nI 0)  hf _ _ _ hP (lv_sub hl [3, 4, 5, 2, 1, 0] rfl)
-- X1_greatestGain
theorem qX1_greatestGain : Cond.instanceMethod yX1_greatestGain ∈ Ub ∧ Cond.selects RX1 yX1_greatestGain yX1_greatestGain ∈ Ub ∧ Cond.initialized RX1 ∈ Ub ∧ Cond.code yX1_greatestGain cX1_greatestGain 7 (some FieldType.int) ∈ Ub ∧ (yX1_greatestGain.cls = RX1 ∧ yX1_greatestGain.cls ≠ "java/lang/invoke/MethodHandle" ∧ yX1_greatestGain.cls ≠ "java/lang/invoke/VarHandle" ∧ (parseMethodDescriptor yX1_greatestGain.desc).map (fun d => d.parameters.length) = some 1) := ⟨k2_189, k2_190, k1_2, k2_191, by decide +kernel⟩
def fX1_greatestGain_77 (u0 : Nat) (K8 : cM → Int32 → Int32 → Int32 → Option (Int32 × cM)) (K20 : cM → Int32 → Int32 → Int32 → Int32 → Option (Int32 × cM)) (S : cM) (x2 : Int32) (x3 : Int32) (x4 : Int32) (x5 : Int32) : Option (Int32 × cM) :=
  K20 S x2 x3 x4 (x5 + (nI 1))
set_option maxHeartbeats 4000000 in
set_option maxRecDepth 100000 in
theorem wX1_greatestGain_77 {p : Program} {l : Launch} {e : Env} {s : State} {m : MethodId} {args : Array Value} {below : List Frame} {meth : Method} {c : Code} {Γ : gG} {rz : Int32} {Sz : cM} (C : Cx Γ 74 p s m args meth c RX1 cX1_greatestGain 7 (some .int)) {u0 : Nat} (hu0 : 1 ≤ u0 ∧ u0 ≤ 3) {K8 : cM → Int32 → Int32 → Int32 → Option (Int32 × cM)} (hK8 : ∀ (S : cM) (x2 : Int32) (x3 : Int32) (x4 : Int32) , K8 S x2 x3 x4 = some (rz, Sz) → ∀ (H : Heap) (locs : List Loc) (ls : Array Slot), St Γ 74 (cE Γ S) s.heap H locs → lv_has ls 7 [(0, .ref (Γ.2.2 (u0))), (2, .int x2), (3, .int x3), (4, .int x4)] → W p l e { frames := 5, cells := 0, slots := 0, locals := 116 } s m args below meth c H locs 0 0 (MQ below (gQi Γ 74 rz (cE Γ Sz)) args s 0 0 (wA Γ 74)) (F0 m 8 ls [])) {K20 : cM → Int32 → Int32 → Int32 → Int32 → Option (Int32 × cM)} (hK20 : ∀ (S : cM) (x2 : Int32) (x3 : Int32) (x4 : Int32) (x5 : Int32) , K20 S x2 x3 x4 x5 = some (rz, Sz) → ∀ (H : Heap) (locs : List Loc) (ls : Array Slot), St Γ 74 (cE Γ S) s.heap H locs → lv_has ls 7 [(0, .ref (Γ.2.2 (u0))), (2, .int x2), (3, .int x3), (4, .int x4), (5, .int x5)] → W p l e { frames := 5, cells := 0, slots := 0, locals := 116 } s m args below meth c H locs 0 0 (MQ below (gQi Γ 74 rz (cE Γ Sz)) args s 0 0 (wA Γ 74)) (F0 m 20 ls [])) : ∀ (S : cM) (x2 : Int32) (x3 : Int32) (x4 : Int32) (x5 : Int32) , fX1_greatestGain_77 u0 K8 K20 S x2 x3 x4 x5 = some (rz, Sz) → ∀ (H : Heap) (locs : List Loc) (ls : Array Slot), St Γ 74 (cE Γ S) s.heap H locs → lv_has ls 7 [(0, .ref (Γ.2.2 (u0))), (2, .int x2), (3, .int x3), (4, .int x4), (5, .int x5)] → W p l e { frames := 5, cells := 0, slots := 0, locals := 116 } s m args below meth c H locs 0 0 (MQ below (gQi Γ 74 rz (cE Γ Sz)) args s 0 0 (wA Γ 74)) (F0 m 77 ls []) := by
  obtain ⟨hx, hb, -, -, hown, hts, -, hwx, -⟩ := id C
  intro S x2 x3 x4 x5 hf H locs ls hP hl
  unfold fX1_greatestGain_77 at hf
  refine lv_iinc (v := x5 + (nI 1)) (lv' := [(5, .int (x5 + (nI 1))), (0, .ref (Γ.2.2 (u0))), (2, .int x2), (3, .int x3), (4, .int x4)]) hx hb dX1_greatestGain_77 hl (k := 4) rfl rfl (by decide) rfl (fun ls hl => ?_)
  refine lv_goto (tgt := 20) hx hb dX1_greatestGain_80 (by decide) ?_
  exact hK20 S x2 x3 x4 (x5 + (nI 1))  hf _ _ _ hP (lv_sub hl [1, 2, 3, 4, 0] rfl)
def fX1_greatestGain_20 (u0 : Nat) (K8 : cM → Int32 → Int32 → Int32 → Option (Int32 × cM)) : Nat → cM → Int32 → Int32 → Int32 → Int32 → Option (Int32 × cM)
  | 0, _, _, _, _, _ => none
  | n + 1, S, x2, x3, x4, x5 =>
    gi x4 5 (if (S.1 (5 * u0 + 2 + (x4).toNatClampNeg) 2) ≤ x5 then K8 S x2 x3 (x4 + (nI 1)) else bd (fX1_bestChange u0 S x4 x5 x3) fun v5 S5 => ( if v5 < 0 then fX1_greatestGain_77 u0 K8 (fX1_greatestGain_20 u0 K8 n)  S5 x2 x3 x4 x5 else bd (fX1_gain u0 S5 x4 x5 v5) fun v7 S7 => ( fX1_greatestGain_77 u0 K8 (fX1_greatestGain_20 u0 K8 n)  S7 ((((nI 100) * x4) + ((nI 10) * x5)) + v5) v7 x4 x5)))
set_option maxHeartbeats 4000000 in
set_option maxRecDepth 100000 in
theorem wX1_greatestGain_20 {p : Program} {l : Launch} {e : Env} {s : State} {m : MethodId} {args : Array Value} {below : List Frame} {meth : Method} {c : Code} {Γ : gG} {rz : Int32} {Sz : cM} (C : Cx Γ 74 p s m args meth c RX1 cX1_greatestGain 7 (some .int)) {u0 : Nat} (hu0 : 1 ≤ u0 ∧ u0 ≤ 3) {K8 : cM → Int32 → Int32 → Int32 → Option (Int32 × cM)} (hK8 : ∀ (S : cM) (x2 : Int32) (x3 : Int32) (x4 : Int32) , K8 S x2 x3 x4 = some (rz, Sz) → ∀ (H : Heap) (locs : List Loc) (ls : Array Slot), St Γ 74 (cE Γ S) s.heap H locs → lv_has ls 7 [(0, .ref (Γ.2.2 (u0))), (2, .int x2), (3, .int x3), (4, .int x4)] → W p l e { frames := 5, cells := 0, slots := 0, locals := 116 } s m args below meth c H locs 0 0 (MQ below (gQi Γ 74 rz (cE Γ Sz)) args s 0 0 (wA Γ 74)) (F0 m 8 ls [])) : ∀ n : Nat, ∀ (S : cM) (x2 : Int32) (x3 : Int32) (x4 : Int32) (x5 : Int32) , fX1_greatestGain_20 u0 K8 n S x2 x3 x4 x5 = some (rz, Sz) → ∀ (H : Heap) (locs : List Loc) (ls : Array Slot), St Γ 74 (cE Γ S) s.heap H locs → lv_has ls 7 [(0, .ref (Γ.2.2 (u0))), (2, .int x2), (3, .int x3), (4, .int x4), (5, .int x5)] → W p l e { frames := 5, cells := 0, slots := 0, locals := 116 } s m args below meth c H locs 0 0 (MQ below (gQi Γ 74 rz (cE Γ Sz)) args s 0 0 (wA Γ 74)) (F0 m 20 ls []) := by
  obtain ⟨hx, hb, -, -, hown, hts, -, hwx, -⟩ := id C
  intro n
  induction n with
  | zero =>
    intro S x2 x3 x4 x5 hf
    unfold fX1_greatestGain_20 at hf
    cases hf
  | succ n ih =>
    intro S x2 x3 x4 x5 hf H locs ls hP hl
    unfold fX1_greatestGain_20 at hf
    refine lv_iload hx hb dX1_greatestGain_20 (lv_at hl 4 rfl) ?_
    refine lv_aload_n hx hb dX1_greatestGain_22 rfl (lv_at hl 0 rfl) ?_
    refine c1_get C hP hu0 0 (by decide) k1_70 rfl (v := .ref (Γ.2.2 (u0 + 3))) rfl dX1_greatestGain_23 ?_
    refine lv_iload hx hb dX1_greatestGain_26 (lv_at hl 3 rfl) ?_
    refine gi_i hf (fun hi2 hj3 hf => ?_)
    refine c_aldQ (q := u0) C hP hu0 hi2 dX1_greatestGain_28 ?_
    refine c3_get C hP (by omega) 2 (by decide) k1_45 rfl (v := .int (S.1 (5 * u0 + 2 + (x4).toNatClampNeg) 2)) rfl dX1_greatestGain_29 ?_
    refine lv_icmp_ge (tgt := 83) hx hb dX1_greatestGain_32 (by decide) (fun hc4 => ?_) (fun hc4 => ?_)
    · have hf := if_t hc4 hf
      refine lv_iinc (v := x4 + (nI 1)) (lv' := [(4, .int (x4 + (nI 1))), (0, .ref (Γ.2.2 (u0))), (2, .int x2), (3, .int x3), (5, .int x5)]) hx hb dX1_greatestGain_83 hl (k := 3) rfl rfl (by decide) rfl (fun ls hl => ?_)
      refine lv_goto (tgt := 8) hx hb dX1_greatestGain_86 (by decide) ?_
      exact hK8 S x2 x3 (x4 + (nI 1))  hf _ _ _ hP (lv_sub hl [1, 2, 3, 0] rfl)
    · have hf := if_f hc4 hf
      refine lv_aload_n hx hb dX1_greatestGain_35 rfl (lv_at hl 0 rfl) ?_
      refine lv_iload hx hb dX1_greatestGain_36 (lv_at hl 3 rfl) ?_
      refine lv_iload hx hb dX1_greatestGain_38 (lv_at hl 4 rfl) ?_
      refine lv_iload_n hx hb dX1_greatestGain_40 rfl (lv_at hl 2 rfl) ?_
      refine bd_i hf (fun v5 S5 hq5 hf => ?_)
      refine goI (runV (rest := []) (mX1_bestChange l Γ hu0 hq5) C hP hl.1 (by have := hu0; omega) (cE1 hu0) rfl k2_192 qX1_bestChange.1 qX1_bestChange.2.1 qX1_bestChange.2.2.1 qX1_bestChange.2.2.2.1 rfl qX1_bestChange.2.2.2.2 ⟨Nat.le_of_ble_eq_true rfl, Nat.le_of_ble_eq_true rfl⟩ ⟨Nat.le_refl 0, Nat.le_refl 0⟩ (Nat.le_of_ble_eq_true rfl) dX1_greatestGain_41) hP (fun H locs hP => ?_)
      refine lv_istore (lv' := [(6, .int v5), (0, .ref (Γ.2.2 (u0))), (2, .int x2), (3, .int x3), (4, .int x4), (5, .int x5)]) hx hb dX1_greatestGain_44 hl (by decide) rfl (fun ls hl => ?_)
      refine lv_iload hx hb dX1_greatestGain_46 (lv_at hl 0 rfl) ?_
      refine lv_if_lt (tgt := 77) hx hb dX1_greatestGain_48 (by decide) (fun hc6 => ?_) (fun hc6 => ?_)
      · have hf := if_t hc6 hf
        exact wX1_greatestGain_77 C hu0 hK8 ih  S5 x2 x3 x4 x5  hf _ _ _ hP (lv_sub hl [1, 2, 3, 4, 5] rfl)
      · have hf := if_f hc6 hf
        refine lv_aload_n hx hb dX1_greatestGain_51 rfl (lv_at hl 1 rfl) ?_
        refine lv_iload hx hb dX1_greatestGain_52 (lv_at hl 4 rfl) ?_
        refine lv_iload hx hb dX1_greatestGain_54 (lv_at hl 5 rfl) ?_
        refine lv_iload hx hb dX1_greatestGain_56 (lv_at hl 0 rfl) ?_
        refine bd_i hf (fun v7 S7 hq7 hf => ?_)
        refine goI (runV (rest := []) (mX1_gain l Γ hu0 hq7) C hP hl.1 (by have := hu0; omega) (cE1 hu0) rfl k2_196 qX1_gain.1 qX1_gain.2.1 qX1_gain.2.2.1 qX1_gain.2.2.2.1 rfl qX1_gain.2.2.2.2 ⟨Nat.le_of_ble_eq_true rfl, Nat.le_of_ble_eq_true rfl⟩ ⟨Nat.le_refl 0, Nat.le_refl 0⟩ (Nat.le_of_ble_eq_true rfl) dX1_greatestGain_58) hP (fun H locs hP => ?_)
        refine lv_istore_n (lv' := [(3, .int v7), (6, .int v5), (0, .ref (Γ.2.2 (u0))), (2, .int x2), (4, .int x4), (5, .int x5)]) hx hb dX1_greatestGain_61 rfl hl (by decide) rfl (fun ls hl => ?_)
        refine lv_bipush (v := nI 100) hx hb dX1_greatestGain_62 rfl ?_
        refine lv_iload hx hb dX1_greatestGain_64 (lv_at hl 4 rfl) ?_
        refine lv_imul hx hb dX1_greatestGain_66 ?_
        refine lv_bipush (v := nI 10) hx hb dX1_greatestGain_67 rfl ?_
        refine lv_iload hx hb dX1_greatestGain_69 (lv_at hl 5 rfl) ?_
        refine lv_imul hx hb dX1_greatestGain_71 ?_
        refine lv_iadd hx hb dX1_greatestGain_72 ?_
        refine lv_iload hx hb dX1_greatestGain_73 (lv_at hl 1 rfl) ?_
        refine lv_iadd hx hb dX1_greatestGain_75 ?_
        refine lv_istore_n (lv' := [(2, .int ((((nI 100) * x4) + ((nI 10) * x5)) + v5)), (3, .int v7), (6, .int v5), (0, .ref (Γ.2.2 (u0))), (4, .int x4), (5, .int x5)]) hx hb dX1_greatestGain_76 rfl hl (by decide) rfl (fun ls hl => ?_)
        exact wX1_greatestGain_77 C hu0 hK8 ih  S7 ((((nI 100) * x4) + ((nI 10) * x5)) + v5) v7 x4 x5  hf _ _ _ hP (lv_sub hl [3, 0, 1, 4, 5] rfl)
def fX1_greatestGain_8 (u0 : Nat)  : Nat → cM → Int32 → Int32 → Int32 → Option (Int32 × cM)
  | 0, _, _, _, _ => none
  | n + 1, S, x2, x3, x4 =>
    if (S.1 u0 1) ≤ x4 then some (x2, S) else fX1_greatestGain_20 u0 (fX1_greatestGain_8 u0  n) lF S x2 x3 x4 (nI 1)
set_option maxHeartbeats 4000000 in
set_option maxRecDepth 100000 in
theorem wX1_greatestGain_8 {p : Program} {l : Launch} {e : Env} {s : State} {m : MethodId} {args : Array Value} {below : List Frame} {meth : Method} {c : Code} {Γ : gG} {rz : Int32} {Sz : cM} (C : Cx Γ 74 p s m args meth c RX1 cX1_greatestGain 7 (some .int)) {u0 : Nat} (hu0 : 1 ≤ u0 ∧ u0 ≤ 3)  : ∀ n : Nat, ∀ (S : cM) (x2 : Int32) (x3 : Int32) (x4 : Int32) , fX1_greatestGain_8 u0  n S x2 x3 x4 = some (rz, Sz) → ∀ (H : Heap) (locs : List Loc) (ls : Array Slot), St Γ 74 (cE Γ S) s.heap H locs → lv_has ls 7 [(0, .ref (Γ.2.2 (u0))), (2, .int x2), (3, .int x3), (4, .int x4)] → W p l e { frames := 5, cells := 0, slots := 0, locals := 116 } s m args below meth c H locs 0 0 (MQ below (gQi Γ 74 rz (cE Γ Sz)) args s 0 0 (wA Γ 74)) (F0 m 8 ls []) := by
  obtain ⟨hx, hb, -, -, hown, hts, -, hwx, -⟩ := id C
  intro n
  induction n with
  | zero =>
    intro S x2 x3 x4 hf
    unfold fX1_greatestGain_8 at hf
    cases hf
  | succ n ih =>
    intro S x2 x3 x4 hf H locs ls hP hl
    unfold fX1_greatestGain_8 at hf
    refine lv_iload hx hb dX1_greatestGain_8 (lv_at hl 3 rfl) ?_
    refine lv_aload_n hx hb dX1_greatestGain_10 rfl (lv_at hl 0 rfl) ?_
    refine c1_get C hP hu0 1 (by decide) k1_73 rfl (v := .int (S.1 u0 1)) rfl dX1_greatestGain_11 ?_
    refine lv_icmp_ge (tgt := 89) hx hb dX1_greatestGain_14 (by decide) (fun hc1 => ?_) (fun hc1 => ?_)
    · have hf := if_t hc1 hf
      refine lv_iload_n hx hb dX1_greatestGain_89 rfl (lv_at hl 1 rfl) ?_
      exact r_iret (X := cE Γ) C hP hf dX1_greatestGain_90
    · have hf := if_f hc1 hf
      refine lv_iconst (v := nI 1) hx hb dX1_greatestGain_17 rfl ?_
      refine lv_istore (lv' := [(5, .int (nI 1)), (0, .ref (Γ.2.2 (u0))), (2, .int x2), (3, .int x3), (4, .int x4)]) hx hb dX1_greatestGain_18 hl (by decide) rfl (fun ls hl => ?_)
      exact wX1_greatestGain_20 C hu0 ih lF S x2 x3 x4 (nI 1)  hf _ _ _ hP (lv_sub hl [1, 2, 3, 4, 0] rfl)
def fX1_greatestGain (u0 : Nat) (S : cM) (x1 : Int32) : Option (Int32 × cM) :=
  fX1_greatestGain_8 u0  lF S (-4) x1 (nI 0)
set_option maxHeartbeats 4000000 in
set_option maxRecDepth 100000 in
theorem mX1_greatestGain (l : Launch) (Γ : gG) {u0 : Nat} (hu0 : 1 ≤ u0 ∧ u0 ≤ 3) {S : cM} {x1 : Int32} {rz : Int32} {Sz : cM} (hf : fX1_greatestGain u0 S x1 = some (rz, Sz)) : CtI l Γ 74 yX1_greatestGain cX1_greatestGain 7 .int 5 116 [.ref (Γ.2.2 (u0)), .int x1] (cE Γ S) rz (cE Γ Sz) := by
  refine met_body (Γ := Γ) (lv := [(0, .ref (Γ.2.2 (u0))), (1, .int x1)]) RX1 (by decide) rfl rfl rfl ?_
  intro p e s m below meth c H locs ls C hP hl
  obtain ⟨hx, hb, -, -, hown, hts, -, hwx, -⟩ := id C
  unfold fX1_greatestGain at hf
  refine lv_bipush (v := (-4)) hx hb dX1_greatestGain_0 rfl ?_
  refine lv_istore_n (lv' := [(2, .int ((-4))), (0, .ref (Γ.2.2 (u0))), (1, .int x1)]) hx hb dX1_greatestGain_2 rfl hl (by decide) rfl (fun ls hl => ?_)
  refine lv_iload_n hx hb dX1_greatestGain_3 rfl (lv_at hl 2 rfl) ?_
  refine lv_istore_n (lv' := [(3, .int x1), (2, .int ((-4))), (0, .ref (Γ.2.2 (u0))), (1, .int x1)]) hx hb dX1_greatestGain_4 rfl hl (by decide) rfl (fun ls hl => ?_)
  refine lv_iconst (v := nI 0) hx hb dX1_greatestGain_5 rfl ?_
  refine lv_istore (lv' := [(4, .int (nI 0)), (3, .int x1), (2, .int ((-4))), (0, .ref (Γ.2.2 (u0))), (1, .int x1)]) hx hb dX1_greatestGain_6 hl (by decide) rfl (fun ls hl => ?_)
  exact wX1_greatestGain_8 C hu0  lF S (-4) x1 (nI 0)  hf _ _ _ hP (lv_sub hl [3, 2, 1, 0] rfl)
-- X0_behindDigit
theorem qX0_behindDigit : Cond.static yX0_behindDigit ∈ Ub ∧ Cond.initialized RX0 ∈ Ub ∧ Cond.code yX0_behindDigit cX0_behindDigit 2 (some FieldType.int) ∈ Ub ∧ (yX0_behindDigit.cls = RX0 ∧ yX0_behindDigit.cls ≠ "java/lang/invoke/MethodHandle" ∧ yX0_behindDigit.cls ≠ "java/lang/invoke/VarHandle" ∧ (parseMethodDescriptor yX0_behindDigit.desc).map (fun d => d.parameters.length) = some 2) := ⟨k1_187, k1_6, k1_188, by decide +kernel⟩
def fX0_behindDigit  (S : cM) (x0 : Int32) (x1 : Int32) : Option (Int32 × cM) :=
  (if x0 = nI 1 then some (nI 2, S) else if x0 = nI 2 then some (nI 3, S) else if x0 = nI 3 then some (nI 3, S) else if x0 = nI 4 then some (nI 5, S) else if x0 = nI 5 then some (nI 8, S) else if x0 = nI 6 then if x1 = (nI 48) then some (nI 8, S) else some (nI 7, S) else if x0 = nI 7 then some (nI 8, S) else some (nI 9, S))
set_option maxHeartbeats 4000000 in
set_option maxRecDepth 100000 in
theorem mX0_behindDigit (l : Launch) (Γ : gG)   {S : cM} {x0 : Int32} {x1 : Int32} {rz : Int32} {Sz : cM} (hf : fX0_behindDigit S x0 x1 = some (rz, Sz)) : CtI l Γ 74 yX0_behindDigit cX0_behindDigit 2 .int 0 0 [.int x0, .int x1] (cE Γ S) rz (cE Γ Sz) := by
  refine met_body (Γ := Γ) (lv := [(0, .int x0), (1, .int x1)]) RX0 (by decide) rfl rfl rfl ?_
  intro p e s m below meth c H locs ls C hP hl
  obtain ⟨hx, hb, -, -, hown, hts, -, hwx, -⟩ := id C
  unfold fX0_behindDigit at hf
  refine lv_iload_n hx hb dX0_behindDigit_0 rfl (lv_at hl 0 rfl) ?_
  by_cases hs1 : x0 = nI 1
  · have hf := if_t hs1 hf
    refine lv_tableIn (tgt := 44) hx hb dX0_behindDigit_1 (by rw [hs1]; decide) (by rw [hs1]; decide) (by rw [hs1]; rfl) (by decide) ?_
    refine lv_iconst (v := nI 2) hx hb dX0_behindDigit_44 rfl ?_
    exact r_iret (X := cE Γ) C hP hf dX0_behindDigit_45
  · have hf := if_f hs1 hf
    by_cases hs2 : x0 = nI 2
    · have hf := if_t hs2 hf
      refine lv_tableIn (tgt := 46) hx hb dX0_behindDigit_1 (by rw [hs2]; decide) (by rw [hs2]; decide) (by rw [hs2]; rfl) (by decide) ?_
      refine lv_iconst (v := nI 3) hx hb dX0_behindDigit_46 rfl ?_
      exact r_iret (X := cE Γ) C hP hf dX0_behindDigit_47
    · have hf := if_f hs2 hf
      by_cases hs3 : x0 = nI 3
      · have hf := if_t hs3 hf
        refine lv_tableIn (tgt := 48) hx hb dX0_behindDigit_1 (by rw [hs3]; decide) (by rw [hs3]; decide) (by rw [hs3]; rfl) (by decide) ?_
        refine lv_iconst (v := nI 3) hx hb dX0_behindDigit_48 rfl ?_
        exact r_iret (X := cE Γ) C hP hf dX0_behindDigit_49
      · have hf := if_f hs3 hf
        by_cases hs4 : x0 = nI 4
        · have hf := if_t hs4 hf
          refine lv_tableIn (tgt := 50) hx hb dX0_behindDigit_1 (by rw [hs4]; decide) (by rw [hs4]; decide) (by rw [hs4]; rfl) (by decide) ?_
          refine lv_iconst (v := nI 5) hx hb dX0_behindDigit_50 rfl ?_
          exact r_iret (X := cE Γ) C hP hf dX0_behindDigit_51
        · have hf := if_f hs4 hf
          by_cases hs5 : x0 = nI 5
          · have hf := if_t hs5 hf
            refine lv_tableIn (tgt := 52) hx hb dX0_behindDigit_1 (by rw [hs5]; decide) (by rw [hs5]; decide) (by rw [hs5]; rfl) (by decide) ?_
            refine lv_bipush (v := nI 8) hx hb dX0_behindDigit_52 rfl ?_
            exact r_iret (X := cE Γ) C hP hf dX0_behindDigit_54
          · have hf := if_f hs5 hf
            by_cases hs6 : x0 = nI 6
            · have hf := if_t hs6 hf
              refine lv_tableIn (tgt := 55) hx hb dX0_behindDigit_1 (by rw [hs6]; decide) (by rw [hs6]; decide) (by rw [hs6]; rfl) (by decide) ?_
              refine lv_iload_n hx hb dX0_behindDigit_55 rfl (lv_at hl 1 rfl) ?_
              refine lv_bipush (v := nI 48) hx hb dX0_behindDigit_56 rfl ?_
              refine lv_icmp_ne (tgt := 66) hx hb dX0_behindDigit_58 (by decide) (fun hc7 => ?_) (fun hc7 => ?_)
              · have hf := if_f hc7 hf
                refine lv_bipush (v := nI 7) hx hb dX0_behindDigit_66 rfl ?_
                exact r_iret (X := cE Γ) C hP hf dX0_behindDigit_68
              · have hf := if_t hc7 hf
                refine lv_bipush (v := nI 8) hx hb dX0_behindDigit_61 rfl ?_
                refine lv_goto (tgt := 68) hx hb dX0_behindDigit_63 (by decide) ?_
                exact r_iret (X := cE Γ) C hP hf dX0_behindDigit_68
            · have hf := if_f hs6 hf
              by_cases hs8 : x0 = nI 7
              · have hf := if_t hs8 hf
                refine lv_tableIn (tgt := 69) hx hb dX0_behindDigit_1 (by rw [hs8]; decide) (by rw [hs8]; decide) (by rw [hs8]; rfl) (by decide) ?_
                refine lv_bipush (v := nI 8) hx hb dX0_behindDigit_69 rfl ?_
                exact r_iret (X := cE Γ) C hP hf dX0_behindDigit_71
              · have hf := if_f hs8 hf
                refine lv_tableOut (tgt := 72) hx hb dX0_behindDigit_1 (by have q0 := ne_toInt hs1; have q1 := ne_toInt hs2; have q2 := ne_toInt hs3; have q3 := ne_toInt hs4; have q4 := ne_toInt hs5; have q5 := ne_toInt hs6; have q6 := ne_toInt hs8; rw [show (nI 1).toInt = 1 from by decide] at q0; rw [show (nI 2).toInt = 2 from by decide] at q1; rw [show (nI 3).toInt = 3 from by decide] at q2; rw [show (nI 4).toInt = 4 from by decide] at q3; rw [show (nI 5).toInt = 5 from by decide] at q4; rw [show (nI 6).toInt = 6 from by decide] at q5; rw [show (nI 7).toInt = 7 from by decide] at q6;  omega) (by decide) ?_
                refine lv_bipush (v := nI 9) hx hb dX0_behindDigit_72 rfl ?_
                exact r_iret (X := cE Γ) C hP hf dX0_behindDigit_74
-- X0_behindLetter
theorem qX0_behindLetter : Cond.static yX0_behindLetter ∈ Ub ∧ Cond.initialized RX0 ∈ Ub ∧ Cond.code yX0_behindLetter cX0_behindLetter 1 (some FieldType.int) ∈ Ub ∧ (yX0_behindLetter.cls = RX0 ∧ yX0_behindLetter.cls ≠ "java/lang/invoke/MethodHandle" ∧ yX0_behindLetter.cls ≠ "java/lang/invoke/VarHandle" ∧ (parseMethodDescriptor yX0_behindLetter.desc).map (fun d => d.parameters.length) = some 1) := ⟨k1_184, k1_6, k1_185, by decide +kernel⟩
def fX0_behindLetter  (S : cM) (x0 : Int32) : Option (Int32 × cM) :=
  (if x0 = nI 99 then some (nI 4, S) else if x0 = nI 108 then some (nI 1, S) else if x0 = nI 109 then some (nI 6, S) else some (nI 9, S))
set_option maxHeartbeats 4000000 in
set_option maxRecDepth 100000 in
theorem mX0_behindLetter (l : Launch) (Γ : gG)   {S : cM} {x0 : Int32} {rz : Int32} {Sz : cM} (hf : fX0_behindLetter S x0 = some (rz, Sz)) : CtI l Γ 74 yX0_behindLetter cX0_behindLetter 1 .int 0 0 [.int x0] (cE Γ S) rz (cE Γ Sz) := by
  refine met_body (Γ := Γ) (lv := [(0, .int x0)]) RX0 (by decide) rfl rfl rfl ?_
  intro p e s m below meth c H locs ls C hP hl
  obtain ⟨hx, hb, -, -, hown, hts, -, hwx, -⟩ := id C
  unfold fX0_behindLetter at hf
  refine lv_iload_n hx hb dX0_behindLetter_0 rfl (lv_at hl 0 rfl) ?_
  by_cases hs1 : x0 = nI 99
  · have hf := if_t hs1 hf
    refine lv_lookup (tgt := 38) (off := 37) hx hb dX0_behindLetter_1 (by decide) (by rw [hs1]; decide) (by decide) ?_
    refine lv_iconst (v := nI 4) hx hb dX0_behindLetter_38 rfl ?_
    exact r_iret (X := cE Γ) C hP hf dX0_behindLetter_39
  · have hf := if_f hs1 hf
    by_cases hs2 : x0 = nI 108
    · have hf := if_t hs2 hf
      refine lv_lookup (tgt := 36) (off := 35) hx hb dX0_behindLetter_1 (by decide) (by rw [hs2]; decide) (by decide) ?_
      refine lv_iconst (v := nI 1) hx hb dX0_behindLetter_36 rfl ?_
      exact r_iret (X := cE Γ) C hP hf dX0_behindLetter_37
    · have hf := if_f hs2 hf
      by_cases hs3 : x0 = nI 109
      · have hf := if_t hs3 hf
        refine lv_lookup (tgt := 40) (off := 39) hx hb dX0_behindLetter_1 (by decide) (by rw [hs3]; decide) (by decide) ?_
        refine lv_bipush (v := nI 6) hx hb dX0_behindLetter_40 rfl ?_
        exact r_iret (X := cE Γ) C hP hf dX0_behindLetter_42
      · have hf := if_f hs3 hf
        refine lv_lookup (tgt := 43) (off := 42) hx hb dX0_behindLetter_1 (by decide) ((lv_osw hs1 (by decide)).trans ((lv_osw hs2 (by decide)).trans ((lv_osw hs3 (by decide)).trans (rfl)))) (by decide) ?_
        refine lv_bipush (v := nI 9) hx hb dX0_behindLetter_43 rfl ?_
        exact r_iret (X := cE Γ) C hP hf dX0_behindLetter_45
-- X0_next
theorem qX0_next : Cond.static yX0_next ∈ Ub ∧ Cond.initialized RX0 ∈ Ub ∧ Cond.code yX0_next cX0_next 3 (some FieldType.int) ∈ Ub ∧ (yX0_next.cls = RX0 ∧ yX0_next.cls ≠ "java/lang/invoke/MethodHandle" ∧ yX0_next.cls ≠ "java/lang/invoke/VarHandle" ∧ (parseMethodDescriptor yX0_next.desc).map (fun d => d.parameters.length) = some 2) := ⟨k1_181, k1_6, k1_182, by decide +kernel⟩
def fX0_next_37   (S : cM) (y0 : Int32) : Option (Int32 × cM) :=
  if y0 = 0 then some (nI 9, S) else some (nI 0, S)
set_option maxHeartbeats 4000000 in
set_option maxRecDepth 100000 in
theorem wX0_next_37 {p : Program} {l : Launch} {e : Env} {s : State} {m : MethodId} {args : Array Value} {below : List Frame} {meth : Method} {c : Code} {Γ : gG} {rz : Int32} {Sz : cM} (C : Cx Γ 74 p s m args meth c RX0 cX0_next 3 (some .int))   : ∀ (S : cM) (y0 : Int32) , fX0_next_37   S y0 = some (rz, Sz) → ∀ (H : Heap) (locs : List Loc) (ls : Array Slot), St Γ 74 (cE Γ S) s.heap H locs → lv_has ls 3 [] → W p l e { frames := 1, cells := 0, slots := 0, locals := 21 } s m args below meth c H locs 0 0 (MQ below (gQi Γ 74 rz (cE Γ Sz)) args s 0 0 (wA Γ 74)) (F0 m 37 ls [.int y0]) := by
  obtain ⟨hx, hb, -, -, hown, hts, -, hwx, -⟩ := id C
  intro S y0 hf H locs ls hP hl
  unfold fX0_next_37 at hf
  refine lv_istore_n (lv' := [(2, .int y0)]) hx hb dX0_next_37 rfl hl (by decide) rfl (fun ls hl => ?_)
  refine lv_iload_n hx hb dX0_next_38 rfl (lv_at hl 0 rfl) ?_
  refine lv_if_eq (tgt := 46) hx hb dX0_next_39 (by decide) (fun hc7 => ?_) (fun hc7 => ?_)
  · have hf := if_t hc7 hf
    refine lv_bipush (v := nI 9) hx hb dX0_next_46 rfl ?_
    exact r_iret (X := cE Γ) C hP hf dX0_next_48
  · have hf := if_f hc7 hf
    refine lv_iconst (v := nI 0) hx hb dX0_next_42 rfl ?_
    refine lv_goto (tgt := 48) hx hb dX0_next_43 (by decide) ?_
    exact r_iret (X := cE Γ) C hP hf dX0_next_48
def fX0_next_32   (S : cM)  : Option (Int32 × cM) :=
  fX0_next_37    S (nI 1)
set_option maxHeartbeats 4000000 in
set_option maxRecDepth 100000 in
theorem wX0_next_32 {p : Program} {l : Launch} {e : Env} {s : State} {m : MethodId} {args : Array Value} {below : List Frame} {meth : Method} {c : Code} {Γ : gG} {rz : Int32} {Sz : cM} (C : Cx Γ 74 p s m args meth c RX0 cX0_next 3 (some .int))   : ∀ (S : cM)  , fX0_next_32   S  = some (rz, Sz) → ∀ (H : Heap) (locs : List Loc) (ls : Array Slot), St Γ 74 (cE Γ S) s.heap H locs → lv_has ls 3 [] → W p l e { frames := 1, cells := 0, slots := 0, locals := 21 } s m args below meth c H locs 0 0 (MQ below (gQi Γ 74 rz (cE Γ Sz)) args s 0 0 (wA Γ 74)) (F0 m 32 ls []) := by
  obtain ⟨hx, hb, -, -, hown, hts, -, hwx, -⟩ := id C
  intro S  hf H locs ls hP hl
  unfold fX0_next_32 at hf
  refine lv_iconst (v := nI 1) hx hb dX0_next_32 rfl ?_
  refine lv_goto (tgt := 37) hx hb dX0_next_33 (by decide) ?_
  exact wX0_next_37 C    S (nI 1)  hf _ _ _ hP (lv_sub hl [] rfl)
def fX0_next  (S : cM) (x0 : Int32) (x1 : Int32) : Option (Int32 × cM) :=
  if x0 = 0 then bd (fX0_behindLetter S x1) fun v10 S10 => ( some (v10, S10)) else if x1 = (nI 59) then if x0 = (nI 3) then fX0_next_32    S  else if x0 = (nI 7) then fX0_next_32    S  else if x0 = (nI 8) then fX0_next_32    S  else fX0_next_37    S (nI 0) else if x1 < (nI 48) then some (nI 9, S) else if (nI 57) < x1 then some (nI 9, S) else bd (fX0_behindDigit S x0 x1) fun v5 S5 => ( some (v5, S5))
set_option maxHeartbeats 4000000 in
set_option maxRecDepth 100000 in
theorem mX0_next (l : Launch) (Γ : gG)   {S : cM} {x0 : Int32} {x1 : Int32} {rz : Int32} {Sz : cM} (hf : fX0_next S x0 x1 = some (rz, Sz)) : CtI l Γ 74 yX0_next cX0_next 3 .int 1 21 [.int x0, .int x1] (cE Γ S) rz (cE Γ Sz) := by
  refine met_body (Γ := Γ) (lv := [(0, .int x0), (1, .int x1)]) RX0 (by decide) rfl rfl rfl ?_
  intro p e s m below meth c H locs ls C hP hl
  obtain ⟨hx, hb, -, -, hown, hts, -, hwx, -⟩ := id C
  unfold fX0_next at hf
  refine lv_iload_n hx hb dX0_next_0 rfl (lv_at hl 0 rfl) ?_
  refine lv_if_ne (tgt := 9) hx hb dX0_next_1 (by decide) (fun hc1 => ?_) (fun hc1 => ?_)
  · have hf := if_f hc1 hf
    refine lv_iload_n hx hb dX0_next_9 rfl (lv_at hl 1 rfl) ?_
    refine lv_bipush (v := nI 59) hx hb dX0_next_10 rfl ?_
    refine lv_icmp_ne (tgt := 49) hx hb dX0_next_12 (by decide) (fun hc2 => ?_) (fun hc2 => ?_)
    · have hf := if_f hc2 hf
      refine lv_iload_n hx hb dX0_next_49 rfl (lv_at hl 1 rfl) ?_
      refine lv_bipush (v := nI 48) hx hb dX0_next_50 rfl ?_
      refine lv_icmp_lt (tgt := 69) hx hb dX0_next_52 (by decide) (fun hc3 => ?_) (fun hc3 => ?_)
      · have hf := if_t hc3 hf
        refine lv_bipush (v := nI 9) hx hb dX0_next_69 rfl ?_
        exact r_iret (X := cE Γ) C hP hf dX0_next_71
      · have hf := if_f hc3 hf
        refine lv_iload_n hx hb dX0_next_55 rfl (lv_at hl 1 rfl) ?_
        refine lv_bipush (v := nI 57) hx hb dX0_next_56 rfl ?_
        refine lv_icmp_gt (tgt := 69) hx hb dX0_next_58 (by decide) (fun hc4 => ?_) (fun hc4 => ?_)
        · have hf := if_t hc4 hf
          refine lv_bipush (v := nI 9) hx hb dX0_next_69 rfl ?_
          exact r_iret (X := cE Γ) C hP hf dX0_next_71
        · have hf := if_f hc4 hf
          refine lv_iload_n hx hb dX0_next_61 rfl (lv_at hl 0 rfl) ?_
          refine lv_iload_n hx hb dX0_next_62 rfl (lv_at hl 1 rfl) ?_
          refine bd_i hf (fun v5 S5 hq5 hf => ?_)
          refine goI (runS (rest := []) (mX0_behindDigit l Γ  hq5) C hP hl.1 k1_186 qX0_behindDigit.1 qX0_behindDigit.2.1 qX0_behindDigit.2.2.1 rfl qX0_behindDigit.2.2.2 ⟨Nat.le_of_ble_eq_true rfl, Nat.le_of_ble_eq_true rfl⟩ ⟨Nat.le_refl 0, Nat.le_refl 0⟩ (Nat.le_of_ble_eq_true rfl) dX0_next_63) hP (fun H locs hP => ?_)
          refine lv_goto (tgt := 71) hx hb dX0_next_66 (by decide) ?_
          exact r_iret (X := cE Γ) C hP hf dX0_next_71
    · have hf := if_t hc2 hf
      refine lv_iload_n hx hb dX0_next_15 rfl (lv_at hl 0 rfl) ?_
      refine lv_iconst (v := nI 3) hx hb dX0_next_16 rfl ?_
      refine lv_icmp_eq (tgt := 32) hx hb dX0_next_17 (by decide) (fun hc6 => ?_) (fun hc6 => ?_)
      · have hf := if_t hc6 hf
        exact wX0_next_32 C    S   hf _ _ _ hP (lv_sub hl [] rfl)
      · have hf := if_f hc6 hf
        refine lv_iload_n hx hb dX0_next_20 rfl (lv_at hl 0 rfl) ?_
        refine lv_bipush (v := nI 7) hx hb dX0_next_21 rfl ?_
        refine lv_icmp_eq (tgt := 32) hx hb dX0_next_23 (by decide) (fun hc8 => ?_) (fun hc8 => ?_)
        · have hf := if_t hc8 hf
          exact wX0_next_32 C    S   hf _ _ _ hP (lv_sub hl [] rfl)
        · have hf := if_f hc8 hf
          refine lv_iload_n hx hb dX0_next_26 rfl (lv_at hl 0 rfl) ?_
          refine lv_bipush (v := nI 8) hx hb dX0_next_27 rfl ?_
          refine lv_icmp_ne (tgt := 36) hx hb dX0_next_29 (by decide) (fun hc9 => ?_) (fun hc9 => ?_)
          · have hf := if_f hc9 hf
            refine lv_iconst (v := nI 0) hx hb dX0_next_36 rfl ?_
            exact wX0_next_37 C    S (nI 0)  hf _ _ _ hP (lv_sub hl [] rfl)
          · have hf := if_t hc9 hf
            exact wX0_next_32 C    S   hf _ _ _ hP (lv_sub hl [] rfl)
  · have hf := if_t hc1 hf
    refine lv_iload_n hx hb dX0_next_4 rfl (lv_at hl 1 rfl) ?_
    refine bd_i hf (fun v10 S10 hq10 hf => ?_)
    refine goI (runS (rest := []) (mX0_behindLetter l Γ  hq10) C hP hl.1 k1_183 qX0_behindLetter.1 qX0_behindLetter.2.1 qX0_behindLetter.2.2.1 rfl qX0_behindLetter.2.2.2 ⟨Nat.le_of_ble_eq_true rfl, Nat.le_of_ble_eq_true rfl⟩ ⟨Nat.le_refl 0, Nat.le_refl 0⟩ (Nat.le_of_ble_eq_true rfl) dX0_next_5) hP (fun H locs hP => ?_)
    exact r_iret (X := cE Γ) C hP hf dX0_next_8
