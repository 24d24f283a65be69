-- X5_seeded
theorem qX5_seeded : Cond.instanceMethod yX5_seeded ∈ Ub ∧ Cond.selects RX5 yX5_seeded yX5_seeded ∈ Ub ∧ Cond.initialized RX5 ∈ Ub ∧ Cond.code yX5_seeded cX5_seeded 8 (some FieldType.int) ∈ Ub ∧ (yX5_seeded.cls = RX5 ∧ yX5_seeded.cls ≠ "java/lang/invoke/MethodHandle" ∧ yX5_seeded.cls ≠ "java/lang/invoke/VarHandle" ∧ (parseMethodDescriptor yX5_seeded.desc).map (fun d => d.parameters.length) = some 3) := ⟨k3_69, k3_70, k1_1, k3_71, by decide +kernel⟩
def fX5_seeded_112  (K42 : cM → Int32 → Int32 → Int32 → Int32 → Int32 → Option (Int32 × cM)) (S : cM) (x1 : Int32) (x3 : Int32) (x4 : Int32) (x5 : Int32) (x6 : Int32) : Option (Int32 × cM) :=
  K42 S x1 x3 x4 x5 (x6 + (nI 1))
set_option maxHeartbeats 4000000 in
set_option maxRecDepth 100000 in
theorem wX5_seeded_112 {p : Program} {l : Launch} {e : Env} {s : State} {m : MethodId} {args : Array Value} {below : List Frame} {meth : Method} {c : Code} {Γ : gG} {rz : Int32} {Sz : cM} (C : Cx Γ 74 p s m args meth c RX5 cX5_seeded 8 (some .int))  {K42 : cM → Int32 → Int32 → Int32 → Int32 → Int32 → Option (Int32 × cM)} (hK42 : ∀ (S : cM) (x1 : Int32) (x3 : Int32) (x4 : Int32) (x5 : Int32) (x6 : Int32) , K42 S x1 x3 x4 x5 x6 = some (rz, Sz) → ∀ (H : Heap) (locs : List Loc) (ls : Array Slot), St Γ 74 (cE Γ S) s.heap H locs → lv_has ls 8 [(0, .ref (Γ.2.2 (0))), (1, .int x1), (3, .int x3), (4, .int x4), (5, .int x5), (6, .int x6)] → W p l e { frames := 5, cells := 0, slots := 0, locals := 111 } s m args below meth c H locs 0 0 (MQ below (gQi Γ 74 rz (cE Γ Sz)) args s 0 0 (wA Γ 74)) (F0 m 42 ls [])) : ∀ (S : cM) (x1 : Int32) (x3 : Int32) (x4 : Int32) (x5 : Int32) (x6 : Int32) , fX5_seeded_112  K42 S x1 x3 x4 x5 x6 = some (rz, Sz) → ∀ (H : Heap) (locs : List Loc) (ls : Array Slot), St Γ 74 (cE Γ S) s.heap H locs → lv_has ls 8 [(0, .ref (Γ.2.2 (0))), (1, .int x1), (3, .int x3), (4, .int x4), (5, .int x5), (6, .int x6)] → W p l e { frames := 5, cells := 0, slots := 0, locals := 111 } s m args below meth c H locs 0 0 (MQ below (gQi Γ 74 rz (cE Γ Sz)) args s 0 0 (wA Γ 74)) (F0 m 112 ls []) := by
  obtain ⟨hx, hb, -, -, hown, hts, -, hwx, -⟩ := id C
  intro S x1 x3 x4 x5 x6 hf H locs ls hP hl
  unfold fX5_seeded_112 at hf
  refine lv_iinc (v := x6 + (nI 1)) (lv' := [(6, .int (x6 + (nI 1))), (0, .ref (Γ.2.2 (0))), (1, .int x1), (3, .int x3), (4, .int x4), (5, .int x5)]) hx hb dX5_seeded_112 hl (k := 5) rfl rfl (by decide) rfl (fun ls hl => ?_)
  refine lv_goto (tgt := 42) hx hb dX5_seeded_115 (by decide) ?_
  exact hK42 S x1 x3 x4 x5 (x6 + (nI 1))  hf _ _ _ hP (lv_sub hl [1, 2, 3, 4, 5, 0] rfl)
def fX5_seeded_42   : Nat → cM → Int32 → Int32 → Int32 → Int32 → Int32 → Option (Int32 × cM)
  | 0, _, _, _, _, _, _ => none
  | n + 1, S, x1, x3, x4, x5, x6 =>
    if x1 ≤ x6 then if x3 = 0 then some (x5, S) else gn S.2.2 1 3 (bd (fX1_carsTogether S.2.2 S) fun v11 S11 => ( some (v11, S11))) else bd (fX5_nextSeed S x4) fun v12 S12 => ( gn S12.2.2 1 3 (bd (fX5_draw S12 v12 (nI 4)) fun v14 S14 => ( bd (fX1_goBy S12.2.2 S14 v14) fun v15 S15 => ( bd (fX5_nextSeed S15 v12) fun v16 S16 => ( gn S16.2.2 1 3 (bd (fX1_seemingLane S16.2.2 S16) fun v18 S18 => ( if v18 < 0 then fX5_seeded_112  (fX5_seeded_42   n)  S18 x1 x3 v16 x5 x6 else gn S18.2.2 1 3 (gi v18 5 (bd (fX5_draw S18 v16 (nI 4)) fun v23 S23 => ( bv (fX3_comeIn (5 * S18.2.2 + 2 + (v18).toNatClampNeg) S23 v23) fun S24 => ( fX5_seeded_112  (fX5_seeded_42   n)  S24 x1 x3 v16 (x5 + (nI 1)) x6)))))))))))
set_option maxHeartbeats 4000000 in
set_option maxRecDepth 100000 in
theorem wX5_seeded_42 {p : Program} {l : Launch} {e : Env} {s : State} {m : MethodId} {args : Array Value} {below : List Frame} {meth : Method} {c : Code} {Γ : gG} {rz : Int32} {Sz : cM} (C : Cx Γ 74 p s m args meth c RX5 cX5_seeded 8 (some .int))   : ∀ n : Nat, ∀ (S : cM) (x1 : Int32) (x3 : Int32) (x4 : Int32) (x5 : Int32) (x6 : Int32) , fX5_seeded_42   n S x1 x3 x4 x5 x6 = some (rz, Sz) → ∀ (H : Heap) (locs : List Loc) (ls : Array Slot), St Γ 74 (cE Γ S) s.heap H locs → lv_has ls 8 [(0, .ref (Γ.2.2 (0))), (1, .int x1), (3, .int x3), (4, .int x4), (5, .int x5), (6, .int x6)] → W p l e { frames := 5, cells := 0, slots := 0, locals := 111 } s m args below meth c H locs 0 0 (MQ below (gQi Γ 74 rz (cE Γ Sz)) args s 0 0 (wA Γ 74)) (F0 m 42 ls []) := by
  obtain ⟨hx, hb, -, -, hown, hts, -, hwx, -⟩ := id C
  intro n
  induction n with
  | zero =>
    intro S x1 x3 x4 x5 x6 hf
    unfold fX5_seeded_42 at hf
    cases hf
  | succ n ih =>
    intro S x1 x3 x4 x5 x6 hf H locs ls hP hl
    unfold fX5_seeded_42 at hf
    refine lv_iload hx hb dX5_seeded_42 (lv_at hl 5 rfl) ?_
    refine lv_iload_n hx hb dX5_seeded_44 rfl (lv_at hl 1 rfl) ?_
    refine lv_icmp_ge (tgt := 118) hx hb dX5_seeded_45 (by decide) (fun hc8 => ?_) (fun hc8 => ?_)
    · have hf := if_t hc8 hf
      refine lv_iload_n hx hb dX5_seeded_118 rfl (lv_at hl 2 rfl) ?_
      refine lv_if_ne (tgt := 127) hx hb dX5_seeded_119 (by decide) (fun hc9 => ?_) (fun hc9 => ?_)
      · have hf := if_f hc9 hf
        refine lv_aload_n hx hb dX5_seeded_127 rfl (lv_at hl 0 rfl) ?_
        refine gn_i hf (fun hN10 hf => ?_)
        refine c0_get C hP 1 (by decide) k1_128 rfl (v := .ref (Γ.2.2 (S.2.2))) rfl dX5_seeded_128 ?_
        refine bd_i hf (fun v11 S11 hq11 hf => ?_)
        refine goI (runV (rest := []) (mX1_carsTogether l Γ hN10 hq11) C hP hl.1 (by have := hN10; omega) (cE1 hN10) rfl k3_80 qX1_carsTogether.1 qX1_carsTogether.2.1 qX1_carsTogether.2.2.1 qX1_carsTogether.2.2.2.1 rfl qX1_carsTogether.2.2.2.2 ⟨Nat.le_of_ble_eq_true rfl, Nat.le_of_ble_eq_true rfl⟩ ⟨Nat.le_refl 0, Nat.le_refl 0⟩ (Nat.le_of_ble_eq_true rfl) dX5_seeded_131) hP (fun H locs hP => ?_)
        exact r_iret (X := cE Γ) C hP hf dX5_seeded_134
      · have hf := if_t hc9 hf
        refine lv_iload hx hb dX5_seeded_122 (lv_at hl 4 rfl) ?_
        refine lv_goto (tgt := 134) hx hb dX5_seeded_124 (by decide) ?_
        exact r_iret (X := cE Γ) C hP hf dX5_seeded_134
    · have hf := if_f hc8 hf
      refine lv_iload hx hb dX5_seeded_48 (lv_at hl 3 rfl) ?_
      refine bd_i hf (fun v12 S12 hq12 hf => ?_)
      refine goI (runS (rest := []) (mX5_nextSeed l Γ  hq12) C hP hl.1 k3_72 qX5_nextSeed.1 qX5_nextSeed.2.1 qX5_nextSeed.2.2.1 rfl qX5_nextSeed.2.2.2 ⟨Nat.le_of_ble_eq_true rfl, Nat.le_of_ble_eq_true rfl⟩ ⟨Nat.le_refl 0, Nat.le_refl 0⟩ (Nat.le_of_ble_eq_true rfl) dX5_seeded_50) hP (fun H locs hP => ?_)
      refine lv_istore (lv' := [(4, .int v12), (0, .ref (Γ.2.2 (0))), (1, .int x1), (3, .int x3), (5, .int x5), (6, .int x6)]) hx hb dX5_seeded_53 hl (by decide) rfl (fun ls hl => ?_)
      refine lv_aload_n hx hb dX5_seeded_55 rfl (lv_at hl 1 rfl) ?_
      refine gn_i hf (fun hN13 hf => ?_)
      refine c0_get C hP 1 (by decide) k1_128 rfl (v := .ref (Γ.2.2 (S12.2.2))) rfl dX5_seeded_56 ?_
      refine lv_iload hx hb dX5_seeded_59 (lv_at hl 0 rfl) ?_
      refine lv_iconst (v := nI 4) hx hb dX5_seeded_61 rfl ?_
      refine bd_i hf (fun v14 S14 hq14 hf => ?_)
      refine goI (runS (rest := [.ref (Γ.2.2 (S12.2.2))]) (mX5_draw l Γ  hq14) C hP hl.1 k3_76 qX5_draw.1 qX5_draw.2.1 qX5_draw.2.2.1 rfl qX5_draw.2.2.2 ⟨Nat.le_of_ble_eq_true rfl, Nat.le_of_ble_eq_true rfl⟩ ⟨Nat.le_refl 0, Nat.le_refl 0⟩ (Nat.le_of_ble_eq_true rfl) dX5_seeded_62) hP (fun H locs hP => ?_)
      refine bd_i hf (fun v15 S15 hq15 hf => ?_)
      refine goI (runV (rest := []) (mX1_goBy l Γ hN13 hq15) C hP hl.1 (by have := hN13; omega) (cE1 hN13) rfl k2_94 qX1_goBy.1 qX1_goBy.2.1 qX1_goBy.2.2.1 qX1_goBy.2.2.2.1 rfl qX1_goBy.2.2.2.2 ⟨Nat.le_of_ble_eq_true rfl, Nat.le_of_ble_eq_true rfl⟩ ⟨Nat.le_refl 0, Nat.le_refl 0⟩ (Nat.le_of_ble_eq_true rfl) dX5_seeded_65) hP (fun H locs hP => ?_)
      refine lv_pop hx hb dX5_seeded_68 rfl ?_
      refine lv_iload hx hb dX5_seeded_69 (lv_at hl 0 rfl) ?_
      refine bd_i hf (fun v16 S16 hq16 hf => ?_)
      refine goI (runS (rest := []) (mX5_nextSeed l Γ  hq16) C hP hl.1 k3_72 qX5_nextSeed.1 qX5_nextSeed.2.1 qX5_nextSeed.2.2.1 rfl qX5_nextSeed.2.2.2 ⟨Nat.le_of_ble_eq_true rfl, Nat.le_of_ble_eq_true rfl⟩ ⟨Nat.le_refl 0, Nat.le_refl 0⟩ (Nat.le_of_ble_eq_true rfl) dX5_seeded_71) hP (fun H locs hP => ?_)
      refine lv_istore (lv' := [(4, .int v16), (0, .ref (Γ.2.2 (0))), (1, .int x1), (3, .int x3), (5, .int x5), (6, .int x6)]) hx hb dX5_seeded_74 hl (by decide) rfl (fun ls hl => ?_)
      refine lv_aload_n hx hb dX5_seeded_76 rfl (lv_at hl 1 rfl) ?_
      refine gn_i hf (fun hN17 hf => ?_)
      refine c0_get C hP 1 (by decide) k1_128 rfl (v := .ref (Γ.2.2 (S16.2.2))) rfl dX5_seeded_77 ?_
      refine bd_i hf (fun v18 S18 hq18 hf => ?_)
      refine goI (runV (rest := []) (mX1_seemingLane l Γ hN17 hq18) C hP hl.1 (by have := hN17; omega) (cE1 hN17) rfl k2_99 qX1_seemingLane.1 qX1_seemingLane.2.1 qX1_seemingLane.2.2.1 qX1_seemingLane.2.2.2.1 rfl qX1_seemingLane.2.2.2.2 ⟨Nat.le_of_ble_eq_true rfl, Nat.le_of_ble_eq_true rfl⟩ ⟨Nat.le_refl 0, Nat.le_refl 0⟩ (Nat.le_of_ble_eq_true rfl) dX5_seeded_80) hP (fun H locs hP => ?_)
      refine lv_istore (lv' := [(7, .int v18), (4, .int v16), (0, .ref (Γ.2.2 (0))), (1, .int x1), (3, .int x3), (5, .int x5), (6, .int x6)]) hx hb dX5_seeded_83 hl (by decide) rfl (fun ls hl => ?_)
      refine lv_iload hx hb dX5_seeded_85 (lv_at hl 0 rfl) ?_
      refine lv_if_lt (tgt := 112) hx hb dX5_seeded_87 (by decide) (fun hc19 => ?_) (fun hc19 => ?_)
      · have hf := if_t hc19 hf
        exact wX5_seeded_112 C  ih  S18 x1 x3 v16 x5 x6  hf _ _ _ hP (lv_sub hl [2, 3, 4, 1, 5, 6] rfl)
      · have hf := if_f hc19 hf
        refine lv_aload_n hx hb dX5_seeded_90 rfl (lv_at hl 2 rfl) ?_
        refine gn_i hf (fun hN20 hf => ?_)
        refine c0_get C hP 1 (by decide) k1_128 rfl (v := .ref (Γ.2.2 (S18.2.2))) rfl dX5_seeded_91 ?_
        refine c1_get C hP hN20 0 (by decide) k1_71 rfl (v := .ref (Γ.2.2 (S18.2.2 + 3))) rfl dX5_seeded_94 ?_
        refine lv_iload hx hb dX5_seeded_97 (lv_at hl 0 rfl) ?_
        refine gi_i hf (fun hi21 hj22 hf => ?_)
        refine c_aldQ (q := S18.2.2) C hP hN20 hi21 dX5_seeded_99 ?_
        refine lv_iload hx hb dX5_seeded_100 (lv_at hl 1 rfl) ?_
        refine lv_iconst (v := nI 4) hx hb dX5_seeded_102 rfl ?_
        refine bd_i hf (fun v23 S23 hq23 hf => ?_)
        refine goI (runS (rest := [.ref (Γ.2.2 (5 * S18.2.2 + 2 + (v18).toNatClampNeg))]) (mX5_draw l Γ  hq23) C hP hl.1 k3_76 qX5_draw.1 qX5_draw.2.1 qX5_draw.2.2.1 rfl qX5_draw.2.2.2 ⟨Nat.le_of_ble_eq_true rfl, Nat.le_of_ble_eq_true rfl⟩ ⟨Nat.le_refl 0, Nat.le_refl 0⟩ (Nat.le_of_ble_eq_true rfl) dX5_seeded_103) hP (fun H locs hP => ?_)
        refine bv_i hf (fun S24 hq24 hf => ?_)
        refine goV (runV (rest := []) (mX3_comeIn l Γ (by omega) hq24) C hP hl.1 (by have := (show 7 ≤ 5 * S18.2.2 + 2 + (v18).toNatClampNeg ∧ 5 * S18.2.2 + 2 + (v18).toNatClampNeg ≤ 21 by omega); omega) (cE3 (by omega)) rfl k2_89 qX3_comeIn.1 qX3_comeIn.2.1 qX3_comeIn.2.2.1 qX3_comeIn.2.2.2.1 rfl qX3_comeIn.2.2.2.2 ⟨Nat.le_of_ble_eq_true rfl, Nat.le_of_ble_eq_true rfl⟩ ⟨Nat.le_refl 0, Nat.le_refl 0⟩ (Nat.le_of_ble_eq_true rfl) dX5_seeded_106) hP (fun H locs hP => ?_)
        refine lv_iinc (v := x5 + (nI 1)) (lv' := [(5, .int (x5 + (nI 1))), (7, .int v18), (4, .int v16), (0, .ref (Γ.2.2 (0))), (1, .int x1), (3, .int x3), (6, .int x6)]) hx hb dX5_seeded_109 hl (k := 5) rfl rfl (by decide) rfl (fun ls hl => ?_)
        exact wX5_seeded_112 C  ih  S24 x1 x3 v16 (x5 + (nI 1)) x6  hf _ _ _ hP (lv_sub hl [3, 4, 5, 2, 0, 6] rfl)
def fX5_seeded  (S : cM) (x1 : Int32) (x2 : Int32) (x3 : Int32) : Option (Int32 × cM) :=
  if x1 < (nI 1) then some ((-1), S) else if (nI 30) < x1 then some ((-1), S) else if x3 < 0 then some ((-1), S) else if x3 ≤ (nI 1) then gn S.2.2 1 3 (gn S.2.1 1 3 (bv (fX1_becomeLike S.2.2 S.2.1 S) fun S7 => ( fX5_seeded_42   lF S7 x1 x3 x2 (nI 0) (nI 0)))) else some ((-1), S)
set_option maxHeartbeats 4000000 in
set_option maxRecDepth 100000 in
theorem mX5_seeded (l : Launch) (Γ : gG)   {S : cM} {x1 : Int32} {x2 : Int32} {x3 : Int32} {rz : Int32} {Sz : cM} (hf : fX5_seeded S x1 x2 x3 = some (rz, Sz)) : CtI l Γ 74 yX5_seeded cX5_seeded 8 .int 5 111 [.ref (Γ.2.2 (0)), .int x1, .int x2, .int x3] (cE Γ S) rz (cE Γ Sz) := by
  refine met_body (Γ := Γ) (lv := [(0, .ref (Γ.2.2 (0))), (1, .int x1), (2, .int x2), (3, .int x3)]) RX5 (by decide) rfl rfl rfl ?_
  intro p e s m below meth c H locs ls C hP hl
  obtain ⟨hx, hb, -, -, hown, hts, -, hwx, -⟩ := id C
  unfold fX5_seeded at hf
  refine lv_iload_n hx hb dX5_seeded_0 rfl (lv_at hl 1 rfl) ?_
  refine lv_iconst (v := nI 1) hx hb dX5_seeded_1 rfl ?_
  refine lv_icmp_lt (tgt := 20) hx hb dX5_seeded_2 (by decide) (fun hc1 => ?_) (fun hc1 => ?_)
  · have hf := if_t hc1 hf
    refine lv_iconst (v := (-1)) hx hb dX5_seeded_20 rfl ?_
    exact r_iret (X := cE Γ) C hP hf dX5_seeded_21
  · have hf := if_f hc1 hf
    refine lv_iload_n hx hb dX5_seeded_5 rfl (lv_at hl 1 rfl) ?_
    refine lv_bipush (v := nI 30) hx hb dX5_seeded_6 rfl ?_
    refine lv_icmp_gt (tgt := 20) hx hb dX5_seeded_8 (by decide) (fun hc2 => ?_) (fun hc2 => ?_)
    · have hf := if_t hc2 hf
      refine lv_iconst (v := (-1)) hx hb dX5_seeded_20 rfl ?_
      exact r_iret (X := cE Γ) C hP hf dX5_seeded_21
    · have hf := if_f hc2 hf
      refine lv_iload_n hx hb dX5_seeded_11 rfl (lv_at hl 3 rfl) ?_
      refine lv_if_lt (tgt := 20) hx hb dX5_seeded_12 (by decide) (fun hc3 => ?_) (fun hc3 => ?_)
      · have hf := if_t hc3 hf
        refine lv_iconst (v := (-1)) hx hb dX5_seeded_20 rfl ?_
        exact r_iret (X := cE Γ) C hP hf dX5_seeded_21
      · have hf := if_f hc3 hf
        refine lv_iload_n hx hb dX5_seeded_15 rfl (lv_at hl 3 rfl) ?_
        refine lv_iconst (v := nI 1) hx hb dX5_seeded_16 rfl ?_
        refine lv_icmp_le (tgt := 22) hx hb dX5_seeded_17 (by decide) (fun hc4 => ?_) (fun hc4 => ?_)
        · have hf := if_t hc4 hf
          refine lv_aload_n hx hb dX5_seeded_22 rfl (lv_at hl 0 rfl) ?_
          refine gn_i hf (fun hN5 hf => ?_)
          refine c0_get C hP 1 (by decide) k1_128 rfl (v := .ref (Γ.2.2 (S.2.2))) rfl dX5_seeded_23 ?_
          refine lv_aload_n hx hb dX5_seeded_26 rfl (lv_at hl 0 rfl) ?_
          refine gn_i hf (fun hN6 hf => ?_)
          refine c0_get C hP 0 (by decide) k1_127 rfl (v := .ref (Γ.2.2 (S.2.1))) rfl dX5_seeded_27 ?_
          refine bv_i hf (fun S7 hq7 hf => ?_)
          refine goV (runV (rest := []) (mX1_becomeLike l Γ hN5 hN6 hq7) C hP hl.1 (by have := hN5; omega) (cE1 hN5) rfl k1_189 qX1_becomeLike.1 qX1_becomeLike.2.1 qX1_becomeLike.2.2.1 qX1_becomeLike.2.2.2.1 rfl qX1_becomeLike.2.2.2.2 ⟨Nat.le_of_ble_eq_true rfl, Nat.le_of_ble_eq_true rfl⟩ ⟨Nat.le_refl 0, Nat.le_refl 0⟩ (Nat.le_of_ble_eq_true rfl) dX5_seeded_30) hP (fun H locs hP => ?_)
          refine lv_iload_n hx hb dX5_seeded_33 rfl (lv_at hl 2 rfl) ?_
          refine lv_istore (lv' := [(4, .int x2), (0, .ref (Γ.2.2 (0))), (1, .int x1), (2, .int x2), (3, .int x3)]) hx hb dX5_seeded_34 hl (by decide) rfl (fun ls hl => ?_)
          refine lv_iconst (v := nI 0) hx hb dX5_seeded_36 rfl ?_
          refine lv_istore (lv' := [(5, .int (nI 0)), (4, .int x2), (0, .ref (Γ.2.2 (0))), (1, .int x1), (2, .int x2), (3, .int x3)]) hx hb dX5_seeded_37 hl (by decide) rfl (fun ls hl => ?_)
          refine lv_iconst (v := nI 0) hx hb dX5_seeded_39 rfl ?_
          refine lv_istore (lv' := [(6, .int (nI 0)), (5, .int (nI 0)), (4, .int x2), (0, .ref (Γ.2.2 (0))), (1, .int x1), (2, .int x2), (3, .int x3)]) hx hb dX5_seeded_40 hl (by decide) rfl (fun ls hl => ?_)
          exact wX5_seeded_42 C   lF S7 x1 x3 x2 (nI 0) (nI 0)  hf _ _ _ hP (lv_sub hl [3, 4, 6, 2, 1, 0] rfl)
        · have hf := if_f hc4 hf
          refine lv_iconst (v := (-1)) hx hb dX5_seeded_20 rfl ?_
          exact r_iret (X := cE Γ) C hP hf dX5_seeded_21
-- X5_judge
theorem qX5_judge : Cond.instanceMethod yX5_judge ∈ Ub ∧ Cond.selects RX5 yX5_judge yX5_judge ∈ Ub ∧ Cond.initialized RX5 ∈ Ub ∧ Cond.code yX5_judge cX5_judge 7 (some FieldType.int) ∈ Ub ∧ (yX5_judge.cls = RX5 ∧ yX5_judge.cls ≠ "java/lang/invoke/MethodHandle" ∧ yX5_judge.cls ≠ "java/lang/invoke/VarHandle" ∧ (parseMethodDescriptor yX5_judge.desc).map (fun d => d.parameters.length) = some 2) := ⟨k3_85, k3_86, k1_1, k3_87, by decide +kernel⟩
def fX5_judge_109  (K58 : cM → Nat → Nat → Int32 → Option (Int32 × cM)) (S : cM) (ux4 : Nat) (ux5 : Nat) (x6 : Int32) : Option (Int32 × cM) :=
  K58 S ux4 ux5 (x6 + (nI 1))
set_option maxHeartbeats 4000000 in
set_option maxRecDepth 100000 in
theorem wX5_judge_109 {p : Program} {l : Launch} {e : Env} {s : State} {m : MethodId} {args : Array Value} {below : List Frame} {meth : Method} {c : Code} {Γ : gG} {rz : Int32} {Sz : cM} (C : Cx Γ 74 p s m args meth c RX5 cX5_judge 7 (some .int))  {K58 : cM → Nat → Nat → Int32 → Option (Int32 × cM)} (hK58 : ∀ (S : cM) (ux4 : Nat) (ux5 : Nat) (x6 : Int32) (hux4 : 53 ≤ ux4 ∧ ux4 ≤ 60) (hux5 : 7 ≤ ux5 ∧ ux5 ≤ 21), K58 S ux4 ux5 x6 = some (rz, Sz) → ∀ (H : Heap) (locs : List Loc) (ls : Array Slot), St Γ 74 (cE Γ S) s.heap H locs → lv_has ls 7 [(4, .ref (Γ.2.2 (ux4))), (5, .ref (Γ.2.2 (ux5))), (6, .int x6)] → W p l e { frames := 3, cells := 0, slots := 0, locals := 69 } s m args below meth c H locs 0 0 (MQ below (gQi Γ 74 rz (cE Γ Sz)) args s 0 0 (wA Γ 74)) (F0 m 58 ls [])) : ∀ (S : cM) (ux4 : Nat) (ux5 : Nat) (x6 : Int32) (hux4 : 53 ≤ ux4 ∧ ux4 ≤ 60) (hux5 : 7 ≤ ux5 ∧ ux5 ≤ 21), fX5_judge_109  K58 S ux4 ux5 x6 = some (rz, Sz) → ∀ (H : Heap) (locs : List Loc) (ls : Array Slot), St Γ 74 (cE Γ S) s.heap H locs → lv_has ls 7 [(4, .ref (Γ.2.2 (ux4))), (5, .ref (Γ.2.2 (ux5))), (6, .int x6)] → W p l e { frames := 3, cells := 0, slots := 0, locals := 69 } s m args below meth c H locs 0 0 (MQ below (gQi Γ 74 rz (cE Γ Sz)) args s 0 0 (wA Γ 74)) (F0 m 109 ls []) := by
  obtain ⟨hx, hb, -, -, hown, hts, -, hwx, -⟩ := id C
  intro S ux4 ux5 x6 hux4 hux5 hf H locs ls hP hl
  unfold fX5_judge_109 at hf
  refine lv_iinc (v := x6 + (nI 1)) (lv' := [(6, .int (x6 + (nI 1))), (4, .ref (Γ.2.2 (ux4))), (5, .ref (Γ.2.2 (ux5)))]) hx hb dX5_judge_109 hl (k := 2) rfl rfl (by decide) rfl (fun ls hl => ?_)
  refine lv_goto (tgt := 58) hx hb dX5_judge_112 (by decide) ?_
  exact hK58 S ux4 ux5 (x6 + (nI 1)) hux4 hux5 hf _ _ _ hP (lv_sub hl [1, 2, 0] rfl)
def fX5_judge_58   : Nat → cM → Nat → Nat → Int32 → Option (Int32 × cM)
  | 0, _, _, _, _ => none
  | n + 1, S, ux4, ux5, x6 =>
    if (S.1 ux4 5) ≤ x6 then some ((-4), S) else bd (fX3_minuteGoes ux5 S) fun v15 S15 => ( gi x6 100 (bd (fX4_leastNumber ux4 S15) fun v18 S18 => ( if (S15.1 (ux4 + 8) (x6).toNatClampNeg) = v18 then fX5_judge_109  (fX5_judge_58   n)  S18 ux4 ux5 x6 else gi x6 100 (if (S18.1 (ux4 + 8) (x6).toNatClampNeg) = (S18.1 ux5 2) then fX5_judge_109  (fX5_judge_58   n)  S18 ux4 ux5 x6 else some (x6, S18)))))
set_option maxHeartbeats 4000000 in
set_option maxRecDepth 100000 in
theorem wX5_judge_58 {p : Program} {l : Launch} {e : Env} {s : State} {m : MethodId} {args : Array Value} {below : List Frame} {meth : Method} {c : Code} {Γ : gG} {rz : Int32} {Sz : cM} (C : Cx Γ 74 p s m args meth c RX5 cX5_judge 7 (some .int))   : ∀ n : Nat, ∀ (S : cM) (ux4 : Nat) (ux5 : Nat) (x6 : Int32) (hux4 : 53 ≤ ux4 ∧ ux4 ≤ 60) (hux5 : 7 ≤ ux5 ∧ ux5 ≤ 21), fX5_judge_58   n S ux4 ux5 x6 = some (rz, Sz) → ∀ (H : Heap) (locs : List Loc) (ls : Array Slot), St Γ 74 (cE Γ S) s.heap H locs → lv_has ls 7 [(4, .ref (Γ.2.2 (ux4))), (5, .ref (Γ.2.2 (ux5))), (6, .int x6)] → W p l e { frames := 3, cells := 0, slots := 0, locals := 69 } s m args below meth c H locs 0 0 (MQ below (gQi Γ 74 rz (cE Γ Sz)) args s 0 0 (wA Γ 74)) (F0 m 58 ls []) := by
  obtain ⟨hx, hb, -, -, hown, hts, -, hwx, -⟩ := id C
  intro n
  induction n with
  | zero =>
    intro S ux4 ux5 x6 hux4 hux5 hf
    unfold fX5_judge_58 at hf
    cases hf
  | succ n ih =>
    intro S ux4 ux5 x6 hux4 hux5 hf H locs ls hP hl
    unfold fX5_judge_58 at hf
    refine lv_iload hx hb dX5_judge_58 (lv_at hl 2 rfl) ?_
    refine lv_aload hx hb dX5_judge_60 (lv_at hl 0 rfl) ?_
    refine c4_get C hP hux4 5 (by decide) k1_108 rfl (v := .int (S.1 ux4 5)) rfl dX5_judge_62 ?_
    refine lv_icmp_ge (tgt := 115) hx hb dX5_judge_65 (by decide) (fun hc14 => ?_) (fun hc14 => ?_)
    · have hf := if_t hc14 hf
      refine lv_bipush (v := (-4)) hx hb dX5_judge_115 rfl ?_
      exact r_iret (X := cE Γ) C hP hf dX5_judge_117
    · have hf := if_f hc14 hf
      refine lv_aload hx hb dX5_judge_68 (lv_at hl 1 rfl) ?_
      refine bd_i hf (fun v15 S15 hq15 hf => ?_)
      refine goI (runV (rest := []) (mX3_minuteGoes l Γ hux5 hq15) C hP hl.1 (by have := hux5; omega) (cE3 hux5) rfl k3_2 qX3_minuteGoes.1 qX3_minuteGoes.2.1 qX3_minuteGoes.2.2.1 qX3_minuteGoes.2.2.2.1 rfl qX3_minuteGoes.2.2.2.2 ⟨Nat.le_of_ble_eq_true rfl, Nat.le_of_ble_eq_true rfl⟩ ⟨Nat.le_refl 0, Nat.le_refl 0⟩ (Nat.le_of_ble_eq_true rfl) dX5_judge_70) hP (fun H locs hP => ?_)
      refine lv_pop hx hb dX5_judge_73 rfl ?_
      refine lv_aload hx hb dX5_judge_74 (lv_at hl 0 rfl) ?_
      refine c4_get C hP hux4 6 (by decide) k1_111 rfl (v := .ref (Γ.2.2 (ux4 + 8))) rfl dX5_judge_76 ?_
      refine lv_iload hx hb dX5_judge_79 (lv_at hl 2 rfl) ?_
      refine gi_i hf (fun hi16 hj17 hf => ?_)
      refine c_ild C hP (cA_va hux4) hi16 dX5_judge_81 ?_
      refine lv_aload hx hb dX5_judge_82 (lv_at hl 0 rfl) ?_
      refine bd_i hf (fun v18 S18 hq18 hf => ?_)
      refine goI (runV (rest := [.int (S15.1 (ux4 + 8) (x6).toNatClampNeg)]) (mX4_leastNumber l Γ hux4 hq18) C hP hl.1 (by have := hux4; omega) (cE4 hux4) rfl k3_88 qX4_leastNumber.1 qX4_leastNumber.2.1 qX4_leastNumber.2.2.1 qX4_leastNumber.2.2.2.1 rfl qX4_leastNumber.2.2.2.2 ⟨Nat.le_of_ble_eq_true rfl, Nat.le_of_ble_eq_true rfl⟩ ⟨Nat.le_refl 0, Nat.le_refl 0⟩ (Nat.le_of_ble_eq_true rfl) dX5_judge_84) hP (fun H locs hP => ?_)
      refine lv_icmp_eq (tgt := 109) hx hb dX5_judge_87 (by decide) (fun hc19 => ?_) (fun hc19 => ?_)
      · have hf := if_t hc19 hf
        exact wX5_judge_109 C  ih  S18 ux4 ux5 x6 hux4 hux5 hf _ _ _ hP (lv_sub hl [0, 1, 2] rfl)
      · have hf := if_f hc19 hf
        refine lv_aload hx hb dX5_judge_90 (lv_at hl 0 rfl) ?_
        refine c4_get C hP hux4 6 (by decide) k1_111 rfl (v := .ref (Γ.2.2 (ux4 + 8))) rfl dX5_judge_92 ?_
        refine lv_iload hx hb dX5_judge_95 (lv_at hl 2 rfl) ?_
        refine gi_i hf (fun hi20 hj21 hf => ?_)
        refine c_ild C hP (cA_va hux4) hi20 dX5_judge_97 ?_
        refine lv_aload hx hb dX5_judge_98 (lv_at hl 1 rfl) ?_
        refine c3_get C hP hux5 2 (by decide) k1_44 rfl (v := .int (S18.1 ux5 2)) rfl dX5_judge_100 ?_
        refine lv_icmp_eq (tgt := 109) hx hb dX5_judge_103 (by decide) (fun hc22 => ?_) (fun hc22 => ?_)
        · have hf := if_t hc22 hf
          exact wX5_judge_109 C  ih  S18 ux4 ux5 x6 hux4 hux5 hf _ _ _ hP (lv_sub hl [0, 1, 2] rfl)
        · have hf := if_f hc22 hf
          refine lv_iload hx hb dX5_judge_106 (lv_at hl 2 rfl) ?_
          exact r_iret (X := cE Γ) C hP hf dX5_judge_108
def fX5_judge  (S : cM) (x1 : Int32) (x2 : Int32) : Option (Int32 × cM) :=
  gn S.2.1 1 3 (bd (fX1_has S.2.1 S x1) fun v2 S2 => ( if v2 = 0 then some ((-1), S2) else bd (fX5_rowRefusal S2 x2) fun v4 S4 => ( if v4 = 0 then gi x2 8 (gn S4.2.2 1 3 (gn S4.2.1 1 3 (bv (fX1_becomeLike S4.2.2 S4.2.1 S4) fun S10 => ( gn S10.2.2 1 3 (gi x1 5 (fX5_judge_58   lF S10 (53 + (x2).toNatClampNeg) (5 * S10.2.2 + 2 + (x1).toNatClampNeg) (nI 0))))))) else some (v4, S4))))
set_option maxHeartbeats 4000000 in
set_option maxRecDepth 100000 in
theorem mX5_judge (l : Launch) (Γ : gG)   {S : cM} {x1 : Int32} {x2 : Int32} {rz : Int32} {Sz : cM} (hf : fX5_judge S x1 x2 = some (rz, Sz)) : CtI l Γ 74 yX5_judge cX5_judge 7 .int 3 69 [.ref (Γ.2.2 (0)), .int x1, .int x2] (cE Γ S) rz (cE Γ Sz) := by
  refine met_body (Γ := Γ) (lv := [(0, .ref (Γ.2.2 (0))), (1, .int x1), (2, .int x2)]) RX5 (by decide) rfl rfl rfl ?_
  intro p e s m below meth c H locs ls C hP hl
  obtain ⟨hx, hb, -, -, hown, hts, -, hwx, -⟩ := id C
  unfold fX5_judge at hf
  refine lv_aload_n hx hb dX5_judge_0 rfl (lv_at hl 0 rfl) ?_
  refine gn_i hf (fun hN1 hf => ?_)
  refine c0_get C hP 0 (by decide) k1_127 rfl (v := .ref (Γ.2.2 (S.2.1))) rfl dX5_judge_1 ?_
  refine lv_iload_n hx hb dX5_judge_4 rfl (lv_at hl 1 rfl) ?_
  refine bd_i hf (fun v2 S2 hq2 hf => ?_)
  refine goI (runV (rest := []) (mX1_has l Γ hN1 hq2) C hP hl.1 (by have := hN1; omega) (cE1 hN1) rfl k2_29 qX1_has.1 qX1_has.2.1 qX1_has.2.2.1 qX1_has.2.2.2.1 rfl qX1_has.2.2.2.2 ⟨Nat.le_of_ble_eq_true rfl, Nat.le_of_ble_eq_true rfl⟩ ⟨Nat.le_refl 0, Nat.le_refl 0⟩ (Nat.le_of_ble_eq_true rfl) dX5_judge_5) hP (fun H locs hP => ?_)
  refine lv_if_ne (tgt := 13) hx hb dX5_judge_8 (by decide) (fun hc3 => ?_) (fun hc3 => ?_)
  · have hf := if_f hc3 hf
    refine lv_aload_n hx hb dX5_judge_13 rfl (lv_at hl 0 rfl) ?_
    refine lv_iload_n hx hb dX5_judge_14 rfl (lv_at hl 2 rfl) ?_
    refine bd_i hf (fun v4 S4 hq4 hf => ?_)
    refine goI (runV (rest := []) (b := 0) (mX5_rowRefusal l Γ  hq4) C hP hl.1 (by decide) cE0 rfl k1_166 qX5_rowRefusal.1 qX5_rowRefusal.2.1 qX5_rowRefusal.2.2.1 qX5_rowRefusal.2.2.2.1 rfl qX5_rowRefusal.2.2.2.2 ⟨Nat.le_of_ble_eq_true rfl, Nat.le_of_ble_eq_true rfl⟩ ⟨Nat.le_refl 0, Nat.le_refl 0⟩ (Nat.le_of_ble_eq_true rfl) dX5_judge_15) hP (fun H locs hP => ?_)
    refine lv_istore_n (lv' := [(3, .int v4), (0, .ref (Γ.2.2 (0))), (1, .int x1), (2, .int x2)]) hx hb dX5_judge_18 rfl hl (by decide) rfl (fun ls hl => ?_)
    refine lv_iload_n hx hb dX5_judge_19 rfl (lv_at hl 0 rfl) ?_
    refine lv_if_eq (tgt := 25) hx hb dX5_judge_20 (by decide) (fun hc5 => ?_) (fun hc5 => ?_)
    · have hf := if_t hc5 hf
      refine lv_aload_n hx hb dX5_judge_25 rfl (lv_at hl 1 rfl) ?_
      refine c0_get C hP 4 (by decide) k1_131 rfl (v := .ref (Γ.2.2 (52))) rfl dX5_judge_26 ?_
      refine lv_iload_n hx hb dX5_judge_29 rfl (lv_at hl 3 rfl) ?_
      refine gi_i hf (fun hi6 hj7 hf => ?_)
      refine c_aldS C hP hi6 dX5_judge_30 ?_
      refine lv_astore (lv' := [(4, .ref (Γ.2.2 (53 + (x2).toNatClampNeg))), (3, .int v4), (0, .ref (Γ.2.2 (0))), (1, .int x1), (2, .int x2)]) hx hb dX5_judge_31 hl (by decide) rfl (fun ls hl => ?_)
      refine lv_aload_n hx hb dX5_judge_33 rfl (lv_at hl 2 rfl) ?_
      refine gn_i hf (fun hN8 hf => ?_)
      refine c0_get C hP 1 (by decide) k1_128 rfl (v := .ref (Γ.2.2 (S4.2.2))) rfl dX5_judge_34 ?_
      refine lv_aload_n hx hb dX5_judge_37 rfl (lv_at hl 2 rfl) ?_
      refine gn_i hf (fun hN9 hf => ?_)
      refine c0_get C hP 0 (by decide) k1_127 rfl (v := .ref (Γ.2.2 (S4.2.1))) rfl dX5_judge_38 ?_
      refine bv_i hf (fun S10 hq10 hf => ?_)
      refine goV (runV (rest := []) (mX1_becomeLike l Γ hN8 hN9 hq10) C hP hl.1 (by have := hN8; omega) (cE1 hN8) rfl k1_189 qX1_becomeLike.1 qX1_becomeLike.2.1 qX1_becomeLike.2.2.1 qX1_becomeLike.2.2.2.1 rfl qX1_becomeLike.2.2.2.2 ⟨Nat.le_of_ble_eq_true rfl, Nat.le_of_ble_eq_true rfl⟩ ⟨Nat.le_refl 0, Nat.le_refl 0⟩ (Nat.le_of_ble_eq_true rfl) dX5_judge_41) hP (fun H locs hP => ?_)
      refine lv_aload_n hx hb dX5_judge_44 rfl (lv_at hl 2 rfl) ?_
      refine gn_i hf (fun hN11 hf => ?_)
      refine c0_get C hP 1 (by decide) k1_128 rfl (v := .ref (Γ.2.2 (S10.2.2))) rfl dX5_judge_45 ?_
      refine c1_get C hP hN11 0 (by decide) k1_71 rfl (v := .ref (Γ.2.2 (S10.2.2 + 3))) rfl dX5_judge_48 ?_
      refine lv_iload_n hx hb dX5_judge_51 rfl (lv_at hl 3 rfl) ?_
      refine gi_i hf (fun hi12 hj13 hf => ?_)
      refine c_aldQ (q := S10.2.2) C hP hN11 hi12 dX5_judge_52 ?_
      refine lv_astore (lv' := [(5, .ref (Γ.2.2 (5 * S10.2.2 + 2 + (x1).toNatClampNeg))), (4, .ref (Γ.2.2 (53 + (x2).toNatClampNeg))), (3, .int v4), (0, .ref (Γ.2.2 (0))), (1, .int x1), (2, .int x2)]) hx hb dX5_judge_53 hl (by decide) rfl (fun ls hl => ?_)
      refine lv_iconst (v := nI 0) hx hb dX5_judge_55 rfl ?_
      refine lv_istore (lv' := [(6, .int (nI 0)), (5, .ref (Γ.2.2 (5 * S10.2.2 + 2 + (x1).toNatClampNeg))), (4, .ref (Γ.2.2 (53 + (x2).toNatClampNeg))), (3, .int v4), (0, .ref (Γ.2.2 (0))), (1, .int x1), (2, .int x2)]) hx hb dX5_judge_56 hl (by decide) rfl (fun ls hl => ?_)
      exact wX5_judge_58 C   lF S10 (53 + (x2).toNatClampNeg) (5 * S10.2.2 + 2 + (x1).toNatClampNeg) (nI 0) (by omega) (by omega) hf _ _ _ hP (lv_sub hl [2, 1, 0] rfl)
    · have hf := if_f hc5 hf
      refine lv_iload_n hx hb dX5_judge_23 rfl (lv_at hl 0 rfl) ?_
      exact r_iret (X := cE Γ) C hP hf dX5_judge_24
  · have hf := if_t hc3 hf
    refine lv_iconst (v := (-1)) hx hb dX5_judge_11 rfl ?_
    exact r_iret (X := cE Γ) C hP hf dX5_judge_12
-- X5_image
theorem qX5_image : Cond.instanceMethod yX5_image ∈ Ub ∧ Cond.selects RX5 yX5_image yX5_image ∈ Ub ∧ Cond.initialized RX5 ∈ Ub ∧ Cond.code yX5_image cX5_image 1 (some FieldType.int) ∈ Ub ∧ (yX5_image.cls = RX5 ∧ yX5_image.cls ≠ "java/lang/invoke/MethodHandle" ∧ yX5_image.cls ≠ "java/lang/invoke/VarHandle" ∧ (parseMethodDescriptor yX5_image.desc).map (fun d => d.parameters.length) = some 0) := ⟨k3_94, k3_95, k1_1, k3_96, by decide +kernel⟩
def fX5_image  (S : cM)  : Option (Int32 × cM) :=
  gn S.2.1 1 3 (bv (fX1_becomeLike 3 S.2.1 S) fun S2 => ( sv (cS S2 0 3 (nI 1)) fun S3 => ( gn S3.2.1 1 3 (some (S3.1 S3.2.1 2, S3)))))
set_option maxHeartbeats 4000000 in
set_option maxRecDepth 100000 in
theorem mX5_image (l : Launch) (Γ : gG)   {S : cM}  {rz : Int32} {Sz : cM} (hf : fX5_image S = some (rz, Sz)) : CtI l Γ 74 yX5_image cX5_image 1 .int 3 69 [.ref (Γ.2.2 (0))] (cE Γ S) rz (cE Γ Sz) := by
  refine met_body (Γ := Γ) (lv := [(0, .ref (Γ.2.2 (0)))]) RX5 (by decide) rfl rfl rfl ?_
  intro p e s m below meth c H locs ls C hP hl
  obtain ⟨hx, hb, -, -, hown, hts, -, hwx, -⟩ := id C
  unfold fX5_image at hf
  refine lv_aload_n hx hb dX5_image_0 rfl (lv_at hl 0 rfl) ?_
  refine c0_get C hP 2 (by decide) k1_129 rfl (v := .ref (Γ.2.2 (3))) rfl dX5_image_1 ?_
  refine lv_aload_n hx hb dX5_image_4 rfl (lv_at hl 0 rfl) ?_
  refine gn_i hf (fun hN1 hf => ?_)
  refine c0_get C hP 0 (by decide) k1_127 rfl (v := .ref (Γ.2.2 (S.2.1))) rfl dX5_image_5 ?_
  refine bv_i hf (fun S2 hq2 hf => ?_)
  refine goV (runV (rest := []) (mX1_becomeLike l Γ (by omega) hN1 hq2) C hP hl.1 (by have := (show 1 ≤ 3 ∧ 3 ≤ 3 by omega); omega) (cE1 (by omega)) rfl k1_189 qX1_becomeLike.1 qX1_becomeLike.2.1 qX1_becomeLike.2.2.1 qX1_becomeLike.2.2.2.1 rfl qX1_becomeLike.2.2.2.2 ⟨Nat.le_of_ble_eq_true rfl, Nat.le_of_ble_eq_true rfl⟩ ⟨Nat.le_refl 0, Nat.le_refl 0⟩ (Nat.le_of_ble_eq_true rfl) dX5_image_8) hP (fun H locs hP => ?_)
  refine lv_aload_n hx hb dX5_image_11 rfl (lv_at hl 0 rfl) ?_
  refine lv_iconst (v := nI 1) hx hb dX5_image_12 rfl ?_
  refine c0_putT C hP k1_130 (Or.inr rfl) dX5_image_13 (fun H locs hP => ?_)
  refine sv_i hf (fun S3 e3 hf => ?_)
  rw [← e3] at hP
  refine lv_aload_n hx hb dX5_image_16 rfl (lv_at hl 0 rfl) ?_
  refine gn_i hf (fun hN4 hf => ?_)
  refine c0_get C hP 0 (by decide) k1_127 rfl (v := .ref (Γ.2.2 (S3.2.1))) rfl dX5_image_17 ?_
  refine c1_get C hP hN4 2 (by decide) k1_77 rfl (v := .int (S3.1 S3.2.1 2)) rfl dX5_image_20 ?_
  exact r_iret (X := cE Γ) C hP hf dX5_image_23
-- X5_restore
theorem qX5_restore : Cond.instanceMethod yX5_restore ∈ Ub ∧ Cond.selects RX5 yX5_restore yX5_restore ∈ Ub ∧ Cond.initialized RX5 ∈ Ub ∧ Cond.code yX5_restore cX5_restore 1 (some FieldType.int) ∈ Ub ∧ (yX5_restore.cls = RX5 ∧ yX5_restore.cls ≠ "java/lang/invoke/MethodHandle" ∧ yX5_restore.cls ≠ "java/lang/invoke/VarHandle" ∧ (parseMethodDescriptor yX5_restore.desc).map (fun d => d.parameters.length) = some 0) := ⟨k3_98, k3_99, k1_1, k3_100, by decide +kernel⟩
def fX5_restore  (S : cM)  : Option (Int32 × cM) :=
  if (S.1 0 3) = 0 then some ((-3), S) else gn S.2.1 1 3 (bv (fX1_becomeLike S.2.1 3 S) fun S3 => ( gn S3.2.1 1 3 (some (S3.1 S3.2.1 2, S3))))
set_option maxHeartbeats 4000000 in
set_option maxRecDepth 100000 in
theorem mX5_restore (l : Launch) (Γ : gG)   {S : cM}  {rz : Int32} {Sz : cM} (hf : fX5_restore S = some (rz, Sz)) : CtI l Γ 74 yX5_restore cX5_restore 1 .int 3 69 [.ref (Γ.2.2 (0))] (cE Γ S) rz (cE Γ Sz) := by
  refine met_body (Γ := Γ) (lv := [(0, .ref (Γ.2.2 (0)))]) RX5 (by decide) rfl rfl rfl ?_
  intro p e s m below meth c H locs ls C hP hl
  obtain ⟨hx, hb, -, -, hown, hts, -, hwx, -⟩ := id C
  unfold fX5_restore at hf
  refine lv_aload_n hx hb dX5_restore_0 rfl (lv_at hl 0 rfl) ?_
  refine c0_get C hP 3 (by decide) k1_130 rfl (v := .int (S.1 0 3)) rfl dX5_restore_1 ?_
  refine lv_if_ne (tgt := 10) hx hb dX5_restore_4 (by decide) (fun hc1 => ?_) (fun hc1 => ?_)
  · have hf := if_f hc1 hf
    refine lv_aload_n hx hb dX5_restore_10 rfl (lv_at hl 0 rfl) ?_
    refine gn_i hf (fun hN2 hf => ?_)
    refine c0_get C hP 0 (by decide) k1_127 rfl (v := .ref (Γ.2.2 (S.2.1))) rfl dX5_restore_11 ?_
    refine lv_aload_n hx hb dX5_restore_14 rfl (lv_at hl 0 rfl) ?_
    refine c0_get C hP 2 (by decide) k1_129 rfl (v := .ref (Γ.2.2 (3))) rfl dX5_restore_15 ?_
    refine bv_i hf (fun S3 hq3 hf => ?_)
    refine goV (runV (rest := []) (mX1_becomeLike l Γ hN2 (by omega) hq3) C hP hl.1 (by have := hN2; omega) (cE1 hN2) rfl k1_189 qX1_becomeLike.1 qX1_becomeLike.2.1 qX1_becomeLike.2.2.1 qX1_becomeLike.2.2.2.1 rfl qX1_becomeLike.2.2.2.2 ⟨Nat.le_of_ble_eq_true rfl, Nat.le_of_ble_eq_true rfl⟩ ⟨Nat.le_refl 0, Nat.le_refl 0⟩ (Nat.le_of_ble_eq_true rfl) dX5_restore_18) hP (fun H locs hP => ?_)
    refine lv_aload_n hx hb dX5_restore_21 rfl (lv_at hl 0 rfl) ?_
    refine gn_i hf (fun hN4 hf => ?_)
    refine c0_get C hP 0 (by decide) k1_127 rfl (v := .ref (Γ.2.2 (S3.2.1))) rfl dX5_restore_22 ?_
    refine c1_get C hP hN4 2 (by decide) k1_77 rfl (v := .int (S3.1 S3.2.1 2)) rfl dX5_restore_25 ?_
    exact r_iret (X := cE Γ) C hP hf dX5_restore_28
  · have hf := if_t hc1 hf
    refine lv_bipush (v := (-3)) hx hb dX5_restore_7 rfl ?_
    exact r_iret (X := cE Γ) C hP hf dX5_restore_9
-- X5_count
theorem qX5_count : Cond.instanceMethod yX5_count ∈ Ub ∧ Cond.selects RX5 yX5_count yX5_count ∈ Ub ∧ Cond.initialized RX5 ∈ Ub ∧ Cond.code yX5_count cX5_count 2 (some FieldType.int) ∈ Ub ∧ (yX5_count.cls = RX5 ∧ yX5_count.cls ≠ "java/lang/invoke/MethodHandle" ∧ yX5_count.cls ≠ "java/lang/invoke/VarHandle" ∧ (parseMethodDescriptor yX5_count.desc).map (fun d => d.parameters.length) = some 1) := ⟨k3_102, k3_103, k1_1, k3_104, by decide +kernel⟩
def fX5_count  (S : cM) (x1 : Int32) : Option (Int32 × cM) :=
  (if x1 = nI 0 then gn S.2.1 1 3 (some (S.1 S.2.1 1, S)) else if x1 = nI 1 then gn S.2.1 1 3 (bd (fX1_carsTogether S.2.1 S) fun v5 S5 => ( some (v5, S5))) else if x1 = nI 2 then gn S.2.1 1 3 (some (S.1 S.2.1 2, S)) else if x1 = nI 3 then gn S.2.1 1 3 (some (S.1 S.2.1 3, S)) else if x1 = nI 4 then gn S.2.1 1 3 (bd (fX1_lanesToChoose S.2.1 S) fun v12 S12 => ( some (v12, S12))) else if x1 = nI 5 then gn S.2.1 1 3 (bd (fX1_greatestWait S.2.1 S) fun v15 S15 => ( some (v15, S15))) else some ((-1), S))
set_option maxHeartbeats 4000000 in
set_option maxRecDepth 100000 in
theorem mX5_count (l : Launch) (Γ : gG)   {S : cM} {x1 : Int32} {rz : Int32} {Sz : cM} (hf : fX5_count S x1 = some (rz, Sz)) : CtI l Γ 74 yX5_count cX5_count 2 .int 4 86 [.ref (Γ.2.2 (0)), .int x1] (cE Γ S) rz (cE Γ Sz) := by
  refine met_body (Γ := Γ) (lv := [(0, .ref (Γ.2.2 (0))), (1, .int x1)]) RX5 (by decide) rfl rfl rfl ?_
  intro p e s m below meth c H locs ls C hP hl
  obtain ⟨hx, hb, -, -, hown, hts, -, hwx, -⟩ := id C
  unfold fX5_count at hf
  refine lv_iload_n hx hb dX5_count_0 rfl (lv_at hl 1 rfl) ?_
  by_cases hs1 : x1 = nI 0
  · have hf := if_t hs1 hf
    refine lv_tableIn (tgt := 40) hx hb dX5_count_1 (by rw [hs1]; decide) (by rw [hs1]; decide) (by rw [hs1]; rfl) (by decide) ?_
    refine lv_aload_n hx hb dX5_count_40 rfl (lv_at hl 0 rfl) ?_
    refine gn_i hf (fun hN2 hf => ?_)
    refine c0_get C hP 0 (by decide) k1_127 rfl (v := .ref (Γ.2.2 (S.2.1))) rfl dX5_count_41 ?_
    refine c1_get C hP hN2 1 (by decide) k1_75 rfl (v := .int (S.1 S.2.1 1)) rfl dX5_count_44 ?_
    exact r_iret (X := cE Γ) C hP hf dX5_count_47
  · have hf := if_f hs1 hf
    by_cases hs3 : x1 = nI 1
    · have hf := if_t hs3 hf
      refine lv_tableIn (tgt := 48) hx hb dX5_count_1 (by rw [hs3]; decide) (by rw [hs3]; decide) (by rw [hs3]; rfl) (by decide) ?_
      refine lv_aload_n hx hb dX5_count_48 rfl (lv_at hl 0 rfl) ?_
      refine gn_i hf (fun hN4 hf => ?_)
      refine c0_get C hP 0 (by decide) k1_127 rfl (v := .ref (Γ.2.2 (S.2.1))) rfl dX5_count_49 ?_
      refine bd_i hf (fun v5 S5 hq5 hf => ?_)
      refine goI (runV (rest := []) (mX1_carsTogether l Γ hN4 hq5) C hP hl.1 (by have := hN4; omega) (cE1 hN4) rfl k3_80 qX1_carsTogether.1 qX1_carsTogether.2.1 qX1_carsTogether.2.2.1 qX1_carsTogether.2.2.2.1 rfl qX1_carsTogether.2.2.2.2 ⟨Nat.le_of_ble_eq_true rfl, Nat.le_of_ble_eq_true rfl⟩ ⟨Nat.le_refl 0, Nat.le_refl 0⟩ (Nat.le_of_ble_eq_true rfl) dX5_count_52) hP (fun H locs hP => ?_)
      exact r_iret (X := cE Γ) C hP hf dX5_count_55
    · have hf := if_f hs3 hf
      by_cases hs6 : x1 = nI 2
      · have hf := if_t hs6 hf
        refine lv_tableIn (tgt := 56) hx hb dX5_count_1 (by rw [hs6]; decide) (by rw [hs6]; decide) (by rw [hs6]; rfl) (by decide) ?_
        refine lv_aload_n hx hb dX5_count_56 rfl (lv_at hl 0 rfl) ?_
        refine gn_i hf (fun hN7 hf => ?_)
        refine c0_get C hP 0 (by decide) k1_127 rfl (v := .ref (Γ.2.2 (S.2.1))) rfl dX5_count_57 ?_
        refine c1_get C hP hN7 2 (by decide) k1_77 rfl (v := .int (S.1 S.2.1 2)) rfl dX5_count_60 ?_
        exact r_iret (X := cE Γ) C hP hf dX5_count_63
      · have hf := if_f hs6 hf
        by_cases hs8 : x1 = nI 3
        · have hf := if_t hs8 hf
          refine lv_tableIn (tgt := 64) hx hb dX5_count_1 (by rw [hs8]; decide) (by rw [hs8]; decide) (by rw [hs8]; rfl) (by decide) ?_
          refine lv_aload_n hx hb dX5_count_64 rfl (lv_at hl 0 rfl) ?_
          refine gn_i hf (fun hN9 hf => ?_)
          refine c0_get C hP 0 (by decide) k1_127 rfl (v := .ref (Γ.2.2 (S.2.1))) rfl dX5_count_65 ?_
          refine c1_get C hP hN9 3 (by decide) k1_79 rfl (v := .int (S.1 S.2.1 3)) rfl dX5_count_68 ?_
          exact r_iret (X := cE Γ) C hP hf dX5_count_71
        · have hf := if_f hs8 hf
          by_cases hs10 : x1 = nI 4
          · have hf := if_t hs10 hf
            refine lv_tableIn (tgt := 72) hx hb dX5_count_1 (by rw [hs10]; decide) (by rw [hs10]; decide) (by rw [hs10]; rfl) (by decide) ?_
            refine lv_aload_n hx hb dX5_count_72 rfl (lv_at hl 0 rfl) ?_
            refine gn_i hf (fun hN11 hf => ?_)
            refine c0_get C hP 0 (by decide) k1_127 rfl (v := .ref (Γ.2.2 (S.2.1))) rfl dX5_count_73 ?_
            refine bd_i hf (fun v12 S12 hq12 hf => ?_)
            refine goI (runV (rest := []) (mX1_lanesToChoose l Γ hN11 hq12) C hP hl.1 (by have := hN11; omega) (cE1 hN11) rfl k3_105 qX1_lanesToChoose.1 qX1_lanesToChoose.2.1 qX1_lanesToChoose.2.2.1 qX1_lanesToChoose.2.2.2.1 rfl qX1_lanesToChoose.2.2.2.2 ⟨Nat.le_of_ble_eq_true rfl, Nat.le_of_ble_eq_true rfl⟩ ⟨Nat.le_refl 0, Nat.le_refl 0⟩ (Nat.le_of_ble_eq_true rfl) dX5_count_76) hP (fun H locs hP => ?_)
            exact r_iret (X := cE Γ) C hP hf dX5_count_79
          · have hf := if_f hs10 hf
            by_cases hs13 : x1 = nI 5
            · have hf := if_t hs13 hf
              refine lv_tableIn (tgt := 80) hx hb dX5_count_1 (by rw [hs13]; decide) (by rw [hs13]; decide) (by rw [hs13]; rfl) (by decide) ?_
              refine lv_aload_n hx hb dX5_count_80 rfl (lv_at hl 0 rfl) ?_
              refine gn_i hf (fun hN14 hf => ?_)
              refine c0_get C hP 0 (by decide) k1_127 rfl (v := .ref (Γ.2.2 (S.2.1))) rfl dX5_count_81 ?_
              refine bd_i hf (fun v15 S15 hq15 hf => ?_)
              refine goI (runV (rest := []) (mX1_greatestWait l Γ hN14 hq15) C hP hl.1 (by have := hN14; omega) (cE1 hN14) rfl k3_109 qX1_greatestWait.1 qX1_greatestWait.2.1 qX1_greatestWait.2.2.1 qX1_greatestWait.2.2.2.1 rfl qX1_greatestWait.2.2.2.2 ⟨Nat.le_of_ble_eq_true rfl, Nat.le_of_ble_eq_true rfl⟩ ⟨Nat.le_refl 0, Nat.le_refl 0⟩ (Nat.le_of_ble_eq_true rfl) dX5_count_84) hP (fun H locs hP => ?_)
              exact r_iret (X := cE Γ) C hP hf dX5_count_87
            · have hf := if_f hs13 hf
              refine lv_tableOut (tgt := 88) hx hb dX5_count_1 (by have q0 := ne_toInt hs1; have q1 := ne_toInt hs3; have q2 := ne_toInt hs6; have q3 := ne_toInt hs8; have q4 := ne_toInt hs10; have q5 := ne_toInt hs13; rw [show (nI 0).toInt = 0 from by decide] at q0; rw [show (nI 1).toInt = 1 from by decide] at q1; rw [show (nI 2).toInt = 2 from by decide] at q2; rw [show (nI 3).toInt = 3 from by decide] at q3; rw [show (nI 4).toInt = 4 from by decide] at q4; rw [show (nI 5).toInt = 5 from by decide] at q5;  omega) (by decide) ?_
              refine lv_iconst (v := (-1)) hx hb dX5_count_88 rfl ?_
              exact r_iret (X := cE Γ) C hP hf dX5_count_89
-- X5_keep
theorem qX5_keep : Cond.instanceMethod yX5_keep ∈ Ub ∧ Cond.selects RX5 yX5_keep yX5_keep ∈ Ub ∧ Cond.initialized RX5 ∈ Ub ∧ Cond.code yX5_keep cX5_keep 4 (some FieldType.int) ∈ Ub ∧ (yX5_keep.cls = RX5 ∧ yX5_keep.cls ≠ "java/lang/invoke/MethodHandle" ∧ yX5_keep.cls ≠ "java/lang/invoke/VarHandle" ∧ (parseMethodDescriptor yX5_keep.desc).map (fun d => d.parameters.length) = some 3) := ⟨k3_116, k3_117, k1_1, k3_118, by decide +kernel⟩
def fX5_keep_34   (S : cM) (x1 : Int32) (x2 : Int32) (x3 : Int32) : Option (Int32 × cM) :=
  if x2 = 0 then gi x1 8 (bv (fX4_holdNothing (53 + (x1).toNatClampNeg) S) fun S15 => ( some (nI 0, S15))) else gi x1 8 (gn S.2.1 1 3 (gi x3 5 (bv (fX4_holdLane (53 + (x1).toNatClampNeg) (5 * S.2.1 + 2 + (x3).toNatClampNeg) S x3) fun S12 => ( some (nI 0, S12)))))
set_option maxHeartbeats 4000000 in
set_option maxRecDepth 100000 in
theorem wX5_keep_34 {p : Program} {l : Launch} {e : Env} {s : State} {m : MethodId} {args : Array Value} {below : List Frame} {meth : Method} {c : Code} {Γ : gG} {rz : Int32} {Sz : cM} (C : Cx Γ 74 p s m args meth c RX5 cX5_keep 4 (some .int))   : ∀ (S : cM) (x1 : Int32) (x2 : Int32) (x3 : Int32) , fX5_keep_34   S x1 x2 x3 = some (rz, Sz) → ∀ (H : Heap) (locs : List Loc) (ls : Array Slot), St Γ 74 (cE Γ S) s.heap H locs → lv_has ls 4 [(0, .ref (Γ.2.2 (0))), (1, .int x1), (2, .int x2), (3, .int x3)] → W p l e { frames := 1, cells := 0, slots := 0, locals := 22 } s m args below meth c H locs 0 0 (MQ below (gQi Γ 74 rz (cE Γ Sz)) args s 0 0 (wA Γ 74)) (F0 m 34 ls []) := by
  obtain ⟨hx, hb, -, -, hown, hts, -, hwx, -⟩ := id C
  intro S x1 x2 x3 hf H locs ls hP hl
  unfold fX5_keep_34 at hf
  refine lv_iload_n hx hb dX5_keep_34 rfl (lv_at hl 2 rfl) ?_
  refine lv_if_ne (tgt := 50) hx hb dX5_keep_35 (by decide) (fun hc6 => ?_) (fun hc6 => ?_)
  · have hf := if_f hc6 hf
    refine lv_aload_n hx hb dX5_keep_50 rfl (lv_at hl 0 rfl) ?_
    refine c0_get C hP 4 (by decide) k1_131 rfl (v := .ref (Γ.2.2 (52))) rfl dX5_keep_51 ?_
    refine lv_iload_n hx hb dX5_keep_54 rfl (lv_at hl 1 rfl) ?_
    refine gi_i hf (fun hi7 hj8 hf => ?_)
    refine c_aldS C hP hi7 dX5_keep_55 ?_
    refine lv_iload_n hx hb dX5_keep_56 rfl (lv_at hl 3 rfl) ?_
    refine lv_aload_n hx hb dX5_keep_57 rfl (lv_at hl 0 rfl) ?_
    refine gn_i hf (fun hN9 hf => ?_)
    refine c0_get C hP 0 (by decide) k1_127 rfl (v := .ref (Γ.2.2 (S.2.1))) rfl dX5_keep_58 ?_
    refine c1_get C hP hN9 0 (by decide) k1_71 rfl (v := .ref (Γ.2.2 (S.2.1 + 3))) rfl dX5_keep_61 ?_
    refine lv_iload_n hx hb dX5_keep_64 rfl (lv_at hl 3 rfl) ?_
    refine gi_i hf (fun hi10 hj11 hf => ?_)
    refine c_aldQ (q := S.2.1) C hP hN9 hi10 dX5_keep_65 ?_
    refine bv_i hf (fun S12 hq12 hf => ?_)
    refine goV (runV (rest := []) (mX4_holdLane l Γ (by omega) (by omega) hq12) C hP hl.1 (by have := (show 53 ≤ 53 + (x1).toNatClampNeg ∧ 53 + (x1).toNatClampNeg ≤ 60 by omega); omega) (cE4 (by omega)) rfl k3_123 qX4_holdLane.1 qX4_holdLane.2.1 qX4_holdLane.2.2.1 qX4_holdLane.2.2.2.1 rfl qX4_holdLane.2.2.2.2 ⟨Nat.le_of_ble_eq_true rfl, Nat.le_of_ble_eq_true rfl⟩ ⟨Nat.le_refl 0, Nat.le_refl 0⟩ (Nat.le_of_ble_eq_true rfl) dX5_keep_66) hP (fun H locs hP => ?_)
    refine lv_iconst (v := nI 0) hx hb dX5_keep_69 rfl ?_
    exact r_iret (X := cE Γ) C hP hf dX5_keep_70
  · have hf := if_t hc6 hf
    refine lv_aload_n hx hb dX5_keep_38 rfl (lv_at hl 0 rfl) ?_
    refine c0_get C hP 4 (by decide) k1_131 rfl (v := .ref (Γ.2.2 (52))) rfl dX5_keep_39 ?_
    refine lv_iload_n hx hb dX5_keep_42 rfl (lv_at hl 1 rfl) ?_
    refine gi_i hf (fun hi13 hj14 hf => ?_)
    refine c_aldS C hP hi13 dX5_keep_43 ?_
    refine bv_i hf (fun S15 hq15 hf => ?_)
    refine goV (runV (rest := []) (mX4_holdNothing l Γ (by omega) hq15) C hP hl.1 (by have := (show 53 ≤ 53 + (x1).toNatClampNeg ∧ 53 + (x1).toNatClampNeg ≤ 60 by omega); omega) (cE4 (by omega)) rfl k3_119 qX4_holdNothing.1 qX4_holdNothing.2.1 qX4_holdNothing.2.2.1 qX4_holdNothing.2.2.2.1 rfl qX4_holdNothing.2.2.2.2 ⟨Nat.le_of_ble_eq_true rfl, Nat.le_of_ble_eq_true rfl⟩ ⟨Nat.le_refl 0, Nat.le_refl 0⟩ (Nat.le_of_ble_eq_true rfl) dX5_keep_44) hP (fun H locs hP => ?_)
    refine lv_goto (tgt := 69) hx hb dX5_keep_47 (by decide) ?_
    refine lv_iconst (v := nI 0) hx hb dX5_keep_69 rfl ?_
    exact r_iret (X := cE Γ) C hP hf dX5_keep_70
def fX5_keep  (S : cM) (x1 : Int32) (x2 : Int32) (x3 : Int32) : Option (Int32 × cM) :=
  bd (fX5_isShelf S x1) fun v1 S1 => ( if v1 = 0 then some ((-1), S1) else if x2 < 0 then some ((-1), S1) else if (nI 1) < x2 then some ((-1), S1) else if x2 = (nI 1) then gn S1.2.1 1 3 (bd (fX1_has S1.2.1 S1 x3) fun v17 S17 => ( if v17 = 0 then some ((-1), S17) else fX5_keep_34    S17 x1 x2 x3)) else fX5_keep_34    S1 x1 x2 x3)
set_option maxHeartbeats 4000000 in
set_option maxRecDepth 100000 in
theorem mX5_keep (l : Launch) (Γ : gG)   {S : cM} {x1 : Int32} {x2 : Int32} {x3 : Int32} {rz : Int32} {Sz : cM} (hf : fX5_keep S x1 x2 x3 = some (rz, Sz)) : CtI l Γ 74 yX5_keep cX5_keep 4 .int 1 22 [.ref (Γ.2.2 (0)), .int x1, .int x2, .int x3] (cE Γ S) rz (cE Γ Sz) := by
  refine met_body (Γ := Γ) (lv := [(0, .ref (Γ.2.2 (0))), (1, .int x1), (2, .int x2), (3, .int x3)]) RX5 (by decide) rfl rfl rfl ?_
  intro p e s m below meth c H locs ls C hP hl
  obtain ⟨hx, hb, -, -, hown, hts, -, hwx, -⟩ := id C
  unfold fX5_keep at hf
  refine lv_iload_n hx hb dX5_keep_0 rfl (lv_at hl 1 rfl) ?_
  refine bd_i hf (fun v1 S1 hq1 hf => ?_)
  refine goI (runS (rest := []) (mX5_isShelf l Γ  hq1) C hP hl.1 k1_174 qX5_isShelf.1 qX5_isShelf.2.1 qX5_isShelf.2.2.1 rfl qX5_isShelf.2.2.2 ⟨Nat.le_of_ble_eq_true rfl, Nat.le_of_ble_eq_true rfl⟩ ⟨Nat.le_refl 0, Nat.le_refl 0⟩ (Nat.le_of_ble_eq_true rfl) dX5_keep_1) hP (fun H locs hP => ?_)
  refine lv_if_eq (tgt := 32) hx hb dX5_keep_4 (by decide) (fun hc2 => ?_) (fun hc2 => ?_)
  · have hf := if_t hc2 hf
    refine lv_iconst (v := (-1)) hx hb dX5_keep_32 rfl ?_
    exact r_iret (X := cE Γ) C hP hf dX5_keep_33
  · have hf := if_f hc2 hf
    refine lv_iload_n hx hb dX5_keep_7 rfl (lv_at hl 2 rfl) ?_
    refine lv_if_lt (tgt := 32) hx hb dX5_keep_8 (by decide) (fun hc3 => ?_) (fun hc3 => ?_)
    · have hf := if_t hc3 hf
      refine lv_iconst (v := (-1)) hx hb dX5_keep_32 rfl ?_
      exact r_iret (X := cE Γ) C hP hf dX5_keep_33
    · have hf := if_f hc3 hf
      refine lv_iload_n hx hb dX5_keep_11 rfl (lv_at hl 2 rfl) ?_
      refine lv_iconst (v := nI 1) hx hb dX5_keep_12 rfl ?_
      refine lv_icmp_gt (tgt := 32) hx hb dX5_keep_13 (by decide) (fun hc4 => ?_) (fun hc4 => ?_)
      · have hf := if_t hc4 hf
        refine lv_iconst (v := (-1)) hx hb dX5_keep_32 rfl ?_
        exact r_iret (X := cE Γ) C hP hf dX5_keep_33
      · have hf := if_f hc4 hf
        refine lv_iload_n hx hb dX5_keep_16 rfl (lv_at hl 2 rfl) ?_
        refine lv_iconst (v := nI 1) hx hb dX5_keep_17 rfl ?_
        refine lv_icmp_ne (tgt := 34) hx hb dX5_keep_18 (by decide) (fun hc5 => ?_) (fun hc5 => ?_)
        · have hf := if_f hc5 hf
          exact wX5_keep_34 C    S1 x1 x2 x3  hf _ _ _ hP (lv_sub hl [0, 1, 2, 3] rfl)
        · have hf := if_t hc5 hf
          refine lv_aload_n hx hb dX5_keep_21 rfl (lv_at hl 0 rfl) ?_
          refine gn_i hf (fun hN16 hf => ?_)
          refine c0_get C hP 0 (by decide) k1_127 rfl (v := .ref (Γ.2.2 (S1.2.1))) rfl dX5_keep_22 ?_
          refine lv_iload_n hx hb dX5_keep_25 rfl (lv_at hl 3 rfl) ?_
          refine bd_i hf (fun v17 S17 hq17 hf => ?_)
          refine goI (runV (rest := []) (mX1_has l Γ hN16 hq17) C hP hl.1 (by have := hN16; omega) (cE1 hN16) rfl k2_29 qX1_has.1 qX1_has.2.1 qX1_has.2.2.1 qX1_has.2.2.2.1 rfl qX1_has.2.2.2.2 ⟨Nat.le_of_ble_eq_true rfl, Nat.le_of_ble_eq_true rfl⟩ ⟨Nat.le_refl 0, Nat.le_refl 0⟩ (Nat.le_of_ble_eq_true rfl) dX5_keep_26) hP (fun H locs hP => ?_)
          refine lv_if_ne (tgt := 34) hx hb dX5_keep_29 (by decide) (fun hc18 => ?_) (fun hc18 => ?_)
          · have hf := if_f hc18 hf
            exact wX5_keep_34 C    S17 x1 x2 x3  hf _ _ _ hP (lv_sub hl [0, 1, 2, 3] rfl)
          · have hf := if_t hc18 hf
            refine lv_iconst (v := (-1)) hx hb dX5_keep_32 rfl ?_
            exact r_iret (X := cE Γ) C hP hf dX5_keep_33
-- X5_row
theorem qX5_row : Cond.instanceMethod yX5_row ∈ Ub ∧ Cond.selects RX5 yX5_row yX5_row ∈ Ub ∧ Cond.initialized RX5 ∈ Ub ∧ Cond.code yX5_row cX5_row 4 (some FieldType.int) ∈ Ub ∧ (yX5_row.cls = RX5 ∧ yX5_row.cls ≠ "java/lang/invoke/MethodHandle" ∧ yX5_row.cls ≠ "java/lang/invoke/VarHandle" ∧ (parseMethodDescriptor yX5_row.desc).map (fun d => d.parameters.length) = some 3) := ⟨k3_128, k3_129, k1_1, k3_130, by decide +kernel⟩
def fX5_row  (S : cM) (x1 : Int32) (x2 : Int32) (x3 : Int32) : Option (Int32 × cM) :=
  bd (fX5_isShelf S x1) fun v1 S1 => ( if v1 = 0 then some ((-1), S1) else if x2 < 0 then some ((-1), S1) else if (nI 2) < x2 then some ((-1), S1) else if x3 ≤ (nI 100) then if (0 : Int32) ≤ x3 then gi x1 8 (bv (fX4_holdRow (53 + (x1).toNatClampNeg) S1 x2 x3) fun S9 => ( some (nI 0, S9))) else some ((-14), S1) else some ((-1), S1))
set_option maxHeartbeats 4000000 in
set_option maxRecDepth 100000 in
theorem mX5_row (l : Launch) (Γ : gG)   {S : cM} {x1 : Int32} {x2 : Int32} {x3 : Int32} {rz : Int32} {Sz : cM} (hf : fX5_row S x1 x2 x3 = some (rz, Sz)) : CtI l Γ 74 yX5_row cX5_row 4 .int 1 23 [.ref (Γ.2.2 (0)), .int x1, .int x2, .int x3] (cE Γ S) rz (cE Γ Sz) := by
  refine met_body (Γ := Γ) (lv := [(0, .ref (Γ.2.2 (0))), (1, .int x1), (2, .int x2), (3, .int x3)]) RX5 (by decide) rfl rfl rfl ?_
  intro p e s m below meth c H locs ls C hP hl
  obtain ⟨hx, hb, -, -, hown, hts, -, hwx, -⟩ := id C
  unfold fX5_row at hf
  refine lv_iload_n hx hb dX5_row_0 rfl (lv_at hl 1 rfl) ?_
  refine bd_i hf (fun v1 S1 hq1 hf => ?_)
  refine goI (runS (rest := []) (mX5_isShelf l Γ  hq1) C hP hl.1 k1_174 qX5_isShelf.1 qX5_isShelf.2.1 qX5_isShelf.2.2.1 rfl qX5_isShelf.2.2.2 ⟨Nat.le_of_ble_eq_true rfl, Nat.le_of_ble_eq_true rfl⟩ ⟨Nat.le_refl 0, Nat.le_refl 0⟩ (Nat.le_of_ble_eq_true rfl) dX5_row_1) hP (fun H locs hP => ?_)
  refine lv_if_eq (tgt := 22) hx hb dX5_row_4 (by decide) (fun hc2 => ?_) (fun hc2 => ?_)
  · have hf := if_t hc2 hf
    refine lv_iconst (v := (-1)) hx hb dX5_row_22 rfl ?_
    exact r_iret (X := cE Γ) C hP hf dX5_row_23
  · have hf := if_f hc2 hf
    refine lv_iload_n hx hb dX5_row_7 rfl (lv_at hl 2 rfl) ?_
    refine lv_if_lt (tgt := 22) hx hb dX5_row_8 (by decide) (fun hc3 => ?_) (fun hc3 => ?_)
    · have hf := if_t hc3 hf
      refine lv_iconst (v := (-1)) hx hb dX5_row_22 rfl ?_
      exact r_iret (X := cE Γ) C hP hf dX5_row_23
    · have hf := if_f hc3 hf
      refine lv_iload_n hx hb dX5_row_11 rfl (lv_at hl 2 rfl) ?_
      refine lv_iconst (v := nI 2) hx hb dX5_row_12 rfl ?_
      refine lv_icmp_gt (tgt := 22) hx hb dX5_row_13 (by decide) (fun hc4 => ?_) (fun hc4 => ?_)
      · have hf := if_t hc4 hf
        refine lv_iconst (v := (-1)) hx hb dX5_row_22 rfl ?_
        exact r_iret (X := cE Γ) C hP hf dX5_row_23
      · have hf := if_f hc4 hf
        refine lv_iload_n hx hb dX5_row_16 rfl (lv_at hl 3 rfl) ?_
        refine lv_bipush (v := nI 100) hx hb dX5_row_17 rfl ?_
        refine lv_icmp_le (tgt := 24) hx hb dX5_row_19 (by decide) (fun hc5 => ?_) (fun hc5 => ?_)
        · have hf := if_t hc5 hf
          refine lv_iload_n hx hb dX5_row_24 rfl (lv_at hl 3 rfl) ?_
          refine lv_if_ge (tgt := 31) hx hb dX5_row_25 (by decide) (fun hc6 => ?_) (fun hc6 => ?_)
          · have hf := if_t hc6 hf
            refine lv_aload_n hx hb dX5_row_31 rfl (lv_at hl 0 rfl) ?_
            refine c0_get C hP 4 (by decide) k1_131 rfl (v := .ref (Γ.2.2 (52))) rfl dX5_row_32 ?_
            refine lv_iload_n hx hb dX5_row_35 rfl (lv_at hl 1 rfl) ?_
            refine gi_i hf (fun hi7 hj8 hf => ?_)
            refine c_aldS C hP hi7 dX5_row_36 ?_
            refine lv_iload_n hx hb dX5_row_37 rfl (lv_at hl 2 rfl) ?_
            refine lv_iload_n hx hb dX5_row_38 rfl (lv_at hl 3 rfl) ?_
            refine bv_i hf (fun S9 hq9 hf => ?_)
            refine goV (runV (rest := []) (mX4_holdRow l Γ (by omega) hq9) C hP hl.1 (by have := (show 53 ≤ 53 + (x1).toNatClampNeg ∧ 53 + (x1).toNatClampNeg ≤ 60 by omega); omega) (cE4 (by omega)) rfl k3_131 qX4_holdRow.1 qX4_holdRow.2.1 qX4_holdRow.2.2.1 qX4_holdRow.2.2.2.1 rfl qX4_holdRow.2.2.2.2 ⟨Nat.le_of_ble_eq_true rfl, Nat.le_of_ble_eq_true rfl⟩ ⟨Nat.le_refl 0, Nat.le_refl 0⟩ (Nat.le_of_ble_eq_true rfl) dX5_row_39) hP (fun H locs hP => ?_)
            refine lv_iconst (v := nI 0) hx hb dX5_row_42 rfl ?_
            exact r_iret (X := cE Γ) C hP hf dX5_row_43
          · have hf := if_f hc6 hf
            refine lv_bipush (v := (-14)) hx hb dX5_row_28 rfl ?_
            exact r_iret (X := cE Γ) C hP hf dX5_row_30
        · have hf := if_f hc5 hf
          refine lv_iconst (v := (-1)) hx hb dX5_row_22 rfl ?_
          exact r_iret (X := cE Γ) C hP hf dX5_row_23
-- X5_put
theorem qX5_put : Cond.instanceMethod yX5_put ∈ Ub ∧ Cond.selects RX5 yX5_put yX5_put ∈ Ub ∧ Cond.initialized RX5 ∈ Ub ∧ Cond.code yX5_put cX5_put 5 (some FieldType.int) ∈ Ub ∧ (yX5_put.cls = RX5 ∧ yX5_put.cls ≠ "java/lang/invoke/MethodHandle" ∧ yX5_put.cls ≠ "java/lang/invoke/VarHandle" ∧ (parseMethodDescriptor yX5_put.desc).map (fun d => d.parameters.length) = some 3) := ⟨k3_136, k3_137, k1_1, k3_138, by decide +kernel⟩
def fX5_put  (S : cM) (x1 : Int32) (x2 : Int32) (x3 : Int32) : Option (Int32 × cM) :=
  bd (fX5_rowRefusal S x1) fun v1 S1 => ( if v1 = 0 then gi x1 8 (bd (fX4_hasElement (53 + (x1).toNatClampNeg) S1 x2) fun v5 S5 => ( if v5 = 0 then some ((-13), S5) else gi x1 8 (gi x1 8 (bd (fX4_lowestBits (53 + (x1).toNatClampNeg) S5 x3) fun v11 S11 => ( gi x2 100 (sv (cS S11 ((53 + (x1).toNatClampNeg) + 8) ((x2).toNatClampNeg) v11) fun S14 => ( some (nI 0, S14)))))))) else some (v1, S1))
set_option maxHeartbeats 4000000 in
set_option maxRecDepth 100000 in
theorem mX5_put (l : Launch) (Γ : gG)   {S : cM} {x1 : Int32} {x2 : Int32} {x3 : Int32} {rz : Int32} {Sz : cM} (hf : fX5_put S x1 x2 x3 = some (rz, Sz)) : CtI l Γ 74 yX5_put cX5_put 5 .int 3 63 [.ref (Γ.2.2 (0)), .int x1, .int x2, .int x3] (cE Γ S) rz (cE Γ Sz) := by
  refine met_body (Γ := Γ) (lv := [(0, .ref (Γ.2.2 (0))), (1, .int x1), (2, .int x2), (3, .int x3)]) RX5 (by decide) rfl rfl rfl ?_
  intro p e s m below meth c H locs ls C hP hl
  obtain ⟨hx, hb, -, -, hown, hts, -, hwx, -⟩ := id C
  unfold fX5_put at hf
  refine lv_aload_n hx hb dX5_put_0 rfl (lv_at hl 0 rfl) ?_
  refine lv_iload_n hx hb dX5_put_1 rfl (lv_at hl 1 rfl) ?_
  refine bd_i hf (fun v1 S1 hq1 hf => ?_)
  refine goI (runV (rest := []) (b := 0) (mX5_rowRefusal l Γ  hq1) C hP hl.1 (by decide) cE0 rfl k1_166 qX5_rowRefusal.1 qX5_rowRefusal.2.1 qX5_rowRefusal.2.2.1 qX5_rowRefusal.2.2.2.1 rfl qX5_rowRefusal.2.2.2.2 ⟨Nat.le_of_ble_eq_true rfl, Nat.le_of_ble_eq_true rfl⟩ ⟨Nat.le_refl 0, Nat.le_refl 0⟩ (Nat.le_of_ble_eq_true rfl) dX5_put_2) hP (fun H locs hP => ?_)
  refine lv_istore (lv' := [(4, .int v1), (0, .ref (Γ.2.2 (0))), (1, .int x1), (2, .int x2), (3, .int x3)]) hx hb dX5_put_5 hl (by decide) rfl (fun ls hl => ?_)
  refine lv_iload hx hb dX5_put_7 (lv_at hl 0 rfl) ?_
  refine lv_if_eq (tgt := 15) hx hb dX5_put_9 (by decide) (fun hc2 => ?_) (fun hc2 => ?_)
  · have hf := if_t hc2 hf
    refine lv_aload_n hx hb dX5_put_15 rfl (lv_at hl 1 rfl) ?_
    refine c0_get C hP 4 (by decide) k1_131 rfl (v := .ref (Γ.2.2 (52))) rfl dX5_put_16 ?_
    refine lv_iload_n hx hb dX5_put_19 rfl (lv_at hl 2 rfl) ?_
    refine gi_i hf (fun hi3 hj4 hf => ?_)
    refine c_aldS C hP hi3 dX5_put_20 ?_
    refine lv_iload_n hx hb dX5_put_21 rfl (lv_at hl 3 rfl) ?_
    refine bd_i hf (fun v5 S5 hq5 hf => ?_)
    refine goI (runV (rest := []) (mX4_hasElement l Γ (by omega) hq5) C hP hl.1 (by have := (show 53 ≤ 53 + (x1).toNatClampNeg ∧ 53 + (x1).toNatClampNeg ≤ 60 by omega); omega) (cE4 (by omega)) rfl k3_139 qX4_hasElement.1 qX4_hasElement.2.1 qX4_hasElement.2.2.1 qX4_hasElement.2.2.2.1 rfl qX4_hasElement.2.2.2.2 ⟨Nat.le_of_ble_eq_true rfl, Nat.le_of_ble_eq_true rfl⟩ ⟨Nat.le_refl 0, Nat.le_refl 0⟩ (Nat.le_of_ble_eq_true rfl) dX5_put_22) hP (fun H locs hP => ?_)
    refine lv_if_ne (tgt := 31) hx hb dX5_put_25 (by decide) (fun hc6 => ?_) (fun hc6 => ?_)
    · have hf := if_f hc6 hf
      refine lv_aload_n hx hb dX5_put_31 rfl (lv_at hl 1 rfl) ?_
      refine c0_get C hP 4 (by decide) k1_131 rfl (v := .ref (Γ.2.2 (52))) rfl dX5_put_32 ?_
      refine lv_iload_n hx hb dX5_put_35 rfl (lv_at hl 2 rfl) ?_
      refine gi_i hf (fun hi7 hj8 hf => ?_)
      refine c_aldS C hP hi7 dX5_put_36 ?_
      refine c4_get C hP (by omega) 6 (by decide) k1_111 rfl (v := .ref (Γ.2.2 ((53 + (x1).toNatClampNeg) + 8))) rfl dX5_put_37 ?_
      refine lv_iload_n hx hb dX5_put_40 rfl (lv_at hl 3 rfl) ?_
      refine lv_aload_n hx hb dX5_put_41 rfl (lv_at hl 1 rfl) ?_
      refine c0_get C hP 4 (by decide) k1_131 rfl (v := .ref (Γ.2.2 (52))) rfl dX5_put_42 ?_
      refine lv_iload_n hx hb dX5_put_45 rfl (lv_at hl 2 rfl) ?_
      refine gi_i hf (fun hi9 hj10 hf => ?_)
      refine c_aldS C hP hi9 dX5_put_46 ?_
      refine lv_iload_n hx hb dX5_put_47 rfl (lv_at hl 4 rfl) ?_
      refine bd_i hf (fun v11 S11 hq11 hf => ?_)
      refine goI (runV (rest := [.int x2, .ref (Γ.2.2 ((53 + (x1).toNatClampNeg) + 8))]) (mX4_lowestBits l Γ (by omega) hq11) C hP hl.1 (by have := (show 53 ≤ 53 + (x1).toNatClampNeg ∧ 53 + (x1).toNatClampNeg ≤ 60 by omega); omega) (cE4 (by omega)) rfl k3_140 qX4_lowestBits.1 qX4_lowestBits.2.1 qX4_lowestBits.2.2.1 qX4_lowestBits.2.2.2.1 rfl qX4_lowestBits.2.2.2.2 ⟨Nat.le_of_ble_eq_true rfl, Nat.le_of_ble_eq_true rfl⟩ ⟨Nat.le_refl 0, Nat.le_refl 0⟩ (Nat.le_of_ble_eq_true rfl) dX5_put_48) hP (fun H locs hP => ?_)
      refine gi_i hf (fun hi12 hj13 hf => ?_)
      refine c_ist C hP (cA_va (by omega)) hi12 dX5_put_51 (fun H locs hP => ?_)
      refine sv_i hf (fun S14 e14 hf => ?_)
      rw [← e14] at hP
      refine lv_iconst (v := nI 0) hx hb dX5_put_52 rfl ?_
      exact r_iret (X := cE Γ) C hP hf dX5_put_53
    · have hf := if_t hc6 hf
      refine lv_bipush (v := (-13)) hx hb dX5_put_28 rfl ?_
      exact r_iret (X := cE Γ) C hP hf dX5_put_30
  · have hf := if_f hc2 hf
    refine lv_iload hx hb dX5_put_12 (lv_at hl 0 rfl) ?_
    exact r_iret (X := cE Γ) C hP hf dX5_put_14
-- X5_copy
theorem qX5_copy : Cond.instanceMethod yX5_copy ∈ Ub ∧ Cond.selects RX5 yX5_copy yX5_copy ∈ Ub ∧ Cond.initialized RX5 ∈ Ub ∧ Cond.code yX5_copy cX5_copy 8 (some FieldType.int) ∈ Ub ∧ (yX5_copy.cls = RX5 ∧ yX5_copy.cls ≠ "java/lang/invoke/MethodHandle" ∧ yX5_copy.cls ≠ "java/lang/invoke/VarHandle" ∧ (parseMethodDescriptor yX5_copy.desc).map (fun d => d.parameters.length) = some 5) := ⟨k3_145, k3_146, k1_1, k3_147, by decide +kernel⟩
def fX5_copy  (S : cM) (x1 : Int32) (x2 : Int32) (x3 : Int32) (x4 : Int32) (x5 : Int32) : Option (Int32 × cM) :=
  bd (fX5_isShelf S x1) fun v1 S1 => ( if v1 = 0 then some ((-1), S1) else bd (fX5_isShelf S1 x3) fun v3 S3 => ( if v3 = 0 then some ((-1), S3) else gi x1 8 (gi x3 8 (if (S3.1 (53 + (x1).toNatClampNeg) 0) = 0 then some ((-11), S3) else if (S3.1 (53 + (x3).toNatClampNeg) 0) = 0 then some ((-11), S3) else if (S3.1 (53 + (x1).toNatClampNeg) 0) = (nI 2) then if (S3.1 (53 + (x3).toNatClampNeg) 0) = (nI 2) then if (S3.1 (53 + (x1).toNatClampNeg) 4) = (S3.1 (53 + (x3).toNatClampNeg) 4) then bd (fX4_hasElements (53 + (x1).toNatClampNeg) S3 x2 x5) fun v14 S14 => ( if v14 = 0 then some ((-13), S14) else bd (fX4_hasElements (53 + (x3).toNatClampNeg) S14 x4 x5) fun v16 S16 => ( if v16 = 0 then some ((-13), S16) else gc x2 x4 x5 100 100 (sv (cW S16 ((53 + (x3).toNatClampNeg) + 8) (va_cpy (S16.1 ((53 + (x1).toNatClampNeg) + 8)) (S16.1 ((53 + (x3).toNatClampNeg) + 8)) (x2).toNatClampNeg (x4).toNatClampNeg (x5).toNatClampNeg)) fun S19 => ( some (x5, S19))))) else some ((-12), S3) else some ((-12), S3) else some ((-12), S3)))))
set_option maxHeartbeats 4000000 in
set_option maxRecDepth 100000 in
theorem mX5_copy (l : Launch) (Γ : gG)   {S : cM} {x1 : Int32} {x2 : Int32} {x3 : Int32} {x4 : Int32} {x5 : Int32} {rz : Int32} {Sz : cM} (hf : fX5_copy S x1 x2 x3 x4 x5 = some (rz, Sz)) : CtI l Γ 74 yX5_copy cX5_copy 8 .int 1 26 [.ref (Γ.2.2 (0)), .int x1, .int x2, .int x3, .int x4, .int x5] (cE Γ S) rz (cE Γ Sz) := by
  refine met_body (Γ := Γ) (lv := [(0, .ref (Γ.2.2 (0))), (1, .int x1), (2, .int x2), (3, .int x3), (4, .int x4), (5, .int x5)]) RX5 (by decide) rfl rfl rfl ?_
  intro p e s m below meth c H locs ls C hP hl
  obtain ⟨hx, hb, -, -, hown, hts, -, hwx, -⟩ := id C
  unfold fX5_copy at hf
  refine lv_iload_n hx hb dX5_copy_0 rfl (lv_at hl 1 rfl) ?_
  refine bd_i hf (fun v1 S1 hq1 hf => ?_)
  refine goI (runS (rest := []) (mX5_isShelf l Γ  hq1) C hP hl.1 k1_174 qX5_isShelf.1 qX5_isShelf.2.1 qX5_isShelf.2.2.1 rfl qX5_isShelf.2.2.2 ⟨Nat.le_of_ble_eq_true rfl, Nat.le_of_ble_eq_true rfl⟩ ⟨Nat.le_refl 0, Nat.le_refl 0⟩ (Nat.le_of_ble_eq_true rfl) dX5_copy_1) hP (fun H locs hP => ?_)
  refine lv_if_eq (tgt := 14) hx hb dX5_copy_4 (by decide) (fun hc2 => ?_) (fun hc2 => ?_)
  · have hf := if_t hc2 hf
    refine lv_iconst (v := (-1)) hx hb dX5_copy_14 rfl ?_
    exact r_iret (X := cE Γ) C hP hf dX5_copy_15
  · have hf := if_f hc2 hf
    refine lv_iload_n hx hb dX5_copy_7 rfl (lv_at hl 3 rfl) ?_
    refine bd_i hf (fun v3 S3 hq3 hf => ?_)
    refine goI (runS (rest := []) (mX5_isShelf l Γ  hq3) C hP hl.1 k1_174 qX5_isShelf.1 qX5_isShelf.2.1 qX5_isShelf.2.2.1 rfl qX5_isShelf.2.2.2 ⟨Nat.le_of_ble_eq_true rfl, Nat.le_of_ble_eq_true rfl⟩ ⟨Nat.le_refl 0, Nat.le_refl 0⟩ (Nat.le_of_ble_eq_true rfl) dX5_copy_8) hP (fun H locs hP => ?_)
    refine lv_if_ne (tgt := 16) hx hb dX5_copy_11 (by decide) (fun hc4 => ?_) (fun hc4 => ?_)
    · have hf := if_f hc4 hf
      refine lv_aload_n hx hb dX5_copy_16 rfl (lv_at hl 0 rfl) ?_
      refine c0_get C hP 4 (by decide) k1_131 rfl (v := .ref (Γ.2.2 (52))) rfl dX5_copy_17 ?_
      refine lv_iload_n hx hb dX5_copy_20 rfl (lv_at hl 1 rfl) ?_
      refine gi_i hf (fun hi5 hj6 hf => ?_)
      refine c_aldS C hP hi5 dX5_copy_21 ?_
      refine lv_astore (lv' := [(6, .ref (Γ.2.2 (53 + (x1).toNatClampNeg))), (0, .ref (Γ.2.2 (0))), (1, .int x1), (2, .int x2), (3, .int x3), (4, .int x4), (5, .int x5)]) hx hb dX5_copy_22 hl (by decide) rfl (fun ls hl => ?_)
      refine lv_aload_n hx hb dX5_copy_24 rfl (lv_at hl 1 rfl) ?_
      refine c0_get C hP 4 (by decide) k1_131 rfl (v := .ref (Γ.2.2 (52))) rfl dX5_copy_25 ?_
      refine lv_iload_n hx hb dX5_copy_28 rfl (lv_at hl 4 rfl) ?_
      refine gi_i hf (fun hi7 hj8 hf => ?_)
      refine c_aldS C hP hi7 dX5_copy_29 ?_
      refine lv_astore (lv' := [(7, .ref (Γ.2.2 (53 + (x3).toNatClampNeg))), (6, .ref (Γ.2.2 (53 + (x1).toNatClampNeg))), (0, .ref (Γ.2.2 (0))), (1, .int x1), (2, .int x2), (3, .int x3), (4, .int x4), (5, .int x5)]) hx hb dX5_copy_30 hl (by decide) rfl (fun ls hl => ?_)
      refine lv_aload hx hb dX5_copy_32 (lv_at hl 1 rfl) ?_
      refine c4_get C hP (by omega) 0 (by decide) k1_97 rfl (v := .int (S3.1 (53 + (x1).toNatClampNeg) 0)) rfl dX5_copy_34 ?_
      refine lv_if_eq (tgt := 48) hx hb dX5_copy_37 (by decide) (fun hc9 => ?_) (fun hc9 => ?_)
      · have hf := if_t hc9 hf
        refine lv_bipush (v := (-11)) hx hb dX5_copy_48 rfl ?_
        exact r_iret (X := cE Γ) C hP hf dX5_copy_50
      · have hf := if_f hc9 hf
        refine lv_aload hx hb dX5_copy_40 (lv_at hl 0 rfl) ?_
        refine c4_get C hP (by omega) 0 (by decide) k1_97 rfl (v := .int (S3.1 (53 + (x3).toNatClampNeg) 0)) rfl dX5_copy_42 ?_
        refine lv_if_ne (tgt := 51) hx hb dX5_copy_45 (by decide) (fun hc10 => ?_) (fun hc10 => ?_)
        · have hf := if_f hc10 hf
          refine lv_aload hx hb dX5_copy_51 (lv_at hl 1 rfl) ?_
          refine c4_get C hP (by omega) 0 (by decide) k1_97 rfl (v := .int (S3.1 (53 + (x1).toNatClampNeg) 0)) rfl dX5_copy_53 ?_
          refine lv_iconst (v := nI 2) hx hb dX5_copy_56 rfl ?_
          refine lv_icmp_ne (tgt := 82) hx hb dX5_copy_57 (by decide) (fun hc11 => ?_) (fun hc11 => ?_)
          · have hf := if_f hc11 hf
            refine lv_bipush (v := (-12)) hx hb dX5_copy_82 rfl ?_
            exact r_iret (X := cE Γ) C hP hf dX5_copy_84
          · have hf := if_t hc11 hf
            refine lv_aload hx hb dX5_copy_60 (lv_at hl 0 rfl) ?_
            refine c4_get C hP (by omega) 0 (by decide) k1_97 rfl (v := .int (S3.1 (53 + (x3).toNatClampNeg) 0)) rfl dX5_copy_62 ?_
            refine lv_iconst (v := nI 2) hx hb dX5_copy_65 rfl ?_
            refine lv_icmp_ne (tgt := 82) hx hb dX5_copy_66 (by decide) (fun hc12 => ?_) (fun hc12 => ?_)
            · have hf := if_f hc12 hf
              refine lv_bipush (v := (-12)) hx hb dX5_copy_82 rfl ?_
              exact r_iret (X := cE Γ) C hP hf dX5_copy_84
            · have hf := if_t hc12 hf
              refine lv_aload hx hb dX5_copy_69 (lv_at hl 1 rfl) ?_
              refine c4_get C hP (by omega) 4 (by decide) k1_105 rfl (v := .int (S3.1 (53 + (x1).toNatClampNeg) 4)) rfl dX5_copy_71 ?_
              refine lv_aload hx hb dX5_copy_74 (lv_at hl 0 rfl) ?_
              refine c4_get C hP (by omega) 4 (by decide) k1_105 rfl (v := .int (S3.1 (53 + (x3).toNatClampNeg) 4)) rfl dX5_copy_76 ?_
              refine lv_icmp_eq (tgt := 85) hx hb dX5_copy_79 (by decide) (fun hc13 => ?_) (fun hc13 => ?_)
              · have hf := if_t hc13 hf
                refine lv_aload hx hb dX5_copy_85 (lv_at hl 1 rfl) ?_
                refine lv_iload_n hx hb dX5_copy_87 rfl (lv_at hl 4 rfl) ?_
                refine lv_iload hx hb dX5_copy_88 (lv_at hl 7 rfl) ?_
                refine bd_i hf (fun v14 S14 hq14 hf => ?_)
                refine goI (runV (rest := []) (mX4_hasElements l Γ (by omega) hq14) C hP hl.1 (by have := (show 53 ≤ 53 + (x1).toNatClampNeg ∧ 53 + (x1).toNatClampNeg ≤ 60 by omega); omega) (cE4 (by omega)) rfl k3_148 qX4_hasElements.1 qX4_hasElements.2.1 qX4_hasElements.2.2.1 qX4_hasElements.2.2.2.1 rfl qX4_hasElements.2.2.2.2 ⟨Nat.le_of_ble_eq_true rfl, Nat.le_of_ble_eq_true rfl⟩ ⟨Nat.le_refl 0, Nat.le_refl 0⟩ (Nat.le_of_ble_eq_true rfl) dX5_copy_90) hP (fun H locs hP => ?_)
                refine lv_if_eq (tgt := 108) hx hb dX5_copy_93 (by decide) (fun hc15 => ?_) (fun hc15 => ?_)
                · have hf := if_t hc15 hf
                  refine lv_bipush (v := (-13)) hx hb dX5_copy_108 rfl ?_
                  exact r_iret (X := cE Γ) C hP hf dX5_copy_110
                · have hf := if_f hc15 hf
                  refine lv_aload hx hb dX5_copy_96 (lv_at hl 0 rfl) ?_
                  refine lv_iload hx hb dX5_copy_98 (lv_at hl 6 rfl) ?_
                  refine lv_iload hx hb dX5_copy_100 (lv_at hl 7 rfl) ?_
                  refine bd_i hf (fun v16 S16 hq16 hf => ?_)
                  refine goI (runV (rest := []) (mX4_hasElements l Γ (by omega) hq16) C hP hl.1 (by have := (show 53 ≤ 53 + (x3).toNatClampNeg ∧ 53 + (x3).toNatClampNeg ≤ 60 by omega); omega) (cE4 (by omega)) rfl k3_148 qX4_hasElements.1 qX4_hasElements.2.1 qX4_hasElements.2.2.1 qX4_hasElements.2.2.2.1 rfl qX4_hasElements.2.2.2.2 ⟨Nat.le_of_ble_eq_true rfl, Nat.le_of_ble_eq_true rfl⟩ ⟨Nat.le_refl 0, Nat.le_refl 0⟩ (Nat.le_of_ble_eq_true rfl) dX5_copy_102) hP (fun H locs hP => ?_)
                  refine lv_if_ne (tgt := 111) hx hb dX5_copy_105 (by decide) (fun hc17 => ?_) (fun hc17 => ?_)
                  · have hf := if_f hc17 hf
                    refine lv_aload hx hb dX5_copy_111 (lv_at hl 1 rfl) ?_
                    refine c4_get C hP (by omega) 6 (by decide) k1_111 rfl (v := .ref (Γ.2.2 ((53 + (x1).toNatClampNeg) + 8))) rfl dX5_copy_113 ?_
                    refine lv_iload_n hx hb dX5_copy_116 rfl (lv_at hl 4 rfl) ?_
                    refine lv_aload hx hb dX5_copy_117 (lv_at hl 0 rfl) ?_
                    refine c4_get C hP (by omega) 6 (by decide) k1_111 rfl (v := .ref (Γ.2.2 ((53 + (x3).toNatClampNeg) + 8))) rfl dX5_copy_119 ?_
                    refine lv_iload hx hb dX5_copy_122 (lv_at hl 6 rfl) ?_
                    refine lv_iload hx hb dX5_copy_124 (lv_at hl 7 rfl) ?_
                    refine gc_i hf (fun hc18 hf => ?_)
                    refine c_copy C hP hl.1 k3_152 k1_199 k1_198 k1_7 (cA_va (by omega)) (cA_va (by omega)) hc18 (Nat.le_of_ble_eq_true rfl) (Nat.le_of_ble_eq_true rfl) dX5_copy_126 (fun H locs hP => ?_)
                    refine sv_i hf (fun S19 e19 hf => ?_)
                    rw [← e19] at hP
                    refine lv_iload hx hb dX5_copy_129 (lv_at hl 7 rfl) ?_
                    exact r_iret (X := cE Γ) C hP hf dX5_copy_131
                  · have hf := if_t hc17 hf
                    refine lv_bipush (v := (-13)) hx hb dX5_copy_108 rfl ?_
                    exact r_iret (X := cE Γ) C hP hf dX5_copy_110
              · have hf := if_f hc13 hf
                refine lv_bipush (v := (-12)) hx hb dX5_copy_82 rfl ?_
                exact r_iret (X := cE Γ) C hP hf dX5_copy_84
        · have hf := if_t hc10 hf
          refine lv_bipush (v := (-11)) hx hb dX5_copy_48 rfl ?_
          exact r_iret (X := cE Γ) C hP hf dX5_copy_50
    · have hf := if_t hc4 hf
      refine lv_iconst (v := (-1)) hx hb dX5_copy_14 rfl ?_
      exact r_iret (X := cE Γ) C hP hf dX5_copy_15
-- X5_keptLaneRefusal
theorem qX5_keptLaneRefusal : Cond.instanceMethod yX5_keptLaneRefusal ∈ Ub ∧ Cond.selects RX5 yX5_keptLaneRefusal yX5_keptLaneRefusal ∈ Ub ∧ Cond.initialized RX5 ∈ Ub ∧ Cond.code yX5_keptLaneRefusal cX5_keptLaneRefusal 2 (some FieldType.int) ∈ Ub ∧ (yX5_keptLaneRefusal.cls = RX5 ∧ yX5_keptLaneRefusal.cls ≠ "java/lang/invoke/MethodHandle" ∧ yX5_keptLaneRefusal.cls ≠ "java/lang/invoke/VarHandle" ∧ (parseMethodDescriptor yX5_keptLaneRefusal.desc).map (fun d => d.parameters.length) = some 1) := ⟨k3_159, ks_21, k1_1, k3_160, by decide +kernel⟩
def fX5_keptLaneRefusal  (S : cM) (x1 : Int32) : Option (Int32 × cM) :=
  bd (fX5_shelfRefusal S x1 (nI 1)) fun v1 S1 => ( some (v1, S1))
set_option maxHeartbeats 4000000 in
set_option maxRecDepth 100000 in
theorem mX5_keptLaneRefusal (l : Launch) (Γ : gG)   {S : cM} {x1 : Int32} {rz : Int32} {Sz : cM} (hf : fX5_keptLaneRefusal S x1 = some (rz, Sz)) : CtI l Γ 74 yX5_keptLaneRefusal cX5_keptLaneRefusal 2 .int 2 42 [.ref (Γ.2.2 (0)), .int x1] (cE Γ S) rz (cE Γ Sz) := by
  refine met_body (Γ := Γ) (lv := [(0, .ref (Γ.2.2 (0))), (1, .int x1)]) RX5 (by decide) rfl rfl rfl ?_
  intro p e s m below meth c H locs ls C hP hl
  obtain ⟨hx, hb, -, -, hown, hts, -, hwx, -⟩ := id C
  unfold fX5_keptLaneRefusal at hf
  refine lv_aload_n hx hb dX5_keptLaneRefusal_0 rfl (lv_at hl 0 rfl) ?_
  refine lv_iload_n hx hb dX5_keptLaneRefusal_1 rfl (lv_at hl 1 rfl) ?_
  refine lv_iconst (v := nI 1) hx hb dX5_keptLaneRefusal_2 rfl ?_
  refine bd_i hf (fun v1 S1 hq1 hf => ?_)
  refine goI (runV (rest := []) (b := 0) (mX5_shelfRefusal l Γ  hq1) C hP hl.1 (by decide) cE0 rfl k1_170 qX5_shelfRefusal.1 qX5_shelfRefusal.2.1 qX5_shelfRefusal.2.2.1 qX5_shelfRefusal.2.2.2.1 rfl qX5_shelfRefusal.2.2.2.2 ⟨Nat.le_of_ble_eq_true rfl, Nat.le_of_ble_eq_true rfl⟩ ⟨Nat.le_refl 0, Nat.le_refl 0⟩ (Nat.le_of_ble_eq_true rfl) dX5_keptLaneRefusal_3) hP (fun H locs hP => ?_)
  exact r_iret (X := cE Γ) C hP hf dX5_keptLaneRefusal_6
-- X5_toll
theorem qX5_toll : Cond.instanceMethod yX5_toll ∈ Ub ∧ Cond.selects RX5 yX5_toll yX5_toll ∈ Ub ∧ Cond.initialized RX5 ∈ Ub ∧ Cond.code yX5_toll cX5_toll 3 (some FieldType.int) ∈ Ub ∧ (yX5_toll.cls = RX5 ∧ yX5_toll.cls ≠ "java/lang/invoke/MethodHandle" ∧ yX5_toll.cls ≠ "java/lang/invoke/VarHandle" ∧ (parseMethodDescriptor yX5_toll.desc).map (fun d => d.parameters.length) = some 1) := ⟨k3_154, k3_155, k1_1, k3_156, by decide +kernel⟩
def fX5_toll  (S : cM) (x1 : Int32) : Option (Int32 × cM) :=
  bd (fX5_keptLaneRefusal S x1) fun v1 S1 => ( if v1 = 0 then gi x1 8 (gi x1 8 (bd (fX2_toPay S1 (S1.1 (53 + (x1).toNatClampNeg) 2) (S1.1 (53 + (x1).toNatClampNeg) 3)) fun v7 S7 => ( some (v7, S7)))) else some (v1, S1))
set_option maxHeartbeats 4000000 in
set_option maxRecDepth 100000 in
theorem mX5_toll (l : Launch) (Γ : gG)   {S : cM} {x1 : Int32} {rz : Int32} {Sz : cM} (hf : fX5_toll S x1 = some (rz, Sz)) : CtI l Γ 74 yX5_toll cX5_toll 3 .int 3 63 [.ref (Γ.2.2 (0)), .int x1] (cE Γ S) rz (cE Γ Sz) := by
  refine met_body (Γ := Γ) (lv := [(0, .ref (Γ.2.2 (0))), (1, .int x1)]) RX5 (by decide) rfl rfl rfl ?_
  intro p e s m below meth c H locs ls C hP hl
  obtain ⟨hx, hb, -, -, hown, hts, -, hwx, -⟩ := id C
  unfold fX5_toll at hf
  refine lv_aload_n hx hb dX5_toll_0 rfl (lv_at hl 0 rfl) ?_
  refine lv_iload_n hx hb dX5_toll_1 rfl (lv_at hl 1 rfl) ?_
  refine bd_i hf (fun v1 S1 hq1 hf => ?_)
  refine goI (runV (rest := []) (b := 0) (mX5_keptLaneRefusal l Γ  hq1) C hP hl.1 (by decide) cE0 rfl k3_157 qX5_keptLaneRefusal.1 qX5_keptLaneRefusal.2.1 qX5_keptLaneRefusal.2.2.1 qX5_keptLaneRefusal.2.2.2.1 rfl qX5_keptLaneRefusal.2.2.2.2 ⟨Nat.le_of_ble_eq_true rfl, Nat.le_of_ble_eq_true rfl⟩ ⟨Nat.le_refl 0, Nat.le_refl 0⟩ (Nat.le_of_ble_eq_true rfl) dX5_toll_2) hP (fun H locs hP => ?_)
  refine lv_istore_n (lv' := [(2, .int v1), (0, .ref (Γ.2.2 (0))), (1, .int x1)]) hx hb dX5_toll_5 rfl hl (by decide) rfl (fun ls hl => ?_)
  refine lv_iload_n hx hb dX5_toll_6 rfl (lv_at hl 0 rfl) ?_
  refine lv_if_eq (tgt := 14) hx hb dX5_toll_7 (by decide) (fun hc2 => ?_) (fun hc2 => ?_)
  · have hf := if_t hc2 hf
    refine lv_aload_n hx hb dX5_toll_14 rfl (lv_at hl 1 rfl) ?_
    refine c0_get C hP 4 (by decide) k1_131 rfl (v := .ref (Γ.2.2 (52))) rfl dX5_toll_15 ?_
    refine lv_iload_n hx hb dX5_toll_18 rfl (lv_at hl 2 rfl) ?_
    refine gi_i hf (fun hi3 hj4 hf => ?_)
    refine c_aldS C hP hi3 dX5_toll_19 ?_
    refine c4_get C hP (by omega) 2 (by decide) k1_101 rfl (v := .int (S1.1 (53 + (x1).toNatClampNeg) 2)) rfl dX5_toll_20 ?_
    refine lv_aload_n hx hb dX5_toll_23 rfl (lv_at hl 1 rfl) ?_
    refine c0_get C hP 4 (by decide) k1_131 rfl (v := .ref (Γ.2.2 (52))) rfl dX5_toll_24 ?_
    refine lv_iload_n hx hb dX5_toll_27 rfl (lv_at hl 2 rfl) ?_
    refine gi_i hf (fun hi5 hj6 hf => ?_)
    refine c_aldS C hP hi5 dX5_toll_28 ?_
    refine c4_get C hP (by omega) 3 (by decide) k1_103 rfl (v := .int (S1.1 (53 + (x1).toNatClampNeg) 3)) rfl dX5_toll_29 ?_
    refine bd_i hf (fun v7 S7 hq7 hf => ?_)
    refine goI (runS (rest := []) (mX2_toPay l Γ  hq7) C hP hl.1 k3_161 qX2_toPay.1 qX2_toPay.2.1 qX2_toPay.2.2.1 rfl qX2_toPay.2.2.2 ⟨Nat.le_of_ble_eq_true rfl, Nat.le_of_ble_eq_true rfl⟩ ⟨Nat.le_refl 0, Nat.le_refl 0⟩ (Nat.le_of_ble_eq_true rfl) dX5_toll_32) hP (fun H locs hP => ?_)
    exact r_iret (X := cE Γ) C hP hf dX5_toll_35
  · have hf := if_f hc2 hf
    refine lv_iload_n hx hb dX5_toll_10 rfl (lv_at hl 0 rfl) ?_
    refine lv_goto (tgt := 35) hx hb dX5_toll_11 (by decide) ?_
    exact r_iret (X := cE Γ) C hP hf dX5_toll_35
