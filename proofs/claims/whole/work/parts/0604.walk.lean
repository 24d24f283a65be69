-- X5_comers
theorem qX5_comers : Cond.instanceMethod yX5_comers ∈ Ub ∧ Cond.selects RX5 yX5_comers yX5_comers ∈ Ub ∧ Cond.initialized RX5 ∈ Ub ∧ Cond.code yX5_comers cX5_comers 11 (some FieldType.int) ∈ Ub ∧ (yX5_comers.cls = RX5 ∧ yX5_comers.cls ≠ "java/lang/invoke/MethodHandle" ∧ yX5_comers.cls ≠ "java/lang/invoke/VarHandle" ∧ (parseMethodDescriptor yX5_comers.desc).map (fun d => d.parameters.length) = some 4) := ⟨k3_4, k3_5, k1_1, k3_6, by decide +kernel⟩
def fX5_comers_171  (K75 : cM → Int32 → Int32 → Int32 → Nat → Int32 → Int32 → Int32 → Option (Int32 × cM)) (S : cM) (x2 : Int32) (x3 : Int32) (x4 : Int32) (ux6 : Nat) (x7 : Int32) (x8 : Int32) (x9 : Int32) : Option (Int32 × cM) :=
  K75 S x2 x3 x4 ux6 x7 x8 (x9 + (nI 1))
set_option maxHeartbeats 4000000 in
set_option maxRecDepth 100000 in
theorem wX5_comers_171 {p : Program} {l : Launch} {e : Env} {s : State} {m : MethodId} {args : Array Value} {below : List Frame} {meth : Method} {c : Code} {Γ : gG} {rz : Int32} {Sz : cM} (C : Cx Γ 74 p s m args meth c RX5 cX5_comers 11 (some .int))  {K75 : cM → Int32 → Int32 → Int32 → Nat → Int32 → Int32 → Int32 → Option (Int32 × cM)} (hK75 : ∀ (S : cM) (x2 : Int32) (x3 : Int32) (x4 : Int32) (ux6 : Nat) (x7 : Int32) (x8 : Int32) (x9 : Int32) (hux6 : 53 ≤ ux6 ∧ ux6 ≤ 60), K75 S x2 x3 x4 ux6 x7 x8 x9 = some (rz, Sz) → ∀ (H : Heap) (locs : List Loc) (ls : Array Slot), St Γ 74 (cE Γ S) s.heap H locs → lv_has ls 11 [(0, .ref (Γ.2.2 (0))), (2, .int x2), (3, .int x3), (4, .int x4), (6, .ref (Γ.2.2 (ux6))), (7, .int x7), (8, .int x8), (9, .int x9)] → W p l e { frames := 6, cells := 0, slots := 0, locals := 135 } s m args below meth c H locs 0 0 (MQ below (gQi Γ 74 rz (cE Γ Sz)) args s 0 0 (wA Γ 74)) (F0 m 75 ls [])) : ∀ (S : cM) (x2 : Int32) (x3 : Int32) (x4 : Int32) (ux6 : Nat) (x7 : Int32) (x8 : Int32) (x9 : Int32) (hux6 : 53 ≤ ux6 ∧ ux6 ≤ 60), fX5_comers_171  K75 S x2 x3 x4 ux6 x7 x8 x9 = some (rz, Sz) → ∀ (H : Heap) (locs : List Loc) (ls : Array Slot), St Γ 74 (cE Γ S) s.heap H locs → lv_has ls 11 [(0, .ref (Γ.2.2 (0))), (2, .int x2), (3, .int x3), (4, .int x4), (6, .ref (Γ.2.2 (ux6))), (7, .int x7), (8, .int x8), (9, .int x9)] → W p l e { frames := 6, cells := 0, slots := 0, locals := 135 } s m args below meth c H locs 0 0 (MQ below (gQi Γ 74 rz (cE Γ Sz)) args s 0 0 (wA Γ 74)) (F0 m 171 ls []) := by
  obtain ⟨hx, hb, -, -, hown, hts, -, hwx, -⟩ := id C
  intro S x2 x3 x4 ux6 x7 x8 x9 hux6 hf H locs ls hP hl
  unfold fX5_comers_171 at hf
  refine lv_iinc (v := x9 + (nI 1)) (lv' := [(9, .int (x9 + (nI 1))), (0, .ref (Γ.2.2 (0))), (2, .int x2), (3, .int x3), (4, .int x4), (6, .ref (Γ.2.2 (ux6))), (7, .int x7), (8, .int x8)]) hx hb dX5_comers_171 hl (k := 7) rfl rfl (by decide) rfl (fun ls hl => ?_)
  refine lv_goto (tgt := 75) hx hb dX5_comers_174 (by decide) ?_
  exact hK75 S x2 x3 x4 ux6 x7 x8 (x9 + (nI 1)) hux6 hf _ _ _ hP (lv_sub hl [1, 2, 3, 4, 5, 6, 7, 0] rfl)
def fX5_comers_99  (K75 : cM → Int32 → Int32 → Int32 → Nat → Int32 → Int32 → Int32 → Option (Int32 × cM)) (S : cM) (x2 : Int32) (x3 : Int32) (x4 : Int32) (ux6 : Nat) (x7 : Int32) (x8 : Int32) (x9 : Int32) : Option (Int32 × cM) :=
  gi x9 100 (bd (fX5_chosen S x3 x9 (S.1 (ux6 + 8) (x9).toNatClampNeg)) fun v19 S19 => ( if v19 < 0 then fX5_comers_171  K75  S19 x2 x3 x4 ux6 x7 x8 x9 else gn S19.2.2 1 3 (gi v19 5 (gi x9 100 (bd (fX3_timeOfNext (5 * S19.2.2 + 2 + (v19).toNatClampNeg) S19 (S19.1 (ux6 + 8) (x9).toNatClampNeg)) fun v26 S26 => ( gn S26.2.2 1 3 (gi v19 5 (gi x9 100 (bv (fX3_comeIn (5 * S26.2.2 + 2 + (v19).toNatClampNeg) S26 (S26.1 (ux6 + 8) (x9).toNatClampNeg)) fun S32 => ( fX5_comers_171  K75  S32 x2 x3 x4 ux6 (x7 + (nI 1)) (x8 + v26) x9))))))))))
set_option maxHeartbeats 4000000 in
set_option maxRecDepth 100000 in
theorem wX5_comers_99 {p : Program} {l : Launch} {e : Env} {s : State} {m : MethodId} {args : Array Value} {below : List Frame} {meth : Method} {c : Code} {Γ : gG} {rz : Int32} {Sz : cM} (C : Cx Γ 74 p s m args meth c RX5 cX5_comers 11 (some .int))  {K75 : cM → Int32 → Int32 → Int32 → Nat → Int32 → Int32 → Int32 → Option (Int32 × cM)} (hK75 : ∀ (S : cM) (x2 : Int32) (x3 : Int32) (x4 : Int32) (ux6 : Nat) (x7 : Int32) (x8 : Int32) (x9 : Int32) (hux6 : 53 ≤ ux6 ∧ ux6 ≤ 60), K75 S x2 x3 x4 ux6 x7 x8 x9 = some (rz, Sz) → ∀ (H : Heap) (locs : List Loc) (ls : Array Slot), St Γ 74 (cE Γ S) s.heap H locs → lv_has ls 11 [(0, .ref (Γ.2.2 (0))), (2, .int x2), (3, .int x3), (4, .int x4), (6, .ref (Γ.2.2 (ux6))), (7, .int x7), (8, .int x8), (9, .int x9)] → W p l e { frames := 6, cells := 0, slots := 0, locals := 135 } s m args below meth c H locs 0 0 (MQ below (gQi Γ 74 rz (cE Γ Sz)) args s 0 0 (wA Γ 74)) (F0 m 75 ls [])) : ∀ (S : cM) (x2 : Int32) (x3 : Int32) (x4 : Int32) (ux6 : Nat) (x7 : Int32) (x8 : Int32) (x9 : Int32) (hux6 : 53 ≤ ux6 ∧ ux6 ≤ 60), fX5_comers_99  K75 S x2 x3 x4 ux6 x7 x8 x9 = some (rz, Sz) → ∀ (H : Heap) (locs : List Loc) (ls : Array Slot), St Γ 74 (cE Γ S) s.heap H locs → lv_has ls 11 [(0, .ref (Γ.2.2 (0))), (2, .int x2), (3, .int x3), (4, .int x4), (6, .ref (Γ.2.2 (ux6))), (7, .int x7), (8, .int x8), (9, .int x9)] → W p l e { frames := 6, cells := 0, slots := 0, locals := 135 } s m args below meth c H locs 0 0 (MQ below (gQi Γ 74 rz (cE Γ Sz)) args s 0 0 (wA Γ 74)) (F0 m 99 ls []) := by
  obtain ⟨hx, hb, -, -, hown, hts, -, hwx, -⟩ := id C
  intro S x2 x3 x4 ux6 x7 x8 x9 hux6 hf H locs ls hP hl
  unfold fX5_comers_99 at hf
  refine lv_aload_n hx hb dX5_comers_99 rfl (lv_at hl 0 rfl) ?_
  refine lv_iload_n hx hb dX5_comers_100 rfl (lv_at hl 2 rfl) ?_
  refine lv_iload hx hb dX5_comers_101 (lv_at hl 7 rfl) ?_
  refine lv_aload hx hb dX5_comers_103 (lv_at hl 4 rfl) ?_
  refine c4_get C hP hux6 6 (by decide) k1_111 rfl (v := .ref (Γ.2.2 (ux6 + 8))) rfl dX5_comers_105 ?_
  refine lv_iload hx hb dX5_comers_108 (lv_at hl 7 rfl) ?_
  refine gi_i hf (fun hi17 hj18 hf => ?_)
  refine c_ild C hP (cA_va hux6) hi17 dX5_comers_110 ?_
  refine bd_i hf (fun v19 S19 hq19 hf => ?_)
  refine goI (runV (rest := []) (b := 0) (mX5_chosen l Γ  hq19) C hP hl.1 (by decide) cE0 rfl k3_11 qX5_chosen.1 qX5_chosen.2.1 qX5_chosen.2.2.1 qX5_chosen.2.2.2.1 rfl qX5_chosen.2.2.2.2 ⟨Nat.le_of_ble_eq_true rfl, Nat.le_of_ble_eq_true rfl⟩ ⟨Nat.le_refl 0, Nat.le_refl 0⟩ (Nat.le_of_ble_eq_true rfl) dX5_comers_111) hP (fun H locs hP => ?_)
  refine lv_istore (lv' := [(10, .int v19), (0, .ref (Γ.2.2 (0))), (2, .int x2), (3, .int x3), (4, .int x4), (6, .ref (Γ.2.2 (ux6))), (7, .int x7), (8, .int x8), (9, .int x9)]) hx hb dX5_comers_114 hl (by decide) rfl (fun ls hl => ?_)
  refine lv_iload hx hb dX5_comers_116 (lv_at hl 0 rfl) ?_
  refine lv_if_lt (tgt := 171) hx hb dX5_comers_118 (by decide) (fun hc20 => ?_) (fun hc20 => ?_)
  · have hf := if_t hc20 hf
    exact wX5_comers_171 C  hK75  S19 x2 x3 x4 ux6 x7 x8 x9 hux6 hf _ _ _ hP (lv_sub hl [1, 2, 3, 4, 5, 6, 7, 8] rfl)
  · have hf := if_f hc20 hf
    refine lv_iload hx hb dX5_comers_121 (lv_at hl 7 rfl) ?_
    refine lv_aload_n hx hb dX5_comers_123 rfl (lv_at hl 1 rfl) ?_
    refine gn_i hf (fun hN21 hf => ?_)
    refine c0_get C hP 1 (by decide) k1_128 rfl (v := .ref (Γ.2.2 (S19.2.2))) rfl dX5_comers_124 ?_
    refine c1_get C hP hN21 0 (by decide) k1_71 rfl (v := .ref (Γ.2.2 (S19.2.2 + 3))) rfl dX5_comers_127 ?_
    refine lv_iload hx hb dX5_comers_130 (lv_at hl 0 rfl) ?_
    refine gi_i hf (fun hi22 hj23 hf => ?_)
    refine c_aldQ (q := S19.2.2) C hP hN21 hi22 dX5_comers_132 ?_
    refine lv_aload hx hb dX5_comers_133 (lv_at hl 5 rfl) ?_
    refine c4_get C hP hux6 6 (by decide) k1_111 rfl (v := .ref (Γ.2.2 (ux6 + 8))) rfl dX5_comers_135 ?_
    refine lv_iload hx hb dX5_comers_138 (lv_at hl 8 rfl) ?_
    refine gi_i hf (fun hi24 hj25 hf => ?_)
    refine c_ild C hP (cA_va hux6) hi24 dX5_comers_140 ?_
    refine bd_i hf (fun v26 S26 hq26 hf => ?_)
    refine goI (runV (rest := [.int x8]) (mX3_timeOfNext l Γ (by omega) hq26) C hP hl.1 (by have := (show 7 ≤ 5 * S19.2.2 + 2 + (v19).toNatClampNeg ∧ 5 * S19.2.2 + 2 + (v19).toNatClampNeg ≤ 21 by omega); omega) (cE3 (by omega)) rfl k2_85 qX3_timeOfNext.1 qX3_timeOfNext.2.1 qX3_timeOfNext.2.2.1 qX3_timeOfNext.2.2.2.1 rfl qX3_timeOfNext.2.2.2.2 ⟨Nat.le_of_ble_eq_true rfl, Nat.le_of_ble_eq_true rfl⟩ ⟨Nat.le_refl 0, Nat.le_refl 0⟩ (Nat.le_of_ble_eq_true rfl) dX5_comers_141) hP (fun H locs hP => ?_)
    refine lv_iadd hx hb dX5_comers_144 ?_
    refine lv_istore (lv' := [(8, .int (x8 + v26)), (10, .int v19), (0, .ref (Γ.2.2 (0))), (2, .int x2), (3, .int x3), (4, .int x4), (6, .ref (Γ.2.2 (ux6))), (7, .int x7), (9, .int x9)]) hx hb dX5_comers_145 hl (by decide) rfl (fun ls hl => ?_)
    refine lv_aload_n hx hb dX5_comers_147 rfl (lv_at hl 2 rfl) ?_
    refine gn_i hf (fun hN27 hf => ?_)
    refine c0_get C hP 1 (by decide) k1_128 rfl (v := .ref (Γ.2.2 (S26.2.2))) rfl dX5_comers_148 ?_
    refine c1_get C hP hN27 0 (by decide) k1_71 rfl (v := .ref (Γ.2.2 (S26.2.2 + 3))) rfl dX5_comers_151 ?_
    refine lv_iload hx hb dX5_comers_154 (lv_at hl 1 rfl) ?_
    refine gi_i hf (fun hi28 hj29 hf => ?_)
    refine c_aldQ (q := S26.2.2) C hP hN27 hi28 dX5_comers_156 ?_
    refine lv_aload hx hb dX5_comers_157 (lv_at hl 6 rfl) ?_
    refine c4_get C hP hux6 6 (by decide) k1_111 rfl (v := .ref (Γ.2.2 (ux6 + 8))) rfl dX5_comers_159 ?_
    refine lv_iload hx hb dX5_comers_162 (lv_at hl 8 rfl) ?_
    refine gi_i hf (fun hi30 hj31 hf => ?_)
    refine c_ild C hP (cA_va hux6) hi30 dX5_comers_164 ?_
    refine bv_i hf (fun S32 hq32 hf => ?_)
    refine goV (runV (rest := []) (mX3_comeIn l Γ (by omega) hq32) C hP hl.1 (by have := (show 7 ≤ 5 * S26.2.2 + 2 + (v19).toNatClampNeg ∧ 5 * S26.2.2 + 2 + (v19).toNatClampNeg ≤ 21 by omega); omega) (cE3 (by omega)) rfl k2_89 qX3_comeIn.1 qX3_comeIn.2.1 qX3_comeIn.2.2.1 qX3_comeIn.2.2.2.1 rfl qX3_comeIn.2.2.2.2 ⟨Nat.le_of_ble_eq_true rfl, Nat.le_of_ble_eq_true rfl⟩ ⟨Nat.le_refl 0, Nat.le_refl 0⟩ (Nat.le_of_ble_eq_true rfl) dX5_comers_165) hP (fun H locs hP => ?_)
    refine lv_iinc (v := x7 + (nI 1)) (lv' := [(7, .int (x7 + (nI 1))), (8, .int (x8 + v26)), (10, .int v19), (0, .ref (Γ.2.2 (0))), (2, .int x2), (3, .int x3), (4, .int x4), (6, .ref (Γ.2.2 (ux6))), (9, .int x9)]) hx hb dX5_comers_168 hl (k := 7) rfl rfl (by decide) rfl (fun ls hl => ?_)
    exact wX5_comers_171 C  hK75  S32 x2 x3 x4 ux6 (x7 + (nI 1)) (x8 + v26) x9 hux6 hf _ _ _ hP (lv_sub hl [3, 4, 5, 6, 7, 0, 1, 8] rfl)
def fX5_comers_75   : Nat → cM → Int32 → Int32 → Int32 → Nat → Int32 → Int32 → Int32 → Option (Int32 × cM)
  | 0, _, _, _, _, _, _, _, _ => none
  | n + 1, S, x2, x3, x4, ux6, x7, x8, x9 =>
    if (S.1 ux6 5) ≤ x9 then if x4 = 0 then some (x7, S) else some (x8, S) else if x9 ≤ 0 then fX5_comers_99  (fX5_comers_75   n)  S x2 x3 x4 ux6 x7 x8 x9 else gn S.2.2 1 3 (bd (fX1_goBy S.2.2 S x2) fun v34 S34 => ( fX5_comers_99  (fX5_comers_75   n)  S34 x2 x3 x4 ux6 x7 x8 x9))
set_option maxHeartbeats 4000000 in
set_option maxRecDepth 100000 in
theorem wX5_comers_75 {p : Program} {l : Launch} {e : Env} {s : State} {m : MethodId} {args : Array Value} {below : List Frame} {meth : Method} {c : Code} {Γ : gG} {rz : Int32} {Sz : cM} (C : Cx Γ 74 p s m args meth c RX5 cX5_comers 11 (some .int))   : ∀ n : Nat, ∀ (S : cM) (x2 : Int32) (x3 : Int32) (x4 : Int32) (ux6 : Nat) (x7 : Int32) (x8 : Int32) (x9 : Int32) (hux6 : 53 ≤ ux6 ∧ ux6 ≤ 60), fX5_comers_75   n S x2 x3 x4 ux6 x7 x8 x9 = some (rz, Sz) → ∀ (H : Heap) (locs : List Loc) (ls : Array Slot), St Γ 74 (cE Γ S) s.heap H locs → lv_has ls 11 [(0, .ref (Γ.2.2 (0))), (2, .int x2), (3, .int x3), (4, .int x4), (6, .ref (Γ.2.2 (ux6))), (7, .int x7), (8, .int x8), (9, .int x9)] → W p l e { frames := 6, cells := 0, slots := 0, locals := 135 } s m args below meth c H locs 0 0 (MQ below (gQi Γ 74 rz (cE Γ Sz)) args s 0 0 (wA Γ 74)) (F0 m 75 ls []) := by
  obtain ⟨hx, hb, -, -, hown, hts, -, hwx, -⟩ := id C
  intro n
  induction n with
  | zero =>
    intro S x2 x3 x4 ux6 x7 x8 x9 hux6 hf
    unfold fX5_comers_75 at hf
    cases hf
  | succ n ih =>
    intro S x2 x3 x4 ux6 x7 x8 x9 hux6 hf H locs ls hP hl
    unfold fX5_comers_75 at hf
    refine lv_iload hx hb dX5_comers_75 (lv_at hl 7 rfl) ?_
    refine lv_aload hx hb dX5_comers_77 (lv_at hl 4 rfl) ?_
    refine c4_get C hP hux6 5 (by decide) k1_108 rfl (v := .int (S.1 ux6 5)) rfl dX5_comers_79 ?_
    refine lv_icmp_ge (tgt := 177) hx hb dX5_comers_82 (by decide) (fun hc14 => ?_) (fun hc14 => ?_)
    · have hf := if_t hc14 hf
      refine lv_iload hx hb dX5_comers_177 (lv_at hl 3 rfl) ?_
      refine lv_if_ne (tgt := 187) hx hb dX5_comers_179 (by decide) (fun hc15 => ?_) (fun hc15 => ?_)
      · have hf := if_f hc15 hf
        refine lv_iload hx hb dX5_comers_187 (lv_at hl 6 rfl) ?_
        exact r_iret (X := cE Γ) C hP hf dX5_comers_189
      · have hf := if_t hc15 hf
        refine lv_iload hx hb dX5_comers_182 (lv_at hl 5 rfl) ?_
        refine lv_goto (tgt := 189) hx hb dX5_comers_184 (by decide) ?_
        exact r_iret (X := cE Γ) C hP hf dX5_comers_189
    · have hf := if_f hc14 hf
      refine lv_iload hx hb dX5_comers_85 (lv_at hl 7 rfl) ?_
      refine lv_if_le (tgt := 99) hx hb dX5_comers_87 (by decide) (fun hc16 => ?_) (fun hc16 => ?_)
      · have hf := if_t hc16 hf
        exact wX5_comers_99 C  ih  S x2 x3 x4 ux6 x7 x8 x9 hux6 hf _ _ _ hP (lv_sub hl [0, 1, 2, 3, 4, 5, 6, 7] rfl)
      · have hf := if_f hc16 hf
        refine lv_aload_n hx hb dX5_comers_90 rfl (lv_at hl 0 rfl) ?_
        refine gn_i hf (fun hN33 hf => ?_)
        refine c0_get C hP 1 (by decide) k1_128 rfl (v := .ref (Γ.2.2 (S.2.2))) rfl dX5_comers_91 ?_
        refine lv_iload_n hx hb dX5_comers_94 rfl (lv_at hl 1 rfl) ?_
        refine bd_i hf (fun v34 S34 hq34 hf => ?_)
        refine goI (runV (rest := []) (mX1_goBy l Γ hN33 hq34) C hP hl.1 (by have := hN33; omega) (cE1 hN33) rfl k2_94 qX1_goBy.1 qX1_goBy.2.1 qX1_goBy.2.2.1 qX1_goBy.2.2.2.1 rfl qX1_goBy.2.2.2.2 ⟨Nat.le_of_ble_eq_true rfl, Nat.le_of_ble_eq_true rfl⟩ ⟨Nat.le_refl 0, Nat.le_refl 0⟩ (Nat.le_of_ble_eq_true rfl) dX5_comers_95) hP (fun H locs hP => ?_)
        refine lv_pop hx hb dX5_comers_98 rfl ?_
        exact wX5_comers_99 C  ih  S34 x2 x3 x4 ux6 x7 x8 x9 hux6 hf _ _ _ hP (lv_sub hl [0, 1, 2, 3, 4, 5, 6, 7] rfl)
def fX5_comers  (S : cM) (x1 : Int32) (x2 : Int32) (x3 : Int32) (x4 : Int32) : Option (Int32 × cM) :=
  if x2 < 0 then some ((-1), S) else if (nI 9) < x2 then some ((-1), S) else if x3 < 0 then some ((-1), S) else if (nI 2) < x3 then some ((-1), S) else if x4 < 0 then some ((-1), S) else if x4 ≤ (nI 1) then bd (fX5_sortsRefusal S x1) fun v7 S7 => ( if v7 = 0 then gi x1 8 (gn S7.2.2 1 3 (gn S7.2.1 1 3 (bv (fX1_becomeLike S7.2.2 S7.2.1 S7) fun S13 => ( fX5_comers_75   lF S13 x2 x3 x4 (53 + (x1).toNatClampNeg) (nI 0) (nI 0) (nI 0))))) else some (v7, S7)) else some ((-1), S)
set_option maxHeartbeats 4000000 in
set_option maxRecDepth 100000 in
theorem mX5_comers (l : Launch) (Γ : gG)   {S : cM} {x1 : Int32} {x2 : Int32} {x3 : Int32} {x4 : Int32} {rz : Int32} {Sz : cM} (hf : fX5_comers S x1 x2 x3 x4 = some (rz, Sz)) : CtI l Γ 74 yX5_comers cX5_comers 11 .int 6 135 [.ref (Γ.2.2 (0)), .int x1, .int x2, .int x3, .int x4] (cE Γ S) rz (cE Γ Sz) := by
  refine met_body (Γ := Γ) (lv := [(0, .ref (Γ.2.2 (0))), (1, .int x1), (2, .int x2), (3, .int x3), (4, .int x4)]) RX5 (by decide) rfl rfl rfl ?_
  intro p e s m below meth c H locs ls C hP hl
  obtain ⟨hx, hb, -, -, hown, hts, -, hwx, -⟩ := id C
  unfold fX5_comers at hf
  refine lv_iload_n hx hb dX5_comers_0 rfl (lv_at hl 2 rfl) ?_
  refine lv_if_lt (tgt := 30) hx hb dX5_comers_1 (by decide) (fun hc1 => ?_) (fun hc1 => ?_)
  · have hf := if_t hc1 hf
    refine lv_iconst (v := (-1)) hx hb dX5_comers_30 rfl ?_
    exact r_iret (X := cE Γ) C hP hf dX5_comers_31
  · have hf := if_f hc1 hf
    refine lv_iload_n hx hb dX5_comers_4 rfl (lv_at hl 2 rfl) ?_
    refine lv_bipush (v := nI 9) hx hb dX5_comers_5 rfl ?_
    refine lv_icmp_gt (tgt := 30) hx hb dX5_comers_7 (by decide) (fun hc2 => ?_) (fun hc2 => ?_)
    · have hf := if_t hc2 hf
      refine lv_iconst (v := (-1)) hx hb dX5_comers_30 rfl ?_
      exact r_iret (X := cE Γ) C hP hf dX5_comers_31
    · have hf := if_f hc2 hf
      refine lv_iload_n hx hb dX5_comers_10 rfl (lv_at hl 3 rfl) ?_
      refine lv_if_lt (tgt := 30) hx hb dX5_comers_11 (by decide) (fun hc3 => ?_) (fun hc3 => ?_)
      · have hf := if_t hc3 hf
        refine lv_iconst (v := (-1)) hx hb dX5_comers_30 rfl ?_
        exact r_iret (X := cE Γ) C hP hf dX5_comers_31
      · have hf := if_f hc3 hf
        refine lv_iload_n hx hb dX5_comers_14 rfl (lv_at hl 3 rfl) ?_
        refine lv_iconst (v := nI 2) hx hb dX5_comers_15 rfl ?_
        refine lv_icmp_gt (tgt := 30) hx hb dX5_comers_16 (by decide) (fun hc4 => ?_) (fun hc4 => ?_)
        · have hf := if_t hc4 hf
          refine lv_iconst (v := (-1)) hx hb dX5_comers_30 rfl ?_
          exact r_iret (X := cE Γ) C hP hf dX5_comers_31
        · have hf := if_f hc4 hf
          refine lv_iload hx hb dX5_comers_19 (lv_at hl 4 rfl) ?_
          refine lv_if_lt (tgt := 30) hx hb dX5_comers_21 (by decide) (fun hc5 => ?_) (fun hc5 => ?_)
          · have hf := if_t hc5 hf
            refine lv_iconst (v := (-1)) hx hb dX5_comers_30 rfl ?_
            exact r_iret (X := cE Γ) C hP hf dX5_comers_31
          · have hf := if_f hc5 hf
            refine lv_iload hx hb dX5_comers_24 (lv_at hl 4 rfl) ?_
            refine lv_iconst (v := nI 1) hx hb dX5_comers_26 rfl ?_
            refine lv_icmp_le (tgt := 32) hx hb dX5_comers_27 (by decide) (fun hc6 => ?_) (fun hc6 => ?_)
            · have hf := if_t hc6 hf
              refine lv_aload_n hx hb dX5_comers_32 rfl (lv_at hl 0 rfl) ?_
              refine lv_iload_n hx hb dX5_comers_33 rfl (lv_at hl 1 rfl) ?_
              refine bd_i hf (fun v7 S7 hq7 hf => ?_)
              refine goI (runV (rest := []) (b := 0) (mX5_sortsRefusal l Γ  hq7) C hP hl.1 (by decide) cE0 rfl k3_7 qX5_sortsRefusal.1 qX5_sortsRefusal.2.1 qX5_sortsRefusal.2.2.1 qX5_sortsRefusal.2.2.2.1 rfl qX5_sortsRefusal.2.2.2.2 ⟨Nat.le_of_ble_eq_true rfl, Nat.le_of_ble_eq_true rfl⟩ ⟨Nat.le_refl 0, Nat.le_refl 0⟩ (Nat.le_of_ble_eq_true rfl) dX5_comers_34) hP (fun H locs hP => ?_)
              refine lv_istore (lv' := [(5, .int v7), (0, .ref (Γ.2.2 (0))), (1, .int x1), (2, .int x2), (3, .int x3), (4, .int x4)]) hx hb dX5_comers_37 hl (by decide) rfl (fun ls hl => ?_)
              refine lv_iload hx hb dX5_comers_39 (lv_at hl 0 rfl) ?_
              refine lv_if_eq (tgt := 47) hx hb dX5_comers_41 (by decide) (fun hc8 => ?_) (fun hc8 => ?_)
              · have hf := if_t hc8 hf
                refine lv_aload_n hx hb dX5_comers_47 rfl (lv_at hl 1 rfl) ?_
                refine c0_get C hP 4 (by decide) k1_131 rfl (v := .ref (Γ.2.2 (52))) rfl dX5_comers_48 ?_
                refine lv_iload_n hx hb dX5_comers_51 rfl (lv_at hl 2 rfl) ?_
                refine gi_i hf (fun hi9 hj10 hf => ?_)
                refine c_aldS C hP hi9 dX5_comers_52 ?_
                refine lv_astore (lv' := [(6, .ref (Γ.2.2 (53 + (x1).toNatClampNeg))), (5, .int v7), (0, .ref (Γ.2.2 (0))), (1, .int x1), (2, .int x2), (3, .int x3), (4, .int x4)]) hx hb dX5_comers_53 hl (by decide) rfl (fun ls hl => ?_)
                refine lv_aload_n hx hb dX5_comers_55 rfl (lv_at hl 2 rfl) ?_
                refine gn_i hf (fun hN11 hf => ?_)
                refine c0_get C hP 1 (by decide) k1_128 rfl (v := .ref (Γ.2.2 (S7.2.2))) rfl dX5_comers_56 ?_
                refine lv_aload_n hx hb dX5_comers_59 rfl (lv_at hl 2 rfl) ?_
                refine gn_i hf (fun hN12 hf => ?_)
                refine c0_get C hP 0 (by decide) k1_127 rfl (v := .ref (Γ.2.2 (S7.2.1))) rfl dX5_comers_60 ?_
                refine bv_i hf (fun S13 hq13 hf => ?_)
                refine goV (runV (rest := []) (mX1_becomeLike l Γ hN11 hN12 hq13) C hP hl.1 (by have := hN11; omega) (cE1 hN11) rfl k1_189 qX1_becomeLike.1 qX1_becomeLike.2.1 qX1_becomeLike.2.2.1 qX1_becomeLike.2.2.2.1 rfl qX1_becomeLike.2.2.2.2 ⟨Nat.le_of_ble_eq_true rfl, Nat.le_of_ble_eq_true rfl⟩ ⟨Nat.le_refl 0, Nat.le_refl 0⟩ (Nat.le_of_ble_eq_true rfl) dX5_comers_63) hP (fun H locs hP => ?_)
                refine lv_iconst (v := nI 0) hx hb dX5_comers_66 rfl ?_
                refine lv_istore (lv' := [(7, .int (nI 0)), (6, .ref (Γ.2.2 (53 + (x1).toNatClampNeg))), (5, .int v7), (0, .ref (Γ.2.2 (0))), (1, .int x1), (2, .int x2), (3, .int x3), (4, .int x4)]) hx hb dX5_comers_67 hl (by decide) rfl (fun ls hl => ?_)
                refine lv_iconst (v := nI 0) hx hb dX5_comers_69 rfl ?_
                refine lv_istore (lv' := [(8, .int (nI 0)), (7, .int (nI 0)), (6, .ref (Γ.2.2 (53 + (x1).toNatClampNeg))), (5, .int v7), (0, .ref (Γ.2.2 (0))), (1, .int x1), (2, .int x2), (3, .int x3), (4, .int x4)]) hx hb dX5_comers_70 hl (by decide) rfl (fun ls hl => ?_)
                refine lv_iconst (v := nI 0) hx hb dX5_comers_72 rfl ?_
                refine lv_istore (lv' := [(9, .int (nI 0)), (8, .int (nI 0)), (7, .int (nI 0)), (6, .ref (Γ.2.2 (53 + (x1).toNatClampNeg))), (5, .int v7), (0, .ref (Γ.2.2 (0))), (1, .int x1), (2, .int x2), (3, .int x3), (4, .int x4)]) hx hb dX5_comers_73 hl (by decide) rfl (fun ls hl => ?_)
                exact wX5_comers_75 C   lF S13 x2 x3 x4 (53 + (x1).toNatClampNeg) (nI 0) (nI 0) (nI 0) (by omega) hf _ _ _ hP (lv_sub hl [5, 7, 8, 9, 3, 2, 1, 0] rfl)
              · have hf := if_f hc8 hf
                refine lv_iload hx hb dX5_comers_44 (lv_at hl 0 rfl) ?_
                exact r_iret (X := cE Γ) C hP hf dX5_comers_46
            · have hf := if_f hc6 hf
              refine lv_iconst (v := (-1)) hx hb dX5_comers_30 rfl ?_
              exact r_iret (X := cE Γ) C hP hf dX5_comers_31
-- X5_opens
theorem qX5_opens : Cond.instanceMethod yX5_opens ∈ Ub ∧ Cond.selects RX5 yX5_opens yX5_opens ∈ Ub ∧ Cond.initialized RX5 ∈ Ub ∧ Cond.code yX5_opens cX5_opens 9 (some FieldType.int) ∈ Ub ∧ (yX5_opens.cls = RX5 ∧ yX5_opens.cls ≠ "java/lang/invoke/MethodHandle" ∧ yX5_opens.cls ≠ "java/lang/invoke/VarHandle" ∧ (parseMethodDescriptor yX5_opens.desc).map (fun d => d.parameters.length) = some 3) := ⟨k3_17, k3_18, k1_1, k3_19, by decide +kernel⟩
def fX5_opens_156  (K62 : cM → Int32 → Int32 → Nat → Int32 → Int32 → Option (Int32 × cM)) (S : cM) (x2 : Int32) (x3 : Int32) (ux5 : Nat) (x6 : Int32) (x7 : Int32) : Option (Int32 × cM) :=
  K62 S x2 x3 ux5 x6 (x7 + (nI 1))
set_option maxHeartbeats 4000000 in
set_option maxRecDepth 100000 in
theorem wX5_opens_156 {p : Program} {l : Launch} {e : Env} {s : State} {m : MethodId} {args : Array Value} {below : List Frame} {meth : Method} {c : Code} {Γ : gG} {rz : Int32} {Sz : cM} (C : Cx Γ 74 p s m args meth c RX5 cX5_opens 9 (some .int))  {K62 : cM → Int32 → Int32 → Nat → Int32 → Int32 → Option (Int32 × cM)} (hK62 : ∀ (S : cM) (x2 : Int32) (x3 : Int32) (ux5 : Nat) (x6 : Int32) (x7 : Int32) (hux5 : 53 ≤ ux5 ∧ ux5 ≤ 60), K62 S x2 x3 ux5 x6 x7 = some (rz, Sz) → ∀ (H : Heap) (locs : List Loc) (ls : Array Slot), St Γ 74 (cE Γ S) s.heap H locs → lv_has ls 9 [(0, .ref (Γ.2.2 (0))), (2, .int x2), (3, .int x3), (5, .ref (Γ.2.2 (ux5))), (6, .int x6), (7, .int x7)] → W p l e { frames := 5, cells := 0, slots := 0, locals := 112 } s m args below meth c H locs 0 0 (MQ below (gQi Γ 74 rz (cE Γ Sz)) args s 0 0 (wA Γ 74)) (F0 m 62 ls [])) : ∀ (S : cM) (x2 : Int32) (x3 : Int32) (ux5 : Nat) (x6 : Int32) (x7 : Int32) (hux5 : 53 ≤ ux5 ∧ ux5 ≤ 60), fX5_opens_156  K62 S x2 x3 ux5 x6 x7 = some (rz, Sz) → ∀ (H : Heap) (locs : List Loc) (ls : Array Slot), St Γ 74 (cE Γ S) s.heap H locs → lv_has ls 9 [(0, .ref (Γ.2.2 (0))), (2, .int x2), (3, .int x3), (5, .ref (Γ.2.2 (ux5))), (6, .int x6), (7, .int x7)] → W p l e { frames := 5, cells := 0, slots := 0, locals := 112 } s m args below meth c H locs 0 0 (MQ below (gQi Γ 74 rz (cE Γ Sz)) args s 0 0 (wA Γ 74)) (F0 m 156 ls []) := by
  obtain ⟨hx, hb, -, -, hown, hts, -, hwx, -⟩ := id C
  intro S x2 x3 ux5 x6 x7 hux5 hf H locs ls hP hl
  unfold fX5_opens_156 at hf
  refine lv_iinc (v := x7 + (nI 1)) (lv' := [(7, .int (x7 + (nI 1))), (0, .ref (Γ.2.2 (0))), (2, .int x2), (3, .int x3), (5, .ref (Γ.2.2 (ux5))), (6, .int x6)]) hx hb dX5_opens_156 hl (k := 5) rfl rfl (by decide) rfl (fun ls hl => ?_)
  refine lv_goto (tgt := 62) hx hb dX5_opens_159 (by decide) ?_
  exact hK62 S x2 x3 ux5 x6 (x7 + (nI 1)) hux5 hf _ _ _ hP (lv_sub hl [1, 2, 3, 4, 5, 0] rfl)
def fX5_opens_121  (K62 : cM → Int32 → Int32 → Nat → Int32 → Int32 → Option (Int32 × cM)) (S : cM) (x2 : Int32) (x3 : Int32) (ux5 : Nat) (x6 : Int32) (x7 : Int32) : Option (Int32 × cM) :=
  gn S.2.2 1 3 (bd (fX1_seemingLane S.2.2 S) fun v20 S20 => ( if v20 < 0 then fX5_opens_156  K62  S20 x2 x3 ux5 x6 x7 else gn S20.2.2 1 3 (gi v20 5 (gi x7 100 (bv (fX3_comeIn (5 * S20.2.2 + 2 + (v20).toNatClampNeg) S20 (S20.1 (ux5 + 8) (x7).toNatClampNeg)) fun S27 => ( fX5_opens_156  K62  S27 x2 x3 ux5 x6 x7))))))
set_option maxHeartbeats 4000000 in
set_option maxRecDepth 100000 in
theorem wX5_opens_121 {p : Program} {l : Launch} {e : Env} {s : State} {m : MethodId} {args : Array Value} {below : List Frame} {meth : Method} {c : Code} {Γ : gG} {rz : Int32} {Sz : cM} (C : Cx Γ 74 p s m args meth c RX5 cX5_opens 9 (some .int))  {K62 : cM → Int32 → Int32 → Nat → Int32 → Int32 → Option (Int32 × cM)} (hK62 : ∀ (S : cM) (x2 : Int32) (x3 : Int32) (ux5 : Nat) (x6 : Int32) (x7 : Int32) (hux5 : 53 ≤ ux5 ∧ ux5 ≤ 60), K62 S x2 x3 ux5 x6 x7 = some (rz, Sz) → ∀ (H : Heap) (locs : List Loc) (ls : Array Slot), St Γ 74 (cE Γ S) s.heap H locs → lv_has ls 9 [(0, .ref (Γ.2.2 (0))), (2, .int x2), (3, .int x3), (5, .ref (Γ.2.2 (ux5))), (6, .int x6), (7, .int x7)] → W p l e { frames := 5, cells := 0, slots := 0, locals := 112 } s m args below meth c H locs 0 0 (MQ below (gQi Γ 74 rz (cE Γ Sz)) args s 0 0 (wA Γ 74)) (F0 m 62 ls [])) : ∀ (S : cM) (x2 : Int32) (x3 : Int32) (ux5 : Nat) (x6 : Int32) (x7 : Int32) (hux5 : 53 ≤ ux5 ∧ ux5 ≤ 60), fX5_opens_121  K62 S x2 x3 ux5 x6 x7 = some (rz, Sz) → ∀ (H : Heap) (locs : List Loc) (ls : Array Slot), St Γ 74 (cE Γ S) s.heap H locs → lv_has ls 9 [(0, .ref (Γ.2.2 (0))), (2, .int x2), (3, .int x3), (5, .ref (Γ.2.2 (ux5))), (6, .int x6), (7, .int x7)] → W p l e { frames := 5, cells := 0, slots := 0, locals := 112 } s m args below meth c H locs 0 0 (MQ below (gQi Γ 74 rz (cE Γ Sz)) args s 0 0 (wA Γ 74)) (F0 m 121 ls []) := by
  obtain ⟨hx, hb, -, -, hown, hts, -, hwx, -⟩ := id C
  intro S x2 x3 ux5 x6 x7 hux5 hf H locs ls hP hl
  unfold fX5_opens_121 at hf
  refine lv_aload_n hx hb dX5_opens_121 rfl (lv_at hl 0 rfl) ?_
  refine gn_i hf (fun hN19 hf => ?_)
  refine c0_get C hP 1 (by decide) k1_128 rfl (v := .ref (Γ.2.2 (S.2.2))) rfl dX5_opens_122 ?_
  refine bd_i hf (fun v20 S20 hq20 hf => ?_)
  refine goI (runV (rest := []) (mX1_seemingLane l Γ hN19 hq20) C hP hl.1 (by have := hN19; omega) (cE1 hN19) rfl k2_99 qX1_seemingLane.1 qX1_seemingLane.2.1 qX1_seemingLane.2.2.1 qX1_seemingLane.2.2.2.1 rfl qX1_seemingLane.2.2.2.2 ⟨Nat.le_of_ble_eq_true rfl, Nat.le_of_ble_eq_true rfl⟩ ⟨Nat.le_refl 0, Nat.le_refl 0⟩ (Nat.le_of_ble_eq_true rfl) dX5_opens_125) hP (fun H locs hP => ?_)
  refine lv_istore (lv' := [(8, .int v20), (0, .ref (Γ.2.2 (0))), (2, .int x2), (3, .int x3), (5, .ref (Γ.2.2 (ux5))), (6, .int x6), (7, .int x7)]) hx hb dX5_opens_128 hl (by decide) rfl (fun ls hl => ?_)
  refine lv_iload hx hb dX5_opens_130 (lv_at hl 0 rfl) ?_
  refine lv_if_lt (tgt := 156) hx hb dX5_opens_132 (by decide) (fun hc21 => ?_) (fun hc21 => ?_)
  · have hf := if_t hc21 hf
    exact wX5_opens_156 C  hK62  S20 x2 x3 ux5 x6 x7 hux5 hf _ _ _ hP (lv_sub hl [1, 2, 3, 4, 5, 6] rfl)
  · have hf := if_f hc21 hf
    refine lv_aload_n hx hb dX5_opens_135 rfl (lv_at hl 1 rfl) ?_
    refine gn_i hf (fun hN22 hf => ?_)
    refine c0_get C hP 1 (by decide) k1_128 rfl (v := .ref (Γ.2.2 (S20.2.2))) rfl dX5_opens_136 ?_
    refine c1_get C hP hN22 0 (by decide) k1_71 rfl (v := .ref (Γ.2.2 (S20.2.2 + 3))) rfl dX5_opens_139 ?_
    refine lv_iload hx hb dX5_opens_142 (lv_at hl 0 rfl) ?_
    refine gi_i hf (fun hi23 hj24 hf => ?_)
    refine c_aldQ (q := S20.2.2) C hP hN22 hi23 dX5_opens_144 ?_
    refine lv_aload hx hb dX5_opens_145 (lv_at hl 4 rfl) ?_
    refine c4_get C hP hux5 6 (by decide) k1_111 rfl (v := .ref (Γ.2.2 (ux5 + 8))) rfl dX5_opens_147 ?_
    refine lv_iload hx hb dX5_opens_150 (lv_at hl 6 rfl) ?_
    refine gi_i hf (fun hi25 hj26 hf => ?_)
    refine c_ild C hP (cA_va hux5) hi25 dX5_opens_152 ?_
    refine bv_i hf (fun S27 hq27 hf => ?_)
    refine goV (runV (rest := []) (mX3_comeIn l Γ (by omega) hq27) C hP hl.1 (by have := (show 7 ≤ 5 * S20.2.2 + 2 + (v20).toNatClampNeg ∧ 5 * S20.2.2 + 2 + (v20).toNatClampNeg ≤ 21 by omega); omega) (cE3 (by omega)) rfl k2_89 qX3_comeIn.1 qX3_comeIn.2.1 qX3_comeIn.2.2.1 qX3_comeIn.2.2.2.1 rfl qX3_comeIn.2.2.2.2 ⟨Nat.le_of_ble_eq_true rfl, Nat.le_of_ble_eq_true rfl⟩ ⟨Nat.le_refl 0, Nat.le_refl 0⟩ (Nat.le_of_ble_eq_true rfl) dX5_opens_153) hP (fun H locs hP => ?_)
    exact wX5_opens_156 C  hK62  S27 x2 x3 ux5 x6 x7 hux5 hf _ _ _ hP (lv_sub hl [1, 2, 3, 4, 5, 6] rfl)
def fX5_opens_86  (K62 : cM → Int32 → Int32 → Nat → Int32 → Int32 → Option (Int32 × cM)) (S : cM) (x2 : Int32) (x3 : Int32) (ux5 : Nat) (x6 : Int32) (x7 : Int32) : Option (Int32 × cM) :=
  gn S.2.2 1 3 (gi x7 100 (bd (fX1_leastTime S.2.2 S (S.1 (ux5 + 8) (x7).toNatClampNeg)) fun v17 S17 => ( if v17 ≤ x3 then fX5_opens_121  K62  S17 x2 x3 ux5 x6 x7 else gn S17.2.2 1 3 (bd (fX1_addLane S17.2.2 S17 (nI 6) (nI 0)) fun v29 S29 => ( if v29 = 0 then fX5_opens_121  K62  S29 x2 x3 ux5 x6 x7 else fX5_opens_121  K62  S29 x2 x3 ux5 (x6 + (nI 1)) x7)))))
set_option maxHeartbeats 4000000 in
set_option maxRecDepth 100000 in
theorem wX5_opens_86 {p : Program} {l : Launch} {e : Env} {s : State} {m : MethodId} {args : Array Value} {below : List Frame} {meth : Method} {c : Code} {Γ : gG} {rz : Int32} {Sz : cM} (C : Cx Γ 74 p s m args meth c RX5 cX5_opens 9 (some .int))  {K62 : cM → Int32 → Int32 → Nat → Int32 → Int32 → Option (Int32 × cM)} (hK62 : ∀ (S : cM) (x2 : Int32) (x3 : Int32) (ux5 : Nat) (x6 : Int32) (x7 : Int32) (hux5 : 53 ≤ ux5 ∧ ux5 ≤ 60), K62 S x2 x3 ux5 x6 x7 = some (rz, Sz) → ∀ (H : Heap) (locs : List Loc) (ls : Array Slot), St Γ 74 (cE Γ S) s.heap H locs → lv_has ls 9 [(0, .ref (Γ.2.2 (0))), (2, .int x2), (3, .int x3), (5, .ref (Γ.2.2 (ux5))), (6, .int x6), (7, .int x7)] → W p l e { frames := 5, cells := 0, slots := 0, locals := 112 } s m args below meth c H locs 0 0 (MQ below (gQi Γ 74 rz (cE Γ Sz)) args s 0 0 (wA Γ 74)) (F0 m 62 ls [])) : ∀ (S : cM) (x2 : Int32) (x3 : Int32) (ux5 : Nat) (x6 : Int32) (x7 : Int32) (hux5 : 53 ≤ ux5 ∧ ux5 ≤ 60), fX5_opens_86  K62 S x2 x3 ux5 x6 x7 = some (rz, Sz) → ∀ (H : Heap) (locs : List Loc) (ls : Array Slot), St Γ 74 (cE Γ S) s.heap H locs → lv_has ls 9 [(0, .ref (Γ.2.2 (0))), (2, .int x2), (3, .int x3), (5, .ref (Γ.2.2 (ux5))), (6, .int x6), (7, .int x7)] → W p l e { frames := 5, cells := 0, slots := 0, locals := 112 } s m args below meth c H locs 0 0 (MQ below (gQi Γ 74 rz (cE Γ Sz)) args s 0 0 (wA Γ 74)) (F0 m 86 ls []) := by
  obtain ⟨hx, hb, -, -, hown, hts, -, hwx, -⟩ := id C
  intro S x2 x3 ux5 x6 x7 hux5 hf H locs ls hP hl
  unfold fX5_opens_86 at hf
  refine lv_aload_n hx hb dX5_opens_86 rfl (lv_at hl 0 rfl) ?_
  refine gn_i hf (fun hN14 hf => ?_)
  refine c0_get C hP 1 (by decide) k1_128 rfl (v := .ref (Γ.2.2 (S.2.2))) rfl dX5_opens_87 ?_
  refine lv_aload hx hb dX5_opens_90 (lv_at hl 3 rfl) ?_
  refine c4_get C hP hux5 6 (by decide) k1_111 rfl (v := .ref (Γ.2.2 (ux5 + 8))) rfl dX5_opens_92 ?_
  refine lv_iload hx hb dX5_opens_95 (lv_at hl 5 rfl) ?_
  refine gi_i hf (fun hi15 hj16 hf => ?_)
  refine c_ild C hP (cA_va hux5) hi15 dX5_opens_97 ?_
  refine bd_i hf (fun v17 S17 hq17 hf => ?_)
  refine goI (runV (rest := []) (mX1_leastTime l Γ hN14 hq17) C hP hl.1 (by have := hN14; omega) (cE1 hN14) rfl k2_127 qX1_leastTime.1 qX1_leastTime.2.1 qX1_leastTime.2.2.1 qX1_leastTime.2.2.2.1 rfl qX1_leastTime.2.2.2.2 ⟨Nat.le_of_ble_eq_true rfl, Nat.le_of_ble_eq_true rfl⟩ ⟨Nat.le_refl 0, Nat.le_refl 0⟩ (Nat.le_of_ble_eq_true rfl) dX5_opens_98) hP (fun H locs hP => ?_)
  refine lv_iload_n hx hb dX5_opens_101 rfl (lv_at hl 2 rfl) ?_
  refine lv_icmp_le (tgt := 121) hx hb dX5_opens_102 (by decide) (fun hc18 => ?_) (fun hc18 => ?_)
  · have hf := if_t hc18 hf
    exact wX5_opens_121 C  hK62  S17 x2 x3 ux5 x6 x7 hux5 hf _ _ _ hP (lv_sub hl [0, 1, 2, 3, 4, 5] rfl)
  · have hf := if_f hc18 hf
    refine lv_aload_n hx hb dX5_opens_105 rfl (lv_at hl 0 rfl) ?_
    refine gn_i hf (fun hN28 hf => ?_)
    refine c0_get C hP 1 (by decide) k1_128 rfl (v := .ref (Γ.2.2 (S17.2.2))) rfl dX5_opens_106 ?_
    refine lv_bipush (v := nI 6) hx hb dX5_opens_109 rfl ?_
    refine lv_iconst (v := nI 0) hx hb dX5_opens_111 rfl ?_
    refine bd_i hf (fun v29 S29 hq29 hf => ?_)
    refine goI (runV (rest := []) (mX1_addLane l Γ hN28 hq29) C hP hl.1 (by have := hN28; omega) (cE1 hN28) rfl k3_20 qX1_addLane.1 qX1_addLane.2.1 qX1_addLane.2.2.1 qX1_addLane.2.2.2.1 rfl qX1_addLane.2.2.2.2 ⟨Nat.le_of_ble_eq_true rfl, Nat.le_of_ble_eq_true rfl⟩ ⟨Nat.le_refl 0, Nat.le_refl 0⟩ (Nat.le_of_ble_eq_true rfl) dX5_opens_112) hP (fun H locs hP => ?_)
    refine lv_if_eq (tgt := 121) hx hb dX5_opens_115 (by decide) (fun hc30 => ?_) (fun hc30 => ?_)
    · have hf := if_t hc30 hf
      exact wX5_opens_121 C  hK62  S29 x2 x3 ux5 x6 x7 hux5 hf _ _ _ hP (lv_sub hl [0, 1, 2, 3, 4, 5] rfl)
    · have hf := if_f hc30 hf
      refine lv_iinc (v := x6 + (nI 1)) (lv' := [(6, .int (x6 + (nI 1))), (0, .ref (Γ.2.2 (0))), (2, .int x2), (3, .int x3), (5, .ref (Γ.2.2 (ux5))), (7, .int x7)]) hx hb dX5_opens_118 hl (k := 4) rfl rfl (by decide) rfl (fun ls hl => ?_)
      exact wX5_opens_121 C  hK62  S29 x2 x3 ux5 (x6 + (nI 1)) x7 hux5 hf _ _ _ hP (lv_sub hl [1, 2, 3, 4, 0, 5] rfl)
def fX5_opens_62   : Nat → cM → Int32 → Int32 → Nat → Int32 → Int32 → Option (Int32 × cM)
  | 0, _, _, _, _, _, _ => none
  | n + 1, S, x2, x3, ux5, x6, x7 =>
    if (S.1 ux5 5) ≤ x7 then some (x6, S) else if x7 ≤ 0 then fX5_opens_86  (fX5_opens_62   n)  S x2 x3 ux5 x6 x7 else gn S.2.2 1 3 (bd (fX1_goBy S.2.2 S x2) fun v32 S32 => ( fX5_opens_86  (fX5_opens_62   n)  S32 x2 x3 ux5 x6 x7))
set_option maxHeartbeats 4000000 in
set_option maxRecDepth 100000 in
theorem wX5_opens_62 {p : Program} {l : Launch} {e : Env} {s : State} {m : MethodId} {args : Array Value} {below : List Frame} {meth : Method} {c : Code} {Γ : gG} {rz : Int32} {Sz : cM} (C : Cx Γ 74 p s m args meth c RX5 cX5_opens 9 (some .int))   : ∀ n : Nat, ∀ (S : cM) (x2 : Int32) (x3 : Int32) (ux5 : Nat) (x6 : Int32) (x7 : Int32) (hux5 : 53 ≤ ux5 ∧ ux5 ≤ 60), fX5_opens_62   n S x2 x3 ux5 x6 x7 = some (rz, Sz) → ∀ (H : Heap) (locs : List Loc) (ls : Array Slot), St Γ 74 (cE Γ S) s.heap H locs → lv_has ls 9 [(0, .ref (Γ.2.2 (0))), (2, .int x2), (3, .int x3), (5, .ref (Γ.2.2 (ux5))), (6, .int x6), (7, .int x7)] → W p l e { frames := 5, cells := 0, slots := 0, locals := 112 } s m args below meth c H locs 0 0 (MQ below (gQi Γ 74 rz (cE Γ Sz)) args s 0 0 (wA Γ 74)) (F0 m 62 ls []) := by
  obtain ⟨hx, hb, -, -, hown, hts, -, hwx, -⟩ := id C
  intro n
  induction n with
  | zero =>
    intro S x2 x3 ux5 x6 x7 hux5 hf
    unfold fX5_opens_62 at hf
    cases hf
  | succ n ih =>
    intro S x2 x3 ux5 x6 x7 hux5 hf H locs ls hP hl
    unfold fX5_opens_62 at hf
    refine lv_iload hx hb dX5_opens_62 (lv_at hl 5 rfl) ?_
    refine lv_aload hx hb dX5_opens_64 (lv_at hl 3 rfl) ?_
    refine c4_get C hP hux5 5 (by decide) k1_108 rfl (v := .int (S.1 ux5 5)) rfl dX5_opens_66 ?_
    refine lv_icmp_ge (tgt := 162) hx hb dX5_opens_69 (by decide) (fun hc12 => ?_) (fun hc12 => ?_)
    · have hf := if_t hc12 hf
      refine lv_iload hx hb dX5_opens_162 (lv_at hl 4 rfl) ?_
      exact r_iret (X := cE Γ) C hP hf dX5_opens_164
    · have hf := if_f hc12 hf
      refine lv_iload hx hb dX5_opens_72 (lv_at hl 5 rfl) ?_
      refine lv_if_le (tgt := 86) hx hb dX5_opens_74 (by decide) (fun hc13 => ?_) (fun hc13 => ?_)
      · have hf := if_t hc13 hf
        exact wX5_opens_86 C  ih  S x2 x3 ux5 x6 x7 hux5 hf _ _ _ hP (lv_sub hl [0, 1, 2, 3, 4, 5] rfl)
      · have hf := if_f hc13 hf
        refine lv_aload_n hx hb dX5_opens_77 rfl (lv_at hl 0 rfl) ?_
        refine gn_i hf (fun hN31 hf => ?_)
        refine c0_get C hP 1 (by decide) k1_128 rfl (v := .ref (Γ.2.2 (S.2.2))) rfl dX5_opens_78 ?_
        refine lv_iload_n hx hb dX5_opens_81 rfl (lv_at hl 1 rfl) ?_
        refine bd_i hf (fun v32 S32 hq32 hf => ?_)
        refine goI (runV (rest := []) (mX1_goBy l Γ hN31 hq32) C hP hl.1 (by have := hN31; omega) (cE1 hN31) rfl k2_94 qX1_goBy.1 qX1_goBy.2.1 qX1_goBy.2.2.1 qX1_goBy.2.2.2.1 rfl qX1_goBy.2.2.2.2 ⟨Nat.le_of_ble_eq_true rfl, Nat.le_of_ble_eq_true rfl⟩ ⟨Nat.le_refl 0, Nat.le_refl 0⟩ (Nat.le_of_ble_eq_true rfl) dX5_opens_82) hP (fun H locs hP => ?_)
        refine lv_pop hx hb dX5_opens_85 rfl ?_
        exact wX5_opens_86 C  ih  S32 x2 x3 ux5 x6 x7 hux5 hf _ _ _ hP (lv_sub hl [0, 1, 2, 3, 4, 5] rfl)
def fX5_opens  (S : cM) (x1 : Int32) (x2 : Int32) (x3 : Int32) : Option (Int32 × cM) :=
  if x2 < 0 then some ((-1), S) else if (nI 9) < x2 then some ((-1), S) else if x3 < 0 then some ((-1), S) else if x3 ≤ (nI 99) then bd (fX5_sortsRefusal S x1) fun v5 S5 => ( if v5 = 0 then gi x1 8 (gn S5.2.2 1 3 (gn S5.2.1 1 3 (bv (fX1_becomeLike S5.2.2 S5.2.1 S5) fun S11 => ( fX5_opens_62   lF S11 x2 x3 (53 + (x1).toNatClampNeg) (nI 0) (nI 0))))) else some (v5, S5)) else some ((-1), S)
set_option maxHeartbeats 4000000 in
set_option maxRecDepth 100000 in
theorem mX5_opens (l : Launch) (Γ : gG)   {S : cM} {x1 : Int32} {x2 : Int32} {x3 : Int32} {rz : Int32} {Sz : cM} (hf : fX5_opens S x1 x2 x3 = some (rz, Sz)) : CtI l Γ 74 yX5_opens cX5_opens 9 .int 5 112 [.ref (Γ.2.2 (0)), .int x1, .int x2, .int x3] (cE Γ S) rz (cE Γ Sz) := by
  refine met_body (Γ := Γ) (lv := [(0, .ref (Γ.2.2 (0))), (1, .int x1), (2, .int x2), (3, .int x3)]) RX5 (by decide) rfl rfl rfl ?_
  intro p e s m below meth c H locs ls C hP hl
  obtain ⟨hx, hb, -, -, hown, hts, -, hwx, -⟩ := id C
  unfold fX5_opens at hf
  refine lv_iload_n hx hb dX5_opens_0 rfl (lv_at hl 2 rfl) ?_
  refine lv_if_lt (tgt := 20) hx hb dX5_opens_1 (by decide) (fun hc1 => ?_) (fun hc1 => ?_)
  · have hf := if_t hc1 hf
    refine lv_iconst (v := (-1)) hx hb dX5_opens_20 rfl ?_
    exact r_iret (X := cE Γ) C hP hf dX5_opens_21
  · have hf := if_f hc1 hf
    refine lv_iload_n hx hb dX5_opens_4 rfl (lv_at hl 2 rfl) ?_
    refine lv_bipush (v := nI 9) hx hb dX5_opens_5 rfl ?_
    refine lv_icmp_gt (tgt := 20) hx hb dX5_opens_7 (by decide) (fun hc2 => ?_) (fun hc2 => ?_)
    · have hf := if_t hc2 hf
      refine lv_iconst (v := (-1)) hx hb dX5_opens_20 rfl ?_
      exact r_iret (X := cE Γ) C hP hf dX5_opens_21
    · have hf := if_f hc2 hf
      refine lv_iload_n hx hb dX5_opens_10 rfl (lv_at hl 3 rfl) ?_
      refine lv_if_lt (tgt := 20) hx hb dX5_opens_11 (by decide) (fun hc3 => ?_) (fun hc3 => ?_)
      · have hf := if_t hc3 hf
        refine lv_iconst (v := (-1)) hx hb dX5_opens_20 rfl ?_
        exact r_iret (X := cE Γ) C hP hf dX5_opens_21
      · have hf := if_f hc3 hf
        refine lv_iload_n hx hb dX5_opens_14 rfl (lv_at hl 3 rfl) ?_
        refine lv_bipush (v := nI 99) hx hb dX5_opens_15 rfl ?_
        refine lv_icmp_le (tgt := 22) hx hb dX5_opens_17 (by decide) (fun hc4 => ?_) (fun hc4 => ?_)
        · have hf := if_t hc4 hf
          refine lv_aload_n hx hb dX5_opens_22 rfl (lv_at hl 0 rfl) ?_
          refine lv_iload_n hx hb dX5_opens_23 rfl (lv_at hl 1 rfl) ?_
          refine bd_i hf (fun v5 S5 hq5 hf => ?_)
          refine goI (runV (rest := []) (b := 0) (mX5_sortsRefusal l Γ  hq5) C hP hl.1 (by decide) cE0 rfl k3_7 qX5_sortsRefusal.1 qX5_sortsRefusal.2.1 qX5_sortsRefusal.2.2.1 qX5_sortsRefusal.2.2.2.1 rfl qX5_sortsRefusal.2.2.2.2 ⟨Nat.le_of_ble_eq_true rfl, Nat.le_of_ble_eq_true rfl⟩ ⟨Nat.le_refl 0, Nat.le_refl 0⟩ (Nat.le_of_ble_eq_true rfl) dX5_opens_24) hP (fun H locs hP => ?_)
          refine lv_istore (lv' := [(4, .int v5), (0, .ref (Γ.2.2 (0))), (1, .int x1), (2, .int x2), (3, .int x3)]) hx hb dX5_opens_27 hl (by decide) rfl (fun ls hl => ?_)
          refine lv_iload hx hb dX5_opens_29 (lv_at hl 0 rfl) ?_
          refine lv_if_eq (tgt := 37) hx hb dX5_opens_31 (by decide) (fun hc6 => ?_) (fun hc6 => ?_)
          · have hf := if_t hc6 hf
            refine lv_aload_n hx hb dX5_opens_37 rfl (lv_at hl 1 rfl) ?_
            refine c0_get C hP 4 (by decide) k1_131 rfl (v := .ref (Γ.2.2 (52))) rfl dX5_opens_38 ?_
            refine lv_iload_n hx hb dX5_opens_41 rfl (lv_at hl 2 rfl) ?_
            refine gi_i hf (fun hi7 hj8 hf => ?_)
            refine c_aldS C hP hi7 dX5_opens_42 ?_
            refine lv_astore (lv' := [(5, .ref (Γ.2.2 (53 + (x1).toNatClampNeg))), (4, .int v5), (0, .ref (Γ.2.2 (0))), (1, .int x1), (2, .int x2), (3, .int x3)]) hx hb dX5_opens_43 hl (by decide) rfl (fun ls hl => ?_)
            refine lv_aload_n hx hb dX5_opens_45 rfl (lv_at hl 2 rfl) ?_
            refine gn_i hf (fun hN9 hf => ?_)
            refine c0_get C hP 1 (by decide) k1_128 rfl (v := .ref (Γ.2.2 (S5.2.2))) rfl dX5_opens_46 ?_
            refine lv_aload_n hx hb dX5_opens_49 rfl (lv_at hl 2 rfl) ?_
            refine gn_i hf (fun hN10 hf => ?_)
            refine c0_get C hP 0 (by decide) k1_127 rfl (v := .ref (Γ.2.2 (S5.2.1))) rfl dX5_opens_50 ?_
            refine bv_i hf (fun S11 hq11 hf => ?_)
            refine goV (runV (rest := []) (mX1_becomeLike l Γ hN9 hN10 hq11) C hP hl.1 (by have := hN9; omega) (cE1 hN9) rfl k1_189 qX1_becomeLike.1 qX1_becomeLike.2.1 qX1_becomeLike.2.2.1 qX1_becomeLike.2.2.2.1 rfl qX1_becomeLike.2.2.2.2 ⟨Nat.le_of_ble_eq_true rfl, Nat.le_of_ble_eq_true rfl⟩ ⟨Nat.le_refl 0, Nat.le_refl 0⟩ (Nat.le_of_ble_eq_true rfl) dX5_opens_53) hP (fun H locs hP => ?_)
            refine lv_iconst (v := nI 0) hx hb dX5_opens_56 rfl ?_
            refine lv_istore (lv' := [(6, .int (nI 0)), (5, .ref (Γ.2.2 (53 + (x1).toNatClampNeg))), (4, .int v5), (0, .ref (Γ.2.2 (0))), (1, .int x1), (2, .int x2), (3, .int x3)]) hx hb dX5_opens_57 hl (by decide) rfl (fun ls hl => ?_)
            refine lv_iconst (v := nI 0) hx hb dX5_opens_59 rfl ?_
            refine lv_istore (lv' := [(7, .int (nI 0)), (6, .int (nI 0)), (5, .ref (Γ.2.2 (53 + (x1).toNatClampNeg))), (4, .int v5), (0, .ref (Γ.2.2 (0))), (1, .int x1), (2, .int x2), (3, .int x3)]) hx hb dX5_opens_60 hl (by decide) rfl (fun ls hl => ?_)
            exact wX5_opens_62 C   lF S11 x2 x3 (53 + (x1).toNatClampNeg) (nI 0) (nI 0) (by omega) hf _ _ _ hP (lv_sub hl [4, 6, 7, 2, 1, 0] rfl)
          · have hf := if_f hc6 hf
            refine lv_iload hx hb dX5_opens_34 (lv_at hl 0 rfl) ?_
            exact r_iret (X := cE Γ) C hP hf dX5_opens_36
        · have hf := if_f hc4 hf
          refine lv_iconst (v := (-1)) hx hb dX5_opens_20 rfl ?_
          exact r_iret (X := cE Γ) C hP hf dX5_opens_21
-- X5_tell
theorem qX5_tell : Cond.instanceMethod yX5_tell ∈ Ub ∧ Cond.selects RX5 yX5_tell yX5_tell ∈ Ub ∧ Cond.initialized RX5 ∈ Ub ∧ Cond.code yX5_tell cX5_tell 4 (none : Option Jvm.ClassFile.FieldType) ∈ Ub ∧ (yX5_tell.cls = RX5 ∧ yX5_tell.cls ≠ "java/lang/invoke/MethodHandle" ∧ yX5_tell.cls ≠ "java/lang/invoke/VarHandle" ∧ (parseMethodDescriptor yX5_tell.desc).map (fun d => d.parameters.length) = some 1) := ⟨k3_31, ks_17, k1_1, k3_32, by decide +kernel⟩
def fX5_tell_4   : Nat → cM → Int32 → Int32 → Option cM
  | 0, _, _, _ => none
  | n + 1, S, x2, x3 =>
    if (nI 4) ≤ x3 then some S else gn S.2.1 1 3 (if (S.1 S.2.1 1) ≤ 0 then some S else gn S.2.1 1 3 (gz (S.1 S.2.1 1) (gi x3 4 (sv (cS S 72 ((x3).toNatClampNeg) (x2 - x2 / (S.1 S.2.1 1) * (S.1 S.2.1 1))) fun S8 => ( gn S8.2.1 1 3 (gz (S8.1 S8.2.1 1) ((fX5_tell_4   n) S8 (x2 / (S8.1 S8.2.1 1)) (x3 + (nI 1)))))))))
set_option maxHeartbeats 4000000 in
set_option maxRecDepth 100000 in
theorem wX5_tell_4 {p : Program} {l : Launch} {e : Env} {s : State} {m : MethodId} {args : Array Value} {below : List Frame} {meth : Method} {c : Code} {Γ : gG} {Sz : cM} (C : Cx Γ 74 p s m args meth c RX5 cX5_tell 4 none)   : ∀ n : Nat, ∀ (S : cM) (x2 : Int32) (x3 : Int32) , fX5_tell_4   n S x2 x3 = some Sz → ∀ (H : Heap) (locs : List Loc) (ls : Array Slot), St Γ 74 (cE Γ S) s.heap H locs → lv_has ls 4 [(0, .ref (Γ.2.2 (0))), (2, .int x2), (3, .int x3)] → W p l e { frames := 0, cells := 0, slots := 0, locals := 0 } s m args below meth c H locs 0 0 (MQ below (gQv Γ 74 (cE Γ Sz)) args s 0 0 (wA Γ 74)) (F0 m 4 ls []) := by
  obtain ⟨hx, hb, -, -, hown, hts, -, hwx, -⟩ := id C
  intro n
  induction n with
  | zero =>
    intro S x2 x3 hf
    unfold fX5_tell_4 at hf
    cases hf
  | succ n ih =>
    intro S x2 x3 hf H locs ls hP hl
    unfold fX5_tell_4 at hf
    refine lv_iload_n hx hb dX5_tell_4 rfl (lv_at hl 2 rfl) ?_
    refine lv_iconst (v := nI 4) hx hb dX5_tell_5 rfl ?_
    refine lv_icmp_ge (tgt := 50) hx hb dX5_tell_6 (by decide) (fun hc1 => ?_) (fun hc1 => ?_)
    · have hf := if_t hc1 hf
      exact r_vret (X := cE Γ) C hP hf dX5_tell_50
    · have hf := if_f hc1 hf
      refine lv_aload_n hx hb dX5_tell_9 rfl (lv_at hl 0 rfl) ?_
      refine gn_i hf (fun hN2 hf => ?_)
      refine c0_get C hP 0 (by decide) k1_127 rfl (v := .ref (Γ.2.2 (S.2.1))) rfl dX5_tell_10 ?_
      refine c1_get C hP hN2 1 (by decide) k1_75 rfl (v := .int (S.1 S.2.1 1)) rfl dX5_tell_13 ?_
      refine lv_if_le (tgt := 50) hx hb dX5_tell_16 (by decide) (fun hc3 => ?_) (fun hc3 => ?_)
      · have hf := if_t hc3 hf
        exact r_vret (X := cE Γ) C hP hf dX5_tell_50
      · have hf := if_f hc3 hf
        refine lv_aload_n hx hb dX5_tell_19 rfl (lv_at hl 0 rfl) ?_
        refine c0_get C hP 8 (by decide) k1_135 rfl (v := .ref (Γ.2.2 (72))) rfl dX5_tell_20 ?_
        refine lv_iload_n hx hb dX5_tell_23 rfl (lv_at hl 2 rfl) ?_
        refine lv_iload_n hx hb dX5_tell_24 rfl (lv_at hl 1 rfl) ?_
        refine lv_aload_n hx hb dX5_tell_25 rfl (lv_at hl 0 rfl) ?_
        refine gn_i hf (fun hN4 hf => ?_)
        refine c0_get C hP 0 (by decide) k1_127 rfl (v := .ref (Γ.2.2 (S.2.1))) rfl dX5_tell_26 ?_
        refine c1_get C hP hN4 1 (by decide) k1_75 rfl (v := .int (S.1 S.2.1 1)) rfl dX5_tell_29 ?_
        refine gz_i hf (fun hz5 hf => ?_)
        refine lv_irem hx hb dX5_tell_32 hz5 ?_
        refine gi_i hf (fun hi6 hj7 hf => ?_)
        refine c_ist C hP cA_72 hi6 dX5_tell_33 (fun H locs hP => ?_)
        refine sv_i hf (fun S8 e8 hf => ?_)
        rw [← e8] at hP
        refine lv_iload_n hx hb dX5_tell_34 rfl (lv_at hl 1 rfl) ?_
        refine lv_aload_n hx hb dX5_tell_35 rfl (lv_at hl 0 rfl) ?_
        refine gn_i hf (fun hN9 hf => ?_)
        refine c0_get C hP 0 (by decide) k1_127 rfl (v := .ref (Γ.2.2 (S8.2.1))) rfl dX5_tell_36 ?_
        refine c1_get C hP hN9 1 (by decide) k1_75 rfl (v := .int (S8.1 S8.2.1 1)) rfl dX5_tell_39 ?_
        refine gz_i hf (fun hz10 hf => ?_)
        refine lv_idiv hx hb dX5_tell_42 hz10 ?_
        refine lv_istore_n (lv' := [(2, .int (x2 / (S8.1 S8.2.1 1))), (0, .ref (Γ.2.2 (0))), (3, .int x3)]) hx hb dX5_tell_43 rfl hl (by decide) rfl (fun ls hl => ?_)
        refine lv_iinc (v := x3 + (nI 1)) (lv' := [(3, .int (x3 + (nI 1))), (2, .int (x2 / (S8.1 S8.2.1 1))), (0, .ref (Γ.2.2 (0)))]) hx hb dX5_tell_44 hl (k := 2) rfl rfl (by decide) rfl (fun ls hl => ?_)
        refine lv_goto (tgt := 4) hx hb dX5_tell_47 (by decide) ?_
        exact ih S8 (x2 / (S8.1 S8.2.1 1)) (x3 + (nI 1))  hf _ _ _ hP (lv_sub hl [2, 1, 0] rfl)
def fX5_tell  (S : cM) (x1 : Int32) : Option cM :=
  fX5_tell_4   lF S x1 (nI 0)
set_option maxHeartbeats 4000000 in
set_option maxRecDepth 100000 in
theorem mX5_tell (l : Launch) (Γ : gG)   {S : cM} {x1 : Int32} {Sz : cM} (hf : fX5_tell S x1 = some Sz) : CtV l Γ 74 yX5_tell cX5_tell 4 0 0 [.ref (Γ.2.2 (0)), .int x1] (cE Γ S) (cE Γ Sz) := by
  refine met_body (Γ := Γ) (lv := [(0, .ref (Γ.2.2 (0))), (1, .int x1)]) RX5 (by decide) rfl rfl rfl ?_
  intro p e s m below meth c H locs ls C hP hl
  obtain ⟨hx, hb, -, -, hown, hts, -, hwx, -⟩ := id C
  unfold fX5_tell at hf
  refine lv_iload_n hx hb dX5_tell_0 rfl (lv_at hl 1 rfl) ?_
  refine lv_istore_n (lv' := [(2, .int x1), (0, .ref (Γ.2.2 (0))), (1, .int x1)]) hx hb dX5_tell_1 rfl hl (by decide) rfl (fun ls hl => ?_)
  refine lv_iconst (v := nI 0) hx hb dX5_tell_2 rfl ?_
  refine lv_istore_n (lv' := [(3, .int (nI 0)), (2, .int x1), (0, .ref (Γ.2.2 (0))), (1, .int x1)]) hx hb dX5_tell_3 rfl hl (by decide) rfl (fun ls hl => ?_)
  exact wX5_tell_4 C   lF S x1 (nI 0)  hf _ _ _ hP (lv_sub hl [2, 1, 0] rfl)
-- X5_asDigits
theorem qX5_asDigits : Cond.instanceMethod yX5_asDigits ∈ Ub ∧ Cond.selects RX5 yX5_asDigits yX5_asDigits ∈ Ub ∧ Cond.initialized RX5 ∈ Ub ∧ Cond.code yX5_asDigits cX5_asDigits 4 (some FieldType.int) ∈ Ub ∧ (yX5_asDigits.cls = RX5 ∧ yX5_asDigits.cls ≠ "java/lang/invoke/MethodHandle" ∧ yX5_asDigits.cls ≠ "java/lang/invoke/VarHandle" ∧ (parseMethodDescriptor yX5_asDigits.desc).map (fun d => d.parameters.length) = some 1) := ⟨k3_35, ks_18, k1_1, k3_36, by decide +kernel⟩
def fX5_asDigits_9   : Nat → cM → Int32 → Int32 → Option (Int32 × cM)
  | 0, _, _, _ => none
  | n + 1, S, x2, x3 =>
    if x3 < 0 then some (x2, S) else gi x3 4 ((fX5_asDigits_9   n) S (((nI 10) * x2) + (S.1 72 (x3).toNatClampNeg)) (x3 + (-1)))
set_option maxHeartbeats 4000000 in
set_option maxRecDepth 100000 in
theorem wX5_asDigits_9 {p : Program} {l : Launch} {e : Env} {s : State} {m : MethodId} {args : Array Value} {below : List Frame} {meth : Method} {c : Code} {Γ : gG} {rz : Int32} {Sz : cM} (C : Cx Γ 74 p s m args meth c RX5 cX5_asDigits 4 (some .int))   : ∀ n : Nat, ∀ (S : cM) (x2 : Int32) (x3 : Int32) , fX5_asDigits_9   n S x2 x3 = some (rz, Sz) → ∀ (H : Heap) (locs : List Loc) (ls : Array Slot), St Γ 74 (cE Γ S) s.heap H locs → lv_has ls 4 [(0, .ref (Γ.2.2 (0))), (2, .int x2), (3, .int x3)] → W p l e { frames := 1, cells := 0, slots := 0, locals := 23 } s m args below meth c H locs 0 0 (MQ below (gQi Γ 74 rz (cE Γ Sz)) args s 0 0 (wA Γ 74)) (F0 m 9 ls []) := by
  obtain ⟨hx, hb, -, -, hown, hts, -, hwx, -⟩ := id C
  intro n
  induction n with
  | zero =>
    intro S x2 x3 hf
    unfold fX5_asDigits_9 at hf
    cases hf
  | succ n ih =>
    intro S x2 x3 hf H locs ls hP hl
    unfold fX5_asDigits_9 at hf
    refine lv_iload_n hx hb dX5_asDigits_9 rfl (lv_at hl 2 rfl) ?_
    refine lv_if_lt (tgt := 31) hx hb dX5_asDigits_10 (by decide) (fun hc2 => ?_) (fun hc2 => ?_)
    · have hf := if_t hc2 hf
      refine lv_iload_n hx hb dX5_asDigits_31 rfl (lv_at hl 1 rfl) ?_
      exact r_iret (X := cE Γ) C hP hf dX5_asDigits_32
    · have hf := if_f hc2 hf
      refine lv_bipush (v := nI 10) hx hb dX5_asDigits_13 rfl ?_
      refine lv_iload_n hx hb dX5_asDigits_15 rfl (lv_at hl 1 rfl) ?_
      refine lv_imul hx hb dX5_asDigits_16 ?_
      refine lv_aload_n hx hb dX5_asDigits_17 rfl (lv_at hl 0 rfl) ?_
      refine c0_get C hP 8 (by decide) k1_135 rfl (v := .ref (Γ.2.2 (72))) rfl dX5_asDigits_18 ?_
      refine lv_iload_n hx hb dX5_asDigits_21 rfl (lv_at hl 2 rfl) ?_
      refine gi_i hf (fun hi3 hj4 hf => ?_)
      refine c_ild C hP cA_72 hi3 dX5_asDigits_22 ?_
      refine lv_iadd hx hb dX5_asDigits_23 ?_
      refine lv_istore_n (lv' := [(2, .int (((nI 10) * x2) + (S.1 72 (x3).toNatClampNeg))), (0, .ref (Γ.2.2 (0))), (3, .int x3)]) hx hb dX5_asDigits_24 rfl hl (by decide) rfl (fun ls hl => ?_)
      refine lv_iinc (v := x3 + (-1)) (lv' := [(3, .int (x3 + (-1))), (2, .int (((nI 10) * x2) + (S.1 72 (x3).toNatClampNeg))), (0, .ref (Γ.2.2 (0)))]) hx hb dX5_asDigits_25 hl (k := 2) rfl rfl (by decide) rfl (fun ls hl => ?_)
      refine lv_goto (tgt := 9) hx hb dX5_asDigits_28 (by decide) ?_
      exact ih S (((nI 10) * x2) + (S.1 72 (x3).toNatClampNeg)) (x3 + (-1))  hf _ _ _ hP (lv_sub hl [2, 1, 0] rfl)
def fX5_asDigits  (S : cM) (x1 : Int32) : Option (Int32 × cM) :=
  bv (fX5_tell S x1) fun S1 => ( fX5_asDigits_9   lF S1 (nI 0) (nI 3))
set_option maxHeartbeats 4000000 in
set_option maxRecDepth 100000 in
theorem mX5_asDigits (l : Launch) (Γ : gG)   {S : cM} {x1 : Int32} {rz : Int32} {Sz : cM} (hf : fX5_asDigits S x1 = some (rz, Sz)) : CtI l Γ 74 yX5_asDigits cX5_asDigits 4 .int 1 23 [.ref (Γ.2.2 (0)), .int x1] (cE Γ S) rz (cE Γ Sz) := by
  refine met_body (Γ := Γ) (lv := [(0, .ref (Γ.2.2 (0))), (1, .int x1)]) RX5 (by decide) rfl rfl rfl ?_
  intro p e s m below meth c H locs ls C hP hl
  obtain ⟨hx, hb, -, -, hown, hts, -, hwx, -⟩ := id C
  unfold fX5_asDigits at hf
  refine lv_aload_n hx hb dX5_asDigits_0 rfl (lv_at hl 0 rfl) ?_
  refine lv_iload_n hx hb dX5_asDigits_1 rfl (lv_at hl 1 rfl) ?_
  refine bv_i hf (fun S1 hq1 hf => ?_)
  refine goV (runV (rest := []) (b := 0) (mX5_tell l Γ  hq1) C hP hl.1 (by decide) cE0 rfl k3_29 qX5_tell.1 qX5_tell.2.1 qX5_tell.2.2.1 qX5_tell.2.2.2.1 rfl qX5_tell.2.2.2.2 ⟨Nat.le_of_ble_eq_true rfl, Nat.le_of_ble_eq_true rfl⟩ ⟨Nat.le_refl 0, Nat.le_refl 0⟩ (Nat.le_of_ble_eq_true rfl) dX5_asDigits_2) hP (fun H locs hP => ?_)
  refine lv_iconst (v := nI 0) hx hb dX5_asDigits_5 rfl ?_
  refine lv_istore_n (lv' := [(2, .int (nI 0)), (0, .ref (Γ.2.2 (0))), (1, .int x1)]) hx hb dX5_asDigits_6 rfl hl (by decide) rfl (fun ls hl => ?_)
  refine lv_iconst (v := nI 3) hx hb dX5_asDigits_7 rfl ?_
  refine lv_istore_n (lv' := [(3, .int (nI 3)), (2, .int (nI 0)), (0, .ref (Γ.2.2 (0))), (1, .int x1)]) hx hb dX5_asDigits_8 rfl hl (by decide) rfl (fun ls hl => ?_)
  exact wX5_asDigits_9 C   lF S1 (nI 0) (nI 3)  hf _ _ _ hP (lv_sub hl [2, 1, 0] rfl)
-- X5_toldSum
theorem qX5_toldSum : Cond.instanceMethod yX5_toldSum ∈ Ub ∧ Cond.selects RX5 yX5_toldSum yX5_toldSum ∈ Ub ∧ Cond.initialized RX5 ∈ Ub ∧ Cond.code yX5_toldSum cX5_toldSum 6 (some FieldType.int) ∈ Ub ∧ (yX5_toldSum.cls = RX5 ∧ yX5_toldSum.cls ≠ "java/lang/invoke/MethodHandle" ∧ yX5_toldSum.cls ≠ "java/lang/invoke/VarHandle" ∧ (parseMethodDescriptor yX5_toldSum.desc).map (fun d => d.parameters.length) = some 2) := ⟨k3_27, ks_16, k1_1, k3_28, by decide +kernel⟩
def fX5_toldSum_36 (u2 : Nat)  : Nat → cM → Int32 → Int32 → Option (Int32 × cM)
  | 0, _, _, _ => none
  | n + 1, S, x3, x4 =>
    if (S.1 u2 5) ≤ x4 then some (x3, S) else gi x4 100 (gi (S.1 (u2 + 8) (x4).toNatClampNeg) 4 (bd (fX5_goTo S (S.1 72 (S.1 (u2 + 8) (x4).toNatClampNeg).toNatClampNeg) (S.1 (u2 + 8) (x4).toNatClampNeg)) fun v9 S9 => ( (fX5_toldSum_36 u2  n) S9 (x3 + v9) (x4 + (nI 1)))))
set_option maxHeartbeats 4000000 in
set_option maxRecDepth 100000 in
theorem wX5_toldSum_36 {p : Program} {l : Launch} {e : Env} {s : State} {m : MethodId} {args : Array Value} {below : List Frame} {meth : Method} {c : Code} {Γ : gG} {rz : Int32} {Sz : cM} (C : Cx Γ 74 p s m args meth c RX5 cX5_toldSum 6 (some .int)) {u2 : Nat} (hu2 : 53 ≤ u2 ∧ u2 ≤ 60)  : ∀ n : Nat, ∀ (S : cM) (x3 : Int32) (x4 : Int32) , fX5_toldSum_36 u2  n S x3 x4 = some (rz, Sz) → ∀ (H : Heap) (locs : List Loc) (ls : Array Slot), St Γ 74 (cE Γ S) s.heap H locs → lv_has ls 6 [(0, .ref (Γ.2.2 (0))), (2, .ref (Γ.2.2 (u2))), (3, .int x3), (4, .int x4)] → W p l e { frames := 2, cells := 0, slots := 0, locals := 43 } s m args below meth c H locs 0 0 (MQ below (gQi Γ 74 rz (cE Γ Sz)) args s 0 0 (wA Γ 74)) (F0 m 36 ls []) := by
  obtain ⟨hx, hb, -, -, hown, hts, -, hwx, -⟩ := id C
  intro n
  induction n with
  | zero =>
    intro S x3 x4 hf
    unfold fX5_toldSum_36 at hf
    cases hf
  | succ n ih =>
    intro S x3 x4 hf H locs ls hP hl
    unfold fX5_toldSum_36 at hf
    refine lv_iload hx hb dX5_toldSum_36 (lv_at hl 3 rfl) ?_
    refine lv_aload_n hx hb dX5_toldSum_38 rfl (lv_at hl 1 rfl) ?_
    refine c4_get C hP hu2 5 (by decide) k1_108 rfl (v := .int (S.1 u2 5)) rfl dX5_toldSum_39 ?_
    refine lv_icmp_ge (tgt := 76) hx hb dX5_toldSum_42 (by decide) (fun hc4 => ?_) (fun hc4 => ?_)
    · have hf := if_t hc4 hf
      refine lv_iload_n hx hb dX5_toldSum_76 rfl (lv_at hl 2 rfl) ?_
      exact r_iret (X := cE Γ) C hP hf dX5_toldSum_77
    · have hf := if_f hc4 hf
      refine lv_aload_n hx hb dX5_toldSum_45 rfl (lv_at hl 1 rfl) ?_
      refine c4_get C hP hu2 6 (by decide) k1_111 rfl (v := .ref (Γ.2.2 (u2 + 8))) rfl dX5_toldSum_46 ?_
      refine lv_iload hx hb dX5_toldSum_49 (lv_at hl 3 rfl) ?_
      refine gi_i hf (fun hi5 hj6 hf => ?_)
      refine c_ild C hP (cA_va hu2) hi5 dX5_toldSum_51 ?_
      refine lv_istore (lv' := [(5, .int (S.1 (u2 + 8) (x4).toNatClampNeg)), (0, .ref (Γ.2.2 (0))), (2, .ref (Γ.2.2 (u2))), (3, .int x3), (4, .int x4)]) hx hb dX5_toldSum_52 hl (by decide) rfl (fun ls hl => ?_)
      refine lv_iload_n hx hb dX5_toldSum_54 rfl (lv_at hl 3 rfl) ?_
      refine lv_aload_n hx hb dX5_toldSum_55 rfl (lv_at hl 1 rfl) ?_
      refine lv_aload_n hx hb dX5_toldSum_56 rfl (lv_at hl 1 rfl) ?_
      refine c0_get C hP 8 (by decide) k1_135 rfl (v := .ref (Γ.2.2 (72))) rfl dX5_toldSum_57 ?_
      refine lv_iload hx hb dX5_toldSum_60 (lv_at hl 0 rfl) ?_
      refine gi_i hf (fun hi7 hj8 hf => ?_)
      refine c_ild C hP cA_72 hi7 dX5_toldSum_62 ?_
      refine lv_iload hx hb dX5_toldSum_63 (lv_at hl 0 rfl) ?_
      refine bd_i hf (fun v9 S9 hq9 hf => ?_)
      refine goI (runV (rest := [.int x3]) (b := 0) (mX5_goTo l Γ  hq9) C hP hl.1 (by decide) cE0 rfl k2_225 qX5_goTo.1 qX5_goTo.2.1 qX5_goTo.2.2.1 qX5_goTo.2.2.2.1 rfl qX5_goTo.2.2.2.2 ⟨Nat.le_of_ble_eq_true rfl, Nat.le_of_ble_eq_true rfl⟩ ⟨Nat.le_refl 0, Nat.le_refl 0⟩ (Nat.le_of_ble_eq_true rfl) dX5_toldSum_65) hP (fun H locs hP => ?_)
      refine lv_iadd hx hb dX5_toldSum_68 ?_
      refine lv_istore_n (lv' := [(3, .int (x3 + v9)), (5, .int (S.1 (u2 + 8) (x4).toNatClampNeg)), (0, .ref (Γ.2.2 (0))), (2, .ref (Γ.2.2 (u2))), (4, .int x4)]) hx hb dX5_toldSum_69 rfl hl (by decide) rfl (fun ls hl => ?_)
      refine lv_iinc (v := x4 + (nI 1)) (lv' := [(4, .int (x4 + (nI 1))), (3, .int (x3 + v9)), (5, .int (S.1 (u2 + 8) (x4).toNatClampNeg)), (0, .ref (Γ.2.2 (0))), (2, .ref (Γ.2.2 (u2)))]) hx hb dX5_toldSum_70 hl (k := 4) rfl rfl (by decide) rfl (fun ls hl => ?_)
      refine lv_goto (tgt := 36) hx hb dX5_toldSum_73 (by decide) ?_
      exact ih S9 (x3 + v9) (x4 + (nI 1))  hf _ _ _ hP (lv_sub hl [3, 4, 1, 0] rfl)
def fX5_toldSum_7 (u2 : Nat)  : Nat → cM → Int32 → Option (Int32 × cM)
  | 0, _, _ => none
  | n + 1, S, x3 =>
    gn S.2.1 1 3 (if (S.1 S.2.1 1) ≤ x3 then fX5_toldSum_36 u2  lF S (nI 0) (nI 0) else gi x3 5 (sv (cS S 69 ((x3).toNatClampNeg) (nI 0)) fun S12 => ( (fX5_toldSum_7 u2  n) S12 (x3 + (nI 1)))))
set_option maxHeartbeats 4000000 in
set_option maxRecDepth 100000 in
theorem wX5_toldSum_7 {p : Program} {l : Launch} {e : Env} {s : State} {m : MethodId} {args : Array Value} {below : List Frame} {meth : Method} {c : Code} {Γ : gG} {rz : Int32} {Sz : cM} (C : Cx Γ 74 p s m args meth c RX5 cX5_toldSum 6 (some .int)) {u2 : Nat} (hu2 : 53 ≤ u2 ∧ u2 ≤ 60)  : ∀ n : Nat, ∀ (S : cM) (x3 : Int32) , fX5_toldSum_7 u2  n S x3 = some (rz, Sz) → ∀ (H : Heap) (locs : List Loc) (ls : Array Slot), St Γ 74 (cE Γ S) s.heap H locs → lv_has ls 6 [(0, .ref (Γ.2.2 (0))), (2, .ref (Γ.2.2 (u2))), (3, .int x3)] → W p l e { frames := 2, cells := 0, slots := 0, locals := 43 } s m args below meth c H locs 0 0 (MQ below (gQi Γ 74 rz (cE Γ Sz)) args s 0 0 (wA Γ 74)) (F0 m 7 ls []) := by
  obtain ⟨hx, hb, -, -, hown, hts, -, hwx, -⟩ := id C
  intro n
  induction n with
  | zero =>
    intro S x3 hf
    unfold fX5_toldSum_7 at hf
    cases hf
  | succ n ih =>
    intro S x3 hf H locs ls hP hl
    unfold fX5_toldSum_7 at hf
    refine lv_iload_n hx hb dX5_toldSum_7 rfl (lv_at hl 2 rfl) ?_
    refine lv_aload_n hx hb dX5_toldSum_8 rfl (lv_at hl 0 rfl) ?_
    refine gn_i hf (fun hN2 hf => ?_)
    refine c0_get C hP 0 (by decide) k1_127 rfl (v := .ref (Γ.2.2 (S.2.1))) rfl dX5_toldSum_9 ?_
    refine c1_get C hP hN2 1 (by decide) k1_75 rfl (v := .int (S.1 S.2.1 1)) rfl dX5_toldSum_12 ?_
    refine lv_icmp_ge (tgt := 31) hx hb dX5_toldSum_15 (by decide) (fun hc3 => ?_) (fun hc3 => ?_)
    · have hf := if_t hc3 hf
      refine lv_iconst (v := nI 0) hx hb dX5_toldSum_31 rfl ?_
      refine lv_istore_n (lv' := [(3, .int (nI 0)), (0, .ref (Γ.2.2 (0))), (2, .ref (Γ.2.2 (u2)))]) hx hb dX5_toldSum_32 rfl hl (by decide) rfl (fun ls hl => ?_)
      refine lv_iconst (v := nI 0) hx hb dX5_toldSum_33 rfl ?_
      refine lv_istore (lv' := [(4, .int (nI 0)), (3, .int (nI 0)), (0, .ref (Γ.2.2 (0))), (2, .ref (Γ.2.2 (u2)))]) hx hb dX5_toldSum_34 hl (by decide) rfl (fun ls hl => ?_)
      exact wX5_toldSum_36 C hu2  lF S (nI 0) (nI 0)  hf _ _ _ hP (lv_sub hl [2, 3, 1, 0] rfl)
    · have hf := if_f hc3 hf
      refine lv_aload_n hx hb dX5_toldSum_18 rfl (lv_at hl 0 rfl) ?_
      refine c0_get C hP 5 (by decide) k1_132 rfl (v := .ref (Γ.2.2 (69))) rfl dX5_toldSum_19 ?_
      refine lv_iload_n hx hb dX5_toldSum_22 rfl (lv_at hl 2 rfl) ?_
      refine lv_iconst (v := nI 0) hx hb dX5_toldSum_23 rfl ?_
      refine gi_i hf (fun hi10 hj11 hf => ?_)
      refine c_ist C hP cA_69 hi10 dX5_toldSum_24 (fun H locs hP => ?_)
      refine sv_i hf (fun S12 e12 hf => ?_)
      rw [← e12] at hP
      refine lv_iinc (v := x3 + (nI 1)) (lv' := [(3, .int (x3 + (nI 1))), (0, .ref (Γ.2.2 (0))), (2, .ref (Γ.2.2 (u2)))]) hx hb dX5_toldSum_25 hl (k := 2) rfl rfl (by decide) rfl (fun ls hl => ?_)
      refine lv_goto (tgt := 7) hx hb dX5_toldSum_28 (by decide) ?_
      exact ih S12 (x3 + (nI 1))  hf _ _ _ hP (lv_sub hl [1, 2, 0] rfl)
def fX5_toldSum (u2 : Nat) (S : cM) (x1 : Int32) : Option (Int32 × cM) :=
  bv (fX5_tell S x1) fun S1 => ( fX5_toldSum_7 u2  lF S1 (nI 0))
set_option maxHeartbeats 4000000 in
set_option maxRecDepth 100000 in
theorem mX5_toldSum (l : Launch) (Γ : gG) {u2 : Nat} (hu2 : 53 ≤ u2 ∧ u2 ≤ 60) {S : cM} {x1 : Int32} {rz : Int32} {Sz : cM} (hf : fX5_toldSum u2 S x1 = some (rz, Sz)) : CtI l Γ 74 yX5_toldSum cX5_toldSum 6 .int 2 43 [.ref (Γ.2.2 (0)), .int x1, .ref (Γ.2.2 (u2))] (cE Γ S) rz (cE Γ Sz) := by
  refine met_body (Γ := Γ) (lv := [(0, .ref (Γ.2.2 (0))), (1, .int x1), (2, .ref (Γ.2.2 (u2)))]) RX5 (by decide) rfl rfl rfl ?_
  intro p e s m below meth c H locs ls C hP hl
  obtain ⟨hx, hb, -, -, hown, hts, -, hwx, -⟩ := id C
  unfold fX5_toldSum at hf
  refine lv_aload_n hx hb dX5_toldSum_0 rfl (lv_at hl 0 rfl) ?_
  refine lv_iload_n hx hb dX5_toldSum_1 rfl (lv_at hl 1 rfl) ?_
  refine bv_i hf (fun S1 hq1 hf => ?_)
  refine goV (runV (rest := []) (b := 0) (mX5_tell l Γ  hq1) C hP hl.1 (by decide) cE0 rfl k3_29 qX5_tell.1 qX5_tell.2.1 qX5_tell.2.2.1 qX5_tell.2.2.2.1 rfl qX5_tell.2.2.2.2 ⟨Nat.le_of_ble_eq_true rfl, Nat.le_of_ble_eq_true rfl⟩ ⟨Nat.le_refl 0, Nat.le_refl 0⟩ (Nat.le_of_ble_eq_true rfl) dX5_toldSum_2) hP (fun H locs hP => ?_)
  refine lv_iconst (v := nI 0) hx hb dX5_toldSum_5 rfl ?_
  refine lv_istore_n (lv' := [(3, .int (nI 0)), (0, .ref (Γ.2.2 (0))), (1, .int x1), (2, .ref (Γ.2.2 (u2)))]) hx hb dX5_toldSum_6 rfl hl (by decide) rfl (fun ls hl => ?_)
  exact wX5_toldSum_7 C hu2  lF S1 (nI 0)  hf _ _ _ hP (lv_sub hl [1, 3, 0] rfl)
-- X5_bySorts
theorem qX5_bySorts : Cond.instanceMethod yX5_bySorts ∈ Ub ∧ Cond.selects RX5 yX5_bySorts yX5_bySorts ∈ Ub ∧ Cond.initialized RX5 ∈ Ub ∧ Cond.code yX5_bySorts cX5_bySorts 9 (some FieldType.int) ∈ Ub ∧ (yX5_bySorts.cls = RX5 ∧ yX5_bySorts.cls ≠ "java/lang/invoke/MethodHandle" ∧ yX5_bySorts.cls ≠ "java/lang/invoke/VarHandle" ∧ (parseMethodDescriptor yX5_bySorts.desc).map (fun d => d.parameters.length) = some 2) := ⟨k3_22, k3_23, k1_1, k3_24, by decide +kernel⟩
def fX5_bySorts_95  (K59 : cM → Int32 → Int32 → Int32 → Int32 → Int32 → Int32 → Option (Int32 × cM)) (S : cM) (x1 : Int32) (x2 : Int32) (x4 : Int32) (x5 : Int32) (x6 : Int32) (x7 : Int32) : Option (Int32 × cM) :=
  K59 S x1 x2 x4 x5 x6 (x7 + (nI 1))
set_option maxHeartbeats 4000000 in
set_option maxRecDepth 100000 in
theorem wX5_bySorts_95 {p : Program} {l : Launch} {e : Env} {s : State} {m : MethodId} {args : Array Value} {below : List Frame} {meth : Method} {c : Code} {Γ : gG} {rz : Int32} {Sz : cM} (C : Cx Γ 74 p s m args meth c RX5 cX5_bySorts 9 (some .int))  {K59 : cM → Int32 → Int32 → Int32 → Int32 → Int32 → Int32 → Option (Int32 × cM)} (hK59 : ∀ (S : cM) (x1 : Int32) (x2 : Int32) (x4 : Int32) (x5 : Int32) (x6 : Int32) (x7 : Int32) , K59 S x1 x2 x4 x5 x6 x7 = some (rz, Sz) → ∀ (H : Heap) (locs : List Loc) (ls : Array Slot), St Γ 74 (cE Γ S) s.heap H locs → lv_has ls 9 [(0, .ref (Γ.2.2 (0))), (1, .int x1), (2, .int x2), (4, .int x4), (5, .int x5), (6, .int x6), (7, .int x7)] → W p l e { frames := 5, cells := 0, slots := 0, locals := 109 } s m args below meth c H locs 0 0 (MQ below (gQi Γ 74 rz (cE Γ Sz)) args s 0 0 (wA Γ 74)) (F0 m 59 ls [])) : ∀ (S : cM) (x1 : Int32) (x2 : Int32) (x4 : Int32) (x5 : Int32) (x6 : Int32) (x7 : Int32) , fX5_bySorts_95  K59 S x1 x2 x4 x5 x6 x7 = some (rz, Sz) → ∀ (H : Heap) (locs : List Loc) (ls : Array Slot), St Γ 74 (cE Γ S) s.heap H locs → lv_has ls 9 [(0, .ref (Γ.2.2 (0))), (1, .int x1), (2, .int x2), (4, .int x4), (5, .int x5), (6, .int x6), (7, .int x7)] → W p l e { frames := 5, cells := 0, slots := 0, locals := 109 } s m args below meth c H locs 0 0 (MQ below (gQi Γ 74 rz (cE Γ Sz)) args s 0 0 (wA Γ 74)) (F0 m 95 ls []) := by
  obtain ⟨hx, hb, -, -, hown, hts, -, hwx, -⟩ := id C
  intro S x1 x2 x4 x5 x6 x7 hf H locs ls hP hl
  unfold fX5_bySorts_95 at hf
  refine lv_iinc (v := x7 + (nI 1)) (lv' := [(7, .int (x7 + (nI 1))), (0, .ref (Γ.2.2 (0))), (1, .int x1), (2, .int x2), (4, .int x4), (5, .int x5), (6, .int x6)]) hx hb dX5_bySorts_95 hl (k := 6) rfl rfl (by decide) rfl (fun ls hl => ?_)
  refine lv_goto (tgt := 59) hx hb dX5_bySorts_98 (by decide) ?_
  exact hK59 S x1 x2 x4 x5 x6 (x7 + (nI 1))  hf _ _ _ hP (lv_sub hl [1, 2, 3, 4, 5, 6, 0] rfl)
def fX5_bySorts_59   : Nat → cM → Int32 → Int32 → Int32 → Int32 → Int32 → Int32 → Option (Int32 × cM)
  | 0, _, _, _, _, _, _, _ => none
  | n + 1, S, x1, x2, x4, x5, x6, x7 =>
    if x4 ≤ x7 then if x2 = 0 then bd (fX5_asDigits S x5) fun v11 S11 => ( some (v11, S11)) else some (x6, S) else gi x1 8 (bd (fX5_toldSum (53 + (x1).toNatClampNeg) S x7) fun v14 S14 => ( if x6 ≤ v14 then fX5_bySorts_95  (fX5_bySorts_59   n)  S14 x1 x2 x4 x5 x6 x7 else fX5_bySorts_95  (fX5_bySorts_59   n)  S14 x1 x2 x4 x7 v14 x7))
set_option maxHeartbeats 4000000 in
set_option maxRecDepth 100000 in
theorem wX5_bySorts_59 {p : Program} {l : Launch} {e : Env} {s : State} {m : MethodId} {args : Array Value} {below : List Frame} {meth : Method} {c : Code} {Γ : gG} {rz : Int32} {Sz : cM} (C : Cx Γ 74 p s m args meth c RX5 cX5_bySorts 9 (some .int))   : ∀ n : Nat, ∀ (S : cM) (x1 : Int32) (x2 : Int32) (x4 : Int32) (x5 : Int32) (x6 : Int32) (x7 : Int32) , fX5_bySorts_59   n S x1 x2 x4 x5 x6 x7 = some (rz, Sz) → ∀ (H : Heap) (locs : List Loc) (ls : Array Slot), St Γ 74 (cE Γ S) s.heap H locs → lv_has ls 9 [(0, .ref (Γ.2.2 (0))), (1, .int x1), (2, .int x2), (4, .int x4), (5, .int x5), (6, .int x6), (7, .int x7)] → W p l e { frames := 5, cells := 0, slots := 0, locals := 109 } s m args below meth c H locs 0 0 (MQ below (gQi Γ 74 rz (cE Γ Sz)) args s 0 0 (wA Γ 74)) (F0 m 59 ls []) := by
  obtain ⟨hx, hb, -, -, hown, hts, -, hwx, -⟩ := id C
  intro n
  induction n with
  | zero =>
    intro S x1 x2 x4 x5 x6 x7 hf
    unfold fX5_bySorts_59 at hf
    cases hf
  | succ n ih =>
    intro S x1 x2 x4 x5 x6 x7 hf H locs ls hP hl
    unfold fX5_bySorts_59 at hf
    refine lv_iload hx hb dX5_bySorts_59 (lv_at hl 6 rfl) ?_
    refine lv_iload hx hb dX5_bySorts_61 (lv_at hl 3 rfl) ?_
    refine lv_icmp_ge (tgt := 101) hx hb dX5_bySorts_63 (by decide) (fun hc9 => ?_) (fun hc9 => ?_)
    · have hf := if_t hc9 hf
      refine lv_iload_n hx hb dX5_bySorts_101 rfl (lv_at hl 2 rfl) ?_
      refine lv_if_ne (tgt := 114) hx hb dX5_bySorts_102 (by decide) (fun hc10 => ?_) (fun hc10 => ?_)
      · have hf := if_f hc10 hf
        refine lv_iload hx hb dX5_bySorts_114 (lv_at hl 5 rfl) ?_
        exact r_iret (X := cE Γ) C hP hf dX5_bySorts_116
      · have hf := if_t hc10 hf
        refine lv_aload_n hx hb dX5_bySorts_105 rfl (lv_at hl 0 rfl) ?_
        refine lv_iload hx hb dX5_bySorts_106 (lv_at hl 4 rfl) ?_
        refine bd_i hf (fun v11 S11 hq11 hf => ?_)
        refine goI (runV (rest := []) (b := 0) (mX5_asDigits l Γ  hq11) C hP hl.1 (by decide) cE0 rfl k3_33 qX5_asDigits.1 qX5_asDigits.2.1 qX5_asDigits.2.2.1 qX5_asDigits.2.2.2.1 rfl qX5_asDigits.2.2.2.2 ⟨Nat.le_of_ble_eq_true rfl, Nat.le_of_ble_eq_true rfl⟩ ⟨Nat.le_refl 0, Nat.le_refl 0⟩ (Nat.le_of_ble_eq_true rfl) dX5_bySorts_108) hP (fun H locs hP => ?_)
        refine lv_goto (tgt := 116) hx hb dX5_bySorts_111 (by decide) ?_
        exact r_iret (X := cE Γ) C hP hf dX5_bySorts_116
    · have hf := if_f hc9 hf
      refine lv_aload_n hx hb dX5_bySorts_66 rfl (lv_at hl 0 rfl) ?_
      refine lv_iload hx hb dX5_bySorts_67 (lv_at hl 6 rfl) ?_
      refine lv_aload_n hx hb dX5_bySorts_69 rfl (lv_at hl 0 rfl) ?_
      refine c0_get C hP 4 (by decide) k1_131 rfl (v := .ref (Γ.2.2 (52))) rfl dX5_bySorts_70 ?_
      refine lv_iload_n hx hb dX5_bySorts_73 rfl (lv_at hl 1 rfl) ?_
      refine gi_i hf (fun hi12 hj13 hf => ?_)
      refine c_aldS C hP hi12 dX5_bySorts_74 ?_
      refine bd_i hf (fun v14 S14 hq14 hf => ?_)
      refine goI (runV (rest := []) (b := 0) (mX5_toldSum l Γ (by omega) hq14) C hP hl.1 (by decide) cE0 rfl k3_25 qX5_toldSum.1 qX5_toldSum.2.1 qX5_toldSum.2.2.1 qX5_toldSum.2.2.2.1 rfl qX5_toldSum.2.2.2.2 ⟨Nat.le_of_ble_eq_true rfl, Nat.le_of_ble_eq_true rfl⟩ ⟨Nat.le_refl 0, Nat.le_refl 0⟩ (Nat.le_of_ble_eq_true rfl) dX5_bySorts_75) hP (fun H locs hP => ?_)
      refine lv_istore (lv' := [(8, .int v14), (0, .ref (Γ.2.2 (0))), (1, .int x1), (2, .int x2), (4, .int x4), (5, .int x5), (6, .int x6), (7, .int x7)]) hx hb dX5_bySorts_78 hl (by decide) rfl (fun ls hl => ?_)
      refine lv_iload hx hb dX5_bySorts_80 (lv_at hl 0 rfl) ?_
      refine lv_iload hx hb dX5_bySorts_82 (lv_at hl 6 rfl) ?_
      refine lv_icmp_ge (tgt := 95) hx hb dX5_bySorts_84 (by decide) (fun hc15 => ?_) (fun hc15 => ?_)
      · have hf := if_t hc15 hf
        exact wX5_bySorts_95 C  ih  S14 x1 x2 x4 x5 x6 x7  hf _ _ _ hP (lv_sub hl [1, 2, 3, 4, 5, 6, 7] rfl)
      · have hf := if_f hc15 hf
        refine lv_iload hx hb dX5_bySorts_87 (lv_at hl 0 rfl) ?_
        refine lv_istore (lv' := [(6, .int v14), (8, .int v14), (0, .ref (Γ.2.2 (0))), (1, .int x1), (2, .int x2), (4, .int x4), (5, .int x5), (7, .int x7)]) hx hb dX5_bySorts_89 hl (by decide) rfl (fun ls hl => ?_)
        refine lv_iload hx hb dX5_bySorts_91 (lv_at hl 7 rfl) ?_
        refine lv_istore (lv' := [(5, .int x7), (6, .int v14), (8, .int v14), (0, .ref (Γ.2.2 (0))), (1, .int x1), (2, .int x2), (4, .int x4), (7, .int x7)]) hx hb dX5_bySorts_93 hl (by decide) rfl (fun ls hl => ?_)
        exact wX5_bySorts_95 C  ih  S14 x1 x2 x4 x7 v14 x7  hf _ _ _ hP (lv_sub hl [3, 4, 5, 6, 0, 1, 7] rfl)
def fX5_bySorts  (S : cM) (x1 : Int32) (x2 : Int32) : Option (Int32 × cM) :=
  if x2 < 0 then some ((-1), S) else if x2 ≤ (nI 1) then bd (fX5_sortsRefusal S x1) fun v3 S3 => ( if v3 = 0 then gn S3.2.1 1 3 (if (S3.1 S3.2.1 1) = 0 then some ((-4), S3) else gn S3.2.1 1 3 (bd (fX5_power S3 (S3.1 S3.2.1 1) (nI 4)) fun v8 S8 => ( fX5_bySorts_59   lF S8 x1 x2 v8 (nI 0) (nI 2147483647) (nI 0)))) else some (v3, S3)) else some ((-1), S)
set_option maxHeartbeats 4000000 in
set_option maxRecDepth 100000 in
theorem mX5_bySorts (l : Launch) (Γ : gG)   {S : cM} {x1 : Int32} {x2 : Int32} {rz : Int32} {Sz : cM} (hf : fX5_bySorts S x1 x2 = some (rz, Sz)) : CtI l Γ 74 yX5_bySorts cX5_bySorts 9 .int 5 109 [.ref (Γ.2.2 (0)), .int x1, .int x2] (cE Γ S) rz (cE Γ Sz) := by
  refine met_body (Γ := Γ) (lv := [(0, .ref (Γ.2.2 (0))), (1, .int x1), (2, .int x2)]) RX5 (by decide) rfl rfl rfl ?_
  intro p e s m below meth c H locs ls C hP hl
  obtain ⟨hx, hb, -, -, hown, hts, -, hwx, -⟩ := id C
  unfold fX5_bySorts at hf
  refine lv_iload_n hx hb dX5_bySorts_0 rfl (lv_at hl 2 rfl) ?_
  refine lv_if_lt (tgt := 9) hx hb dX5_bySorts_1 (by decide) (fun hc1 => ?_) (fun hc1 => ?_)
  · have hf := if_t hc1 hf
    refine lv_iconst (v := (-1)) hx hb dX5_bySorts_9 rfl ?_
    exact r_iret (X := cE Γ) C hP hf dX5_bySorts_10
  · have hf := if_f hc1 hf
    refine lv_iload_n hx hb dX5_bySorts_4 rfl (lv_at hl 2 rfl) ?_
    refine lv_iconst (v := nI 1) hx hb dX5_bySorts_5 rfl ?_
    refine lv_icmp_le (tgt := 11) hx hb dX5_bySorts_6 (by decide) (fun hc2 => ?_) (fun hc2 => ?_)
    · have hf := if_t hc2 hf
      refine lv_aload_n hx hb dX5_bySorts_11 rfl (lv_at hl 0 rfl) ?_
      refine lv_iload_n hx hb dX5_bySorts_12 rfl (lv_at hl 1 rfl) ?_
      refine bd_i hf (fun v3 S3 hq3 hf => ?_)
      refine goI (runV (rest := []) (b := 0) (mX5_sortsRefusal l Γ  hq3) C hP hl.1 (by decide) cE0 rfl k3_7 qX5_sortsRefusal.1 qX5_sortsRefusal.2.1 qX5_sortsRefusal.2.2.1 qX5_sortsRefusal.2.2.2.1 rfl qX5_sortsRefusal.2.2.2.2 ⟨Nat.le_of_ble_eq_true rfl, Nat.le_of_ble_eq_true rfl⟩ ⟨Nat.le_refl 0, Nat.le_refl 0⟩ (Nat.le_of_ble_eq_true rfl) dX5_bySorts_13) hP (fun H locs hP => ?_)
      refine lv_istore_n (lv' := [(3, .int v3), (0, .ref (Γ.2.2 (0))), (1, .int x1), (2, .int x2)]) hx hb dX5_bySorts_16 rfl hl (by decide) rfl (fun ls hl => ?_)
      refine lv_iload_n hx hb dX5_bySorts_17 rfl (lv_at hl 0 rfl) ?_
      refine lv_if_eq (tgt := 23) hx hb dX5_bySorts_18 (by decide) (fun hc4 => ?_) (fun hc4 => ?_)
      · have hf := if_t hc4 hf
        refine lv_aload_n hx hb dX5_bySorts_23 rfl (lv_at hl 1 rfl) ?_
        refine gn_i hf (fun hN5 hf => ?_)
        refine c0_get C hP 0 (by decide) k1_127 rfl (v := .ref (Γ.2.2 (S3.2.1))) rfl dX5_bySorts_24 ?_
        refine c1_get C hP hN5 1 (by decide) k1_75 rfl (v := .int (S3.1 S3.2.1 1)) rfl dX5_bySorts_27 ?_
        refine lv_if_ne (tgt := 36) hx hb dX5_bySorts_30 (by decide) (fun hc6 => ?_) (fun hc6 => ?_)
        · have hf := if_f hc6 hf
          refine lv_aload_n hx hb dX5_bySorts_36 rfl (lv_at hl 1 rfl) ?_
          refine gn_i hf (fun hN7 hf => ?_)
          refine c0_get C hP 0 (by decide) k1_127 rfl (v := .ref (Γ.2.2 (S3.2.1))) rfl dX5_bySorts_37 ?_
          refine c1_get C hP hN7 1 (by decide) k1_75 rfl (v := .int (S3.1 S3.2.1 1)) rfl dX5_bySorts_40 ?_
          refine lv_iconst (v := nI 4) hx hb dX5_bySorts_43 rfl ?_
          refine bd_i hf (fun v8 S8 hq8 hf => ?_)
          refine goI (runS (rest := []) (mX5_power l Γ  hq8) C hP hl.1 k2_213 qX5_power.1 qX5_power.2.1 qX5_power.2.2.1 rfl qX5_power.2.2.2 ⟨Nat.le_of_ble_eq_true rfl, Nat.le_of_ble_eq_true rfl⟩ ⟨Nat.le_refl 0, Nat.le_refl 0⟩ (Nat.le_of_ble_eq_true rfl) dX5_bySorts_44) hP (fun H locs hP => ?_)
          refine lv_istore (lv' := [(4, .int v8), (3, .int v3), (0, .ref (Γ.2.2 (0))), (1, .int x1), (2, .int x2)]) hx hb dX5_bySorts_47 hl (by decide) rfl (fun ls hl => ?_)
          refine lv_iconst (v := nI 0) hx hb dX5_bySorts_49 rfl ?_
          refine lv_istore (lv' := [(5, .int (nI 0)), (4, .int v8), (3, .int v3), (0, .ref (Γ.2.2 (0))), (1, .int x1), (2, .int x2)]) hx hb dX5_bySorts_50 hl (by decide) rfl (fun ls hl => ?_)
          refine lv_ldc (v := 2147483647) hx hb hown (hts _ k2_216) dX5_bySorts_52 ?_
          rw [show (2147483647 : Int32) = nI 2147483647 from rfl]
          refine lv_istore (lv' := [(6, .int (nI 2147483647)), (5, .int (nI 0)), (4, .int v8), (3, .int v3), (0, .ref (Γ.2.2 (0))), (1, .int x1), (2, .int x2)]) hx hb dX5_bySorts_54 hl (by decide) rfl (fun ls hl => ?_)
          refine lv_iconst (v := nI 0) hx hb dX5_bySorts_56 rfl ?_
          refine lv_istore (lv' := [(7, .int (nI 0)), (6, .int (nI 2147483647)), (5, .int (nI 0)), (4, .int v8), (3, .int v3), (0, .ref (Γ.2.2 (0))), (1, .int x1), (2, .int x2)]) hx hb dX5_bySorts_57 hl (by decide) rfl (fun ls hl => ?_)
          exact wX5_bySorts_59 C   lF S8 x1 x2 v8 (nI 0) (nI 2147483647) (nI 0)  hf _ _ _ hP (lv_sub hl [5, 6, 7, 3, 2, 1, 0] rfl)
        · have hf := if_t hc6 hf
          refine lv_bipush (v := (-4)) hx hb dX5_bySorts_33 rfl ?_
          exact r_iret (X := cE Γ) C hP hf dX5_bySorts_35
      · have hf := if_f hc4 hf
        refine lv_iload_n hx hb dX5_bySorts_21 rfl (lv_at hl 0 rfl) ?_
        exact r_iret (X := cE Γ) C hP hf dX5_bySorts_22
    · have hf := if_f hc2 hf
      refine lv_iconst (v := (-1)) hx hb dX5_bySorts_9 rfl ?_
      exact r_iret (X := cE Γ) C hP hf dX5_bySorts_10
-- X5_advice
theorem qX5_advice : Cond.instanceMethod yX5_advice ∈ Ub ∧ Cond.selects RX5 yX5_advice yX5_advice ∈ Ub ∧ Cond.initialized RX5 ∈ Ub ∧ Cond.code yX5_advice cX5_advice 3 (some FieldType.int) ∈ Ub ∧ (yX5_advice.cls = RX5 ∧ yX5_advice.cls ≠ "java/lang/invoke/MethodHandle" ∧ yX5_advice.cls ≠ "java/lang/invoke/VarHandle" ∧ (parseMethodDescriptor yX5_advice.desc).map (fun d => d.parameters.length) = some 2) := ⟨k3_38, k3_39, k1_1, k3_40, by decide +kernel⟩
def fX5_advice  (S : cM) (x1 : Int32) (x2 : Int32) : Option (Int32 × cM) :=
  bd (fX5_isSort S x1) fun v1 S1 => ( if v1 = 0 then some ((-1), S1) else if x2 < 0 then some ((-1), S1) else if (nI 99) < x2 then some ((-1), S1) else bd (fX5_regretTimes S1 x1 x2) fun v5 S5 => ( some (v5, S5)))
set_option maxHeartbeats 4000000 in
set_option maxRecDepth 100000 in
theorem mX5_advice (l : Launch) (Γ : gG)   {S : cM} {x1 : Int32} {x2 : Int32} {rz : Int32} {Sz : cM} (hf : fX5_advice S x1 x2 = some (rz, Sz)) : CtI l Γ 74 yX5_advice cX5_advice 3 .int 6 135 [.ref (Γ.2.2 (0)), .int x1, .int x2] (cE Γ S) rz (cE Γ Sz) := by
  refine met_body (Γ := Γ) (lv := [(0, .ref (Γ.2.2 (0))), (1, .int x1), (2, .int x2)]) RX5 (by decide) rfl rfl rfl ?_
  intro p e s m below meth c H locs ls C hP hl
  obtain ⟨hx, hb, -, -, hown, hts, -, hwx, -⟩ := id C
  unfold fX5_advice at hf
  refine lv_iload_n hx hb dX5_advice_0 rfl (lv_at hl 1 rfl) ?_
  refine bd_i hf (fun v1 S1 hq1 hf => ?_)
  refine goI (runS (rest := []) (mX5_isSort l Γ  hq1) C hP hl.1 k2_78 qX5_isSort.1 qX5_isSort.2.1 qX5_isSort.2.2.1 rfl qX5_isSort.2.2.2 ⟨Nat.le_of_ble_eq_true rfl, Nat.le_of_ble_eq_true rfl⟩ ⟨Nat.le_refl 0, Nat.le_refl 0⟩ (Nat.le_of_ble_eq_true rfl) dX5_advice_1) hP (fun H locs hP => ?_)
  refine lv_if_eq (tgt := 26) hx hb dX5_advice_4 (by decide) (fun hc2 => ?_) (fun hc2 => ?_)
  · have hf := if_t hc2 hf
    refine lv_iconst (v := (-1)) hx hb dX5_advice_26 rfl ?_
    exact r_iret (X := cE Γ) C hP hf dX5_advice_27
  · have hf := if_f hc2 hf
    refine lv_iload_n hx hb dX5_advice_7 rfl (lv_at hl 2 rfl) ?_
    refine lv_if_lt (tgt := 26) hx hb dX5_advice_8 (by decide) (fun hc3 => ?_) (fun hc3 => ?_)
    · have hf := if_t hc3 hf
      refine lv_iconst (v := (-1)) hx hb dX5_advice_26 rfl ?_
      exact r_iret (X := cE Γ) C hP hf dX5_advice_27
    · have hf := if_f hc3 hf
      refine lv_iload_n hx hb dX5_advice_11 rfl (lv_at hl 2 rfl) ?_
      refine lv_bipush (v := nI 99) hx hb dX5_advice_12 rfl ?_
      refine lv_icmp_gt (tgt := 26) hx hb dX5_advice_14 (by decide) (fun hc4 => ?_) (fun hc4 => ?_)
      · have hf := if_t hc4 hf
        refine lv_iconst (v := (-1)) hx hb dX5_advice_26 rfl ?_
        exact r_iret (X := cE Γ) C hP hf dX5_advice_27
      · have hf := if_f hc4 hf
        refine lv_aload_n hx hb dX5_advice_17 rfl (lv_at hl 0 rfl) ?_
        refine lv_iload_n hx hb dX5_advice_18 rfl (lv_at hl 1 rfl) ?_
        refine lv_iload_n hx hb dX5_advice_19 rfl (lv_at hl 2 rfl) ?_
        refine bd_i hf (fun v5 S5 hq5 hf => ?_)
        refine goI (runV (rest := []) (b := 0) (mX5_regretTimes l Γ  hq5) C hP hl.1 (by decide) cE0 rfl k2_123 qX5_regretTimes.1 qX5_regretTimes.2.1 qX5_regretTimes.2.2.1 qX5_regretTimes.2.2.2.1 rfl qX5_regretTimes.2.2.2.2 ⟨Nat.le_of_ble_eq_true rfl, Nat.le_of_ble_eq_true rfl⟩ ⟨Nat.le_refl 0, Nat.le_refl 0⟩ (Nat.le_of_ble_eq_true rfl) dX5_advice_20) hP (fun H locs hP => ?_)
        refine lv_goto (tgt := 27) hx hb dX5_advice_23 (by decide) ?_
        exact r_iret (X := cE Γ) C hP hf dX5_advice_27
-- X5_areNews
theorem qX5_areNews : Cond.static yX5_areNews ∈ Ub ∧ Cond.initialized RX5 ∈ Ub ∧ Cond.code yX5_areNews cX5_areNews 3 (some FieldType.boolean) ∈ Ub ∧ (yX5_areNews.cls = RX5 ∧ yX5_areNews.cls ≠ "java/lang/invoke/MethodHandle" ∧ yX5_areNews.cls ≠ "java/lang/invoke/VarHandle" ∧ (parseMethodDescriptor yX5_areNews.desc).map (fun d => d.parameters.length) = some 3) := ⟨k3_46, k1_1, k3_47, by decide +kernel⟩
def fX5_areNews  (S : cM) (x0 : Int32) (x1 : Int32) (x2 : Int32) : Option (Int32 × cM) :=
  if x0 < (-99) then some (nI 0, S) else if (nI 99) < x0 then some (nI 0, S) else if x1 < 0 then some (nI 0, S) else if (nI 5) < x1 then some (nI 0, S) else if x2 < 0 then some (nI 0, S) else if (nI 20) < x2 then some (nI 0, S) else some (nI 1, S)
set_option maxHeartbeats 4000000 in
set_option maxRecDepth 100000 in
theorem mX5_areNews (l : Launch) (Γ : gG)   {S : cM} {x0 : Int32} {x1 : Int32} {x2 : Int32} {rz : Int32} {Sz : cM} (hf : fX5_areNews S x0 x1 x2 = some (rz, Sz)) : CtI l Γ 74 yX5_areNews cX5_areNews 3 .boolean 0 0 [.int x0, .int x1, .int x2] (cE Γ S) rz (cE Γ Sz) := by
  refine met_body (Γ := Γ) (lv := [(0, .int x0), (1, .int x1), (2, .int x2)]) RX5 (by decide) rfl rfl rfl ?_
  intro p e s m below meth c H locs ls C hP hl
  obtain ⟨hx, hb, -, -, hown, hts, -, hwx, -⟩ := id C
  unfold fX5_areNews at hf
  refine lv_iload_n hx hb dX5_areNews_0 rfl (lv_at hl 0 rfl) ?_
  refine lv_bipush (v := (-99)) hx hb dX5_areNews_1 rfl ?_
  refine lv_icmp_lt (tgt := 35) hx hb dX5_areNews_3 (by decide) (fun hc1 => ?_) (fun hc1 => ?_)
  · have hf := if_t hc1 hf
    refine lv_iconst (v := nI 0) hx hb dX5_areNews_35 rfl ?_
    exact r_zret (X := cE Γ) C hP (Or.inl rfl) hf dX5_areNews_36
  · have hf := if_f hc1 hf
    refine lv_iload_n hx hb dX5_areNews_6 rfl (lv_at hl 0 rfl) ?_
    refine lv_bipush (v := nI 99) hx hb dX5_areNews_7 rfl ?_
    refine lv_icmp_gt (tgt := 35) hx hb dX5_areNews_9 (by decide) (fun hc2 => ?_) (fun hc2 => ?_)
    · have hf := if_t hc2 hf
      refine lv_iconst (v := nI 0) hx hb dX5_areNews_35 rfl ?_
      exact r_zret (X := cE Γ) C hP (Or.inl rfl) hf dX5_areNews_36
    · have hf := if_f hc2 hf
      refine lv_iload_n hx hb dX5_areNews_12 rfl (lv_at hl 1 rfl) ?_
      refine lv_if_lt (tgt := 35) hx hb dX5_areNews_13 (by decide) (fun hc3 => ?_) (fun hc3 => ?_)
      · have hf := if_t hc3 hf
        refine lv_iconst (v := nI 0) hx hb dX5_areNews_35 rfl ?_
        exact r_zret (X := cE Γ) C hP (Or.inl rfl) hf dX5_areNews_36
      · have hf := if_f hc3 hf
        refine lv_iload_n hx hb dX5_areNews_16 rfl (lv_at hl 1 rfl) ?_
        refine lv_iconst (v := nI 5) hx hb dX5_areNews_17 rfl ?_
        refine lv_icmp_gt (tgt := 35) hx hb dX5_areNews_18 (by decide) (fun hc4 => ?_) (fun hc4 => ?_)
        · have hf := if_t hc4 hf
          refine lv_iconst (v := nI 0) hx hb dX5_areNews_35 rfl ?_
          exact r_zret (X := cE Γ) C hP (Or.inl rfl) hf dX5_areNews_36
        · have hf := if_f hc4 hf
          refine lv_iload_n hx hb dX5_areNews_21 rfl (lv_at hl 2 rfl) ?_
          refine lv_if_lt (tgt := 35) hx hb dX5_areNews_22 (by decide) (fun hc5 => ?_) (fun hc5 => ?_)
          · have hf := if_t hc5 hf
            refine lv_iconst (v := nI 0) hx hb dX5_areNews_35 rfl ?_
            exact r_zret (X := cE Γ) C hP (Or.inl rfl) hf dX5_areNews_36
          · have hf := if_f hc5 hf
            refine lv_iload_n hx hb dX5_areNews_25 rfl (lv_at hl 2 rfl) ?_
            refine lv_bipush (v := nI 20) hx hb dX5_areNews_26 rfl ?_
            refine lv_icmp_gt (tgt := 35) hx hb dX5_areNews_28 (by decide) (fun hc6 => ?_) (fun hc6 => ?_)
            · have hf := if_t hc6 hf
              refine lv_iconst (v := nI 0) hx hb dX5_areNews_35 rfl ?_
              exact r_zret (X := cE Γ) C hP (Or.inl rfl) hf dX5_areNews_36
            · have hf := if_f hc6 hf
              refine lv_iconst (v := nI 1) hx hb dX5_areNews_31 rfl ?_
              refine lv_goto (tgt := 36) hx hb dX5_areNews_32 (by decide) ?_
              exact r_zret (X := cE Γ) C hP (Or.inr rfl) hf dX5_areNews_36
-- X5_swingFrom
theorem qX5_swingFrom : Cond.instanceMethod yX5_swingFrom ∈ Ub ∧ Cond.selects RX5 yX5_swingFrom yX5_swingFrom ∈ Ub ∧ Cond.initialized RX5 ∈ Ub ∧ Cond.code yX5_swingFrom cX5_swingFrom 7 (none : Option Jvm.ClassFile.FieldType) ∈ Ub ∧ (yX5_swingFrom.cls = RX5 ∧ yX5_swingFrom.cls ≠ "java/lang/invoke/MethodHandle" ∧ yX5_swingFrom.cls ≠ "java/lang/invoke/VarHandle" ∧ (parseMethodDescriptor yX5_swingFrom.desc).map (fun d => d.parameters.length) = some 3) := ⟨k3_50, ks_19, k1_1, k3_51, by decide +kernel⟩
def fX5_swingFrom_10   : Nat → cM → Int32 → Int32 → Int32 → Option cM
  | 0, _, _, _, _ => none
  | n + 1, S, x2, x3, x4 =>
    if (nI 60) < x4 then some S else gi (if (nI 0) < ((x4 - (nI 1)) - x2) then ((x4 - (nI 1)) - x2) else (nI 0)) 61 (gi (x4 - (nI 1)) 61 (gi x4 61 (sv (cS S 73 ((x4).toNatClampNeg) (if (-9999) < (if ((S.1 73 (x4 - (nI 1)).toNatClampNeg) - ((nI 2) * (((S.1 73 (if (nI 0) < ((x4 - (nI 1)) - x2) then ((x4 - (nI 1)) - x2) else (nI 0)).toNatClampNeg) * x3) / (nI 10)))) < (nI 9999) then ((S.1 73 (x4 - (nI 1)).toNatClampNeg) - ((nI 2) * (((S.1 73 (if (nI 0) < ((x4 - (nI 1)) - x2) then ((x4 - (nI 1)) - x2) else (nI 0)).toNatClampNeg) * x3) / (nI 10)))) else (nI 9999)) then (if ((S.1 73 (x4 - (nI 1)).toNatClampNeg) - ((nI 2) * (((S.1 73 (if (nI 0) < ((x4 - (nI 1)) - x2) then ((x4 - (nI 1)) - x2) else (nI 0)).toNatClampNeg) * x3) / (nI 10)))) < (nI 9999) then ((S.1 73 (x4 - (nI 1)).toNatClampNeg) - ((nI 2) * (((S.1 73 (if (nI 0) < ((x4 - (nI 1)) - x2) then ((x4 - (nI 1)) - x2) else (nI 0)).toNatClampNeg) * x3) / (nI 10)))) else (nI 9999)) else (-9999))) fun S11 => ( (fX5_swingFrom_10   n) S11 x2 x3 (x4 + (nI 1))))))
set_option maxHeartbeats 4000000 in
set_option maxRecDepth 100000 in
theorem wX5_swingFrom_10 {p : Program} {l : Launch} {e : Env} {s : State} {m : MethodId} {args : Array Value} {below : List Frame} {meth : Method} {c : Code} {Γ : gG} {Sz : cM} (C : Cx Γ 74 p s m args meth c RX5 cX5_swingFrom 7 none)   : ∀ n : Nat, ∀ (S : cM) (x2 : Int32) (x3 : Int32) (x4 : Int32) , fX5_swingFrom_10   n S x2 x3 x4 = some Sz → ∀ (H : Heap) (locs : List Loc) (ls : Array Slot), St Γ 74 (cE Γ S) s.heap H locs → lv_has ls 7 [(0, .ref (Γ.2.2 (0))), (2, .int x2), (3, .int x3), (4, .int x4)] → W p l e { frames := 1, cells := 0, slots := 0, locals := 21 } s m args below meth c H locs 0 0 (MQ below (gQv Γ 74 (cE Γ Sz)) args s 0 0 (wA Γ 74)) (F0 m 10 ls []) := by
  obtain ⟨hx, hb, -, -, hown, hts, -, hwx, -⟩ := id C
  intro n
  induction n with
  | zero =>
    intro S x2 x3 x4 hf
    unfold fX5_swingFrom_10 at hf
    cases hf
  | succ n ih =>
    intro S x2 x3 x4 hf H locs ls hP hl
    unfold fX5_swingFrom_10 at hf
    refine lv_iload hx hb dX5_swingFrom_10 (lv_at hl 3 rfl) ?_
    refine lv_bipush (v := nI 60) hx hb dX5_swingFrom_12 rfl ?_
    refine lv_icmp_gt (tgt := 82) hx hb dX5_swingFrom_14 (by decide) (fun hc4 => ?_) (fun hc4 => ?_)
    · have hf := if_t hc4 hf
      exact r_vret (X := cE Γ) C hP hf dX5_swingFrom_82
    · have hf := if_f hc4 hf
      refine lv_aload_n hx hb dX5_swingFrom_17 rfl (lv_at hl 0 rfl) ?_
      refine c0_get C hP 9 (by decide) k1_136 rfl (v := .ref (Γ.2.2 (73))) rfl dX5_swingFrom_18 ?_
      refine lv_iconst (v := nI 0) hx hb dX5_swingFrom_21 rfl ?_
      refine lv_iload hx hb dX5_swingFrom_22 (lv_at hl 3 rfl) ?_
      refine lv_iconst (v := nI 1) hx hb dX5_swingFrom_24 rfl ?_
      refine lv_isub hx hb dX5_swingFrom_25 ?_
      refine lv_iload_n hx hb dX5_swingFrom_26 rfl (lv_at hl 1 rfl) ?_
      refine lv_isub hx hb dX5_swingFrom_27 ?_
      refine va_mmax hx hb (by rw [C.2.2.2.1]; exact hl.1.symm) hown (hts _ k3_52) (hts _ k2_46) (hts _ k1_9) (hts _ k2_47) (Nat.le_of_ble_eq_true rfl) (Nat.le_of_ble_eq_true rfl) (Nat.le_refl 0) (Nat.le_refl 0) dX5_swingFrom_28 ?_
      refine gi_i hf (fun hi5 hj6 hf => ?_)
      refine c_ild C hP cA_73 hi5 dX5_swingFrom_31 ?_
      refine lv_istore (lv' := [(5, .int (S.1 73 (if (nI 0) < ((x4 - (nI 1)) - x2) then ((x4 - (nI 1)) - x2) else (nI 0)).toNatClampNeg)), (0, .ref (Γ.2.2 (0))), (2, .int x2), (3, .int x3), (4, .int x4)]) hx hb dX5_swingFrom_32 hl (by decide) rfl (fun ls hl => ?_)
      refine lv_aload_n hx hb dX5_swingFrom_34 rfl (lv_at hl 1 rfl) ?_
      refine c0_get C hP 9 (by decide) k1_136 rfl (v := .ref (Γ.2.2 (73))) rfl dX5_swingFrom_35 ?_
      refine lv_iload hx hb dX5_swingFrom_38 (lv_at hl 4 rfl) ?_
      refine lv_iconst (v := nI 1) hx hb dX5_swingFrom_40 rfl ?_
      refine lv_isub hx hb dX5_swingFrom_41 ?_
      refine gi_i hf (fun hi7 hj8 hf => ?_)
      refine c_ild C hP cA_73 hi7 dX5_swingFrom_42 ?_
      refine lv_iconst (v := nI 2) hx hb dX5_swingFrom_43 rfl ?_
      refine lv_iload hx hb dX5_swingFrom_44 (lv_at hl 0 rfl) ?_
      refine lv_iload_n hx hb dX5_swingFrom_46 rfl (lv_at hl 3 rfl) ?_
      refine lv_imul hx hb dX5_swingFrom_47 ?_
      refine lv_bipush (v := nI 10) hx hb dX5_swingFrom_48 rfl ?_
      refine lv_idiv hx hb dX5_swingFrom_50 (by decide) ?_
      refine lv_imul hx hb dX5_swingFrom_51 ?_
      refine lv_isub hx hb dX5_swingFrom_52 ?_
      refine lv_istore (lv' := [(6, .int ((S.1 73 (x4 - (nI 1)).toNatClampNeg) - ((nI 2) * (((S.1 73 (if (nI 0) < ((x4 - (nI 1)) - x2) then ((x4 - (nI 1)) - x2) else (nI 0)).toNatClampNeg) * x3) / (nI 10))))), (5, .int (S.1 73 (if (nI 0) < ((x4 - (nI 1)) - x2) then ((x4 - (nI 1)) - x2) else (nI 0)).toNatClampNeg)), (0, .ref (Γ.2.2 (0))), (2, .int x2), (3, .int x3), (4, .int x4)]) hx hb dX5_swingFrom_53 hl (by decide) rfl (fun ls hl => ?_)
      refine lv_aload_n hx hb dX5_swingFrom_55 rfl (lv_at hl 2 rfl) ?_
      refine c0_get C hP 9 (by decide) k1_136 rfl (v := .ref (Γ.2.2 (73))) rfl dX5_swingFrom_56 ?_
      refine lv_iload hx hb dX5_swingFrom_59 (lv_at hl 5 rfl) ?_
      refine lv_sipush (v := (-9999)) hx hb dX5_swingFrom_61 rfl ?_
      refine lv_sipush (v := nI 9999) hx hb dX5_swingFrom_64 rfl ?_
      refine lv_iload hx hb dX5_swingFrom_67 (lv_at hl 0 rfl) ?_
      refine va_mmin hx hb (by rw [C.2.2.2.1]; exact hl.1.symm) hown (hts _ k2_229) (hts _ k2_49) (hts _ k1_9) (hts _ k2_50) (Nat.le_of_ble_eq_true rfl) (Nat.le_of_ble_eq_true rfl) (Nat.le_refl 0) (Nat.le_refl 0) dX5_swingFrom_69 ?_
      refine va_mmax hx hb (by rw [C.2.2.2.1]; exact hl.1.symm) hown (hts _ k3_52) (hts _ k2_46) (hts _ k1_9) (hts _ k2_47) (Nat.le_of_ble_eq_true rfl) (Nat.le_of_ble_eq_true rfl) (Nat.le_refl 0) (Nat.le_refl 0) dX5_swingFrom_72 ?_
      refine gi_i hf (fun hi9 hj10 hf => ?_)
      refine c_ist C hP cA_73 hi9 dX5_swingFrom_75 (fun H locs hP => ?_)
      refine sv_i hf (fun S11 e11 hf => ?_)
      rw [← e11] at hP
      refine lv_iinc (v := x4 + (nI 1)) (lv' := [(4, .int (x4 + (nI 1))), (6, .int ((S.1 73 (x4 - (nI 1)).toNatClampNeg) - ((nI 2) * (((S.1 73 (if (nI 0) < ((x4 - (nI 1)) - x2) then ((x4 - (nI 1)) - x2) else (nI 0)).toNatClampNeg) * x3) / (nI 10))))), (5, .int (S.1 73 (if (nI 0) < ((x4 - (nI 1)) - x2) then ((x4 - (nI 1)) - x2) else (nI 0)).toNatClampNeg)), (0, .ref (Γ.2.2 (0))), (2, .int x2), (3, .int x3)]) hx hb dX5_swingFrom_76 hl (k := 5) rfl rfl (by decide) rfl (fun ls hl => ?_)
      refine lv_goto (tgt := 10) hx hb dX5_swingFrom_79 (by decide) ?_
      exact ih S11 x2 x3 (x4 + (nI 1))  hf _ _ _ hP (lv_sub hl [3, 4, 5, 0] rfl)
def fX5_swingFrom  (S : cM) (x1 : Int32) (x2 : Int32) (x3 : Int32) : Option cM :=
  gi (nI 0) 61 (sv (cS S 73 ((nI 0).toNatClampNeg) x1) fun S3 => ( fX5_swingFrom_10   lF S3 x2 x3 (nI 1)))
set_option maxHeartbeats 4000000 in
set_option maxRecDepth 100000 in
theorem mX5_swingFrom (l : Launch) (Γ : gG)   {S : cM} {x1 : Int32} {x2 : Int32} {x3 : Int32} {Sz : cM} (hf : fX5_swingFrom S x1 x2 x3 = some Sz) : CtV l Γ 74 yX5_swingFrom cX5_swingFrom 7 1 21 [.ref (Γ.2.2 (0)), .int x1, .int x2, .int x3] (cE Γ S) (cE Γ Sz) := by
  refine met_body (Γ := Γ) (lv := [(0, .ref (Γ.2.2 (0))), (1, .int x1), (2, .int x2), (3, .int x3)]) RX5 (by decide) rfl rfl rfl ?_
  intro p e s m below meth c H locs ls C hP hl
  obtain ⟨hx, hb, -, -, hown, hts, -, hwx, -⟩ := id C
  unfold fX5_swingFrom at hf
  refine lv_aload_n hx hb dX5_swingFrom_0 rfl (lv_at hl 0 rfl) ?_
  refine c0_get C hP 9 (by decide) k1_136 rfl (v := .ref (Γ.2.2 (73))) rfl dX5_swingFrom_1 ?_
  refine lv_iconst (v := nI 0) hx hb dX5_swingFrom_4 rfl ?_
  refine lv_iload_n hx hb dX5_swingFrom_5 rfl (lv_at hl 1 rfl) ?_
  refine gi_i hf (fun hi1 hj2 hf => ?_)
  refine c_ist C hP cA_73 hi1 dX5_swingFrom_6 (fun H locs hP => ?_)
  refine sv_i hf (fun S3 e3 hf => ?_)
  rw [← e3] at hP
  refine lv_iconst (v := nI 1) hx hb dX5_swingFrom_7 rfl ?_
  refine lv_istore (lv' := [(4, .int (nI 1)), (0, .ref (Γ.2.2 (0))), (1, .int x1), (2, .int x2), (3, .int x3)]) hx hb dX5_swingFrom_8 hl (by decide) rfl (fun ls hl => ?_)
  exact wX5_swingFrom_10 C   lF S3 x2 x3 (nI 1)  hf _ _ _ hP (lv_sub hl [1, 3, 4, 0] rfl)
-- X5_news
theorem qX5_news : Cond.instanceMethod yX5_news ∈ Ub ∧ Cond.selects RX5 yX5_news yX5_news ∈ Ub ∧ Cond.initialized RX5 ∈ Ub ∧ Cond.code yX5_news cX5_news 5 (some FieldType.int) ∈ Ub ∧ (yX5_news.cls = RX5 ∧ yX5_news.cls ≠ "java/lang/invoke/MethodHandle" ∧ yX5_news.cls ≠ "java/lang/invoke/VarHandle" ∧ (parseMethodDescriptor yX5_news.desc).map (fun d => d.parameters.length) = some 4) := ⟨k3_42, k3_43, k1_1, k3_44, by decide +kernel⟩
def fX5_news  (S : cM) (x1 : Int32) (x2 : Int32) (x3 : Int32) (x4 : Int32) : Option (Int32 × cM) :=
  bd (fX5_areNews S x1 x2 x3) fun v1 S1 => ( if v1 = 0 then some ((-1000000001), S1) else if x4 < 0 then some ((-1000000001), S1) else if x4 ≤ (nI 60) then bv (fX5_swingFrom S1 x1 x2 x3) fun S5 => ( gi x4 61 (some (S5.1 73 (x4).toNatClampNeg, S5))) else some ((-1000000001), S1))
set_option maxHeartbeats 4000000 in
set_option maxRecDepth 100000 in
theorem mX5_news (l : Launch) (Γ : gG)   {S : cM} {x1 : Int32} {x2 : Int32} {x3 : Int32} {x4 : Int32} {rz : Int32} {Sz : cM} (hf : fX5_news S x1 x2 x3 x4 = some (rz, Sz)) : CtI l Γ 74 yX5_news cX5_news 5 .int 2 47 [.ref (Γ.2.2 (0)), .int x1, .int x2, .int x3, .int x4] (cE Γ S) rz (cE Γ Sz) := by
  refine met_body (Γ := Γ) (lv := [(0, .ref (Γ.2.2 (0))), (1, .int x1), (2, .int x2), (3, .int x3), (4, .int x4)]) RX5 (by decide) rfl rfl rfl ?_
  intro p e s m below meth c H locs ls C hP hl
  obtain ⟨hx, hb, -, -, hown, hts, -, hwx, -⟩ := id C
  unfold fX5_news at hf
  refine lv_iload_n hx hb dX5_news_0 rfl (lv_at hl 1 rfl) ?_
  refine lv_iload_n hx hb dX5_news_1 rfl (lv_at hl 2 rfl) ?_
  refine lv_iload_n hx hb dX5_news_2 rfl (lv_at hl 3 rfl) ?_
  refine bd_i hf (fun v1 S1 hq1 hf => ?_)
  refine goI (runS (rest := []) (mX5_areNews l Γ  hq1) C hP hl.1 k3_45 qX5_areNews.1 qX5_areNews.2.1 qX5_areNews.2.2.1 rfl qX5_areNews.2.2.2 ⟨Nat.le_of_ble_eq_true rfl, Nat.le_of_ble_eq_true rfl⟩ ⟨Nat.le_refl 0, Nat.le_refl 0⟩ (Nat.le_of_ble_eq_true rfl) dX5_news_3) hP (fun H locs hP => ?_)
  refine lv_if_eq (tgt := 21) hx hb dX5_news_6 (by decide) (fun hc2 => ?_) (fun hc2 => ?_)
  · have hf := if_t hc2 hf
    refine lv_ldc (v := -1000000001) hx hb hown (hts _ k2_153) dX5_news_21 ?_
    exact r_iret (X := cE Γ) C hP hf dX5_news_23
  · have hf := if_f hc2 hf
    refine lv_iload hx hb dX5_news_9 (lv_at hl 4 rfl) ?_
    refine lv_if_lt (tgt := 21) hx hb dX5_news_11 (by decide) (fun hc3 => ?_) (fun hc3 => ?_)
    · have hf := if_t hc3 hf
      refine lv_ldc (v := -1000000001) hx hb hown (hts _ k2_153) dX5_news_21 ?_
      exact r_iret (X := cE Γ) C hP hf dX5_news_23
    · have hf := if_f hc3 hf
      refine lv_iload hx hb dX5_news_14 (lv_at hl 4 rfl) ?_
      refine lv_bipush (v := nI 60) hx hb dX5_news_16 rfl ?_
      refine lv_icmp_le (tgt := 24) hx hb dX5_news_18 (by decide) (fun hc4 => ?_) (fun hc4 => ?_)
      · have hf := if_t hc4 hf
        refine lv_aload_n hx hb dX5_news_24 rfl (lv_at hl 0 rfl) ?_
        refine lv_iload_n hx hb dX5_news_25 rfl (lv_at hl 1 rfl) ?_
        refine lv_iload_n hx hb dX5_news_26 rfl (lv_at hl 2 rfl) ?_
        refine lv_iload_n hx hb dX5_news_27 rfl (lv_at hl 3 rfl) ?_
        refine bv_i hf (fun S5 hq5 hf => ?_)
        refine goV (runV (rest := []) (b := 0) (mX5_swingFrom l Γ  hq5) C hP hl.1 (by decide) cE0 rfl k3_48 qX5_swingFrom.1 qX5_swingFrom.2.1 qX5_swingFrom.2.2.1 qX5_swingFrom.2.2.2.1 rfl qX5_swingFrom.2.2.2.2 ⟨Nat.le_of_ble_eq_true rfl, Nat.le_of_ble_eq_true rfl⟩ ⟨Nat.le_refl 0, Nat.le_refl 0⟩ (Nat.le_of_ble_eq_true rfl) dX5_news_28) hP (fun H locs hP => ?_)
        refine lv_aload_n hx hb dX5_news_31 rfl (lv_at hl 0 rfl) ?_
        refine c0_get C hP 9 (by decide) k1_136 rfl (v := .ref (Γ.2.2 (73))) rfl dX5_news_32 ?_
        refine lv_iload hx hb dX5_news_35 (lv_at hl 4 rfl) ?_
        refine gi_i hf (fun hi6 hj7 hf => ?_)
        refine c_ild C hP cA_73 hi6 dX5_news_37 ?_
        exact r_iret (X := cE Γ) C hP hf dX5_news_38
      · have hf := if_f hc4 hf
        refine lv_ldc (v := -1000000001) hx hb hown (hts _ k2_153) dX5_news_21 ?_
        exact r_iret (X := cE Γ) C hP hf dX5_news_23
-- X5_widestSwing
theorem qX5_widestSwing : Cond.instanceMethod yX5_widestSwing ∈ Ub ∧ Cond.selects RX5 yX5_widestSwing yX5_widestSwing ∈ Ub ∧ Cond.initialized RX5 ∈ Ub ∧ Cond.code yX5_widestSwing cX5_widestSwing 5 (some FieldType.int) ∈ Ub ∧ (yX5_widestSwing.cls = RX5 ∧ yX5_widestSwing.cls ≠ "java/lang/invoke/MethodHandle" ∧ yX5_widestSwing.cls ≠ "java/lang/invoke/VarHandle" ∧ (parseMethodDescriptor yX5_widestSwing.desc).map (fun d => d.parameters.length) = some 2) := ⟨k3_59, ks_20, k1_1, k3_60, by decide +kernel⟩
def fX5_widestSwing_5   : Nat → cM → Int32 → Int32 → Int32 → Option (Int32 × cM)
  | 0, _, _, _, _ => none
  | n + 1, S, x2, x3, x4 =>
    if x2 < x4 then some (x3, S) else gi x4 61 ((fX5_widestSwing_5   n) S x2 (if x3 < (if 0 ≤ (S.1 73 (x4).toNatClampNeg) then (S.1 73 (x4).toNatClampNeg) else 0 - (S.1 73 (x4).toNatClampNeg)) then (if 0 ≤ (S.1 73 (x4).toNatClampNeg) then (S.1 73 (x4).toNatClampNeg) else 0 - (S.1 73 (x4).toNatClampNeg)) else x3) (x4 + (nI 1)))
set_option maxHeartbeats 4000000 in
set_option maxRecDepth 100000 in
theorem wX5_widestSwing_5 {p : Program} {l : Launch} {e : Env} {s : State} {m : MethodId} {args : Array Value} {below : List Frame} {meth : Method} {c : Code} {Γ : gG} {rz : Int32} {Sz : cM} (C : Cx Γ 74 p s m args meth c RX5 cX5_widestSwing 5 (some .int))   : ∀ n : Nat, ∀ (S : cM) (x2 : Int32) (x3 : Int32) (x4 : Int32) , fX5_widestSwing_5   n S x2 x3 x4 = some (rz, Sz) → ∀ (H : Heap) (locs : List Loc) (ls : Array Slot), St Γ 74 (cE Γ S) s.heap H locs → lv_has ls 5 [(0, .ref (Γ.2.2 (0))), (2, .int x2), (3, .int x3), (4, .int x4)] → W p l e { frames := 1, cells := 0, slots := 0, locals := 21 } s m args below meth c H locs 0 0 (MQ below (gQi Γ 74 rz (cE Γ Sz)) args s 0 0 (wA Γ 74)) (F0 m 5 ls []) := by
  obtain ⟨hx, hb, -, -, hown, hts, -, hwx, -⟩ := id C
  intro n
  induction n with
  | zero =>
    intro S x2 x3 x4 hf
    unfold fX5_widestSwing_5 at hf
    cases hf
  | succ n ih =>
    intro S x2 x3 x4 hf H locs ls hP hl
    unfold fX5_widestSwing_5 at hf
    refine lv_iload hx hb dX5_widestSwing_5 (lv_at hl 3 rfl) ?_
    refine lv_iload_n hx hb dX5_widestSwing_7 rfl (lv_at hl 1 rfl) ?_
    refine lv_icmp_gt (tgt := 32) hx hb dX5_widestSwing_8 (by decide) (fun hc1 => ?_) (fun hc1 => ?_)
    · have hf := if_t hc1 hf
      refine lv_iload_n hx hb dX5_widestSwing_32 rfl (lv_at hl 2 rfl) ?_
      exact r_iret (X := cE Γ) C hP hf dX5_widestSwing_33
    · have hf := if_f hc1 hf
      refine lv_iload_n hx hb dX5_widestSwing_11 rfl (lv_at hl 2 rfl) ?_
      refine lv_aload_n hx hb dX5_widestSwing_12 rfl (lv_at hl 0 rfl) ?_
      refine c0_get C hP 9 (by decide) k1_136 rfl (v := .ref (Γ.2.2 (73))) rfl dX5_widestSwing_13 ?_
      refine lv_iload hx hb dX5_widestSwing_16 (lv_at hl 3 rfl) ?_
      refine gi_i hf (fun hi2 hj3 hf => ?_)
      refine c_ild C hP cA_73 hi2 dX5_widestSwing_18 ?_
      refine va_mabs hx hb (by rw [C.2.2.2.1]; exact hl.1.symm) hown (hts _ k3_61) (hts _ k3_62) (hts _ k1_9) (hts _ k3_63) (Nat.le_of_ble_eq_true rfl) (Nat.le_of_ble_eq_true rfl) (Nat.le_refl 0) (Nat.le_refl 0) dX5_widestSwing_19 ?_
      refine va_mmax hx hb (by rw [C.2.2.2.1]; exact hl.1.symm) hown (hts _ k3_52) (hts _ k2_46) (hts _ k1_9) (hts _ k2_47) (Nat.le_of_ble_eq_true rfl) (Nat.le_of_ble_eq_true rfl) (Nat.le_refl 0) (Nat.le_refl 0) dX5_widestSwing_22 ?_
      refine lv_istore_n (lv' := [(3, .int (if x3 < (if 0 ≤ (S.1 73 (x4).toNatClampNeg) then (S.1 73 (x4).toNatClampNeg) else 0 - (S.1 73 (x4).toNatClampNeg)) then (if 0 ≤ (S.1 73 (x4).toNatClampNeg) then (S.1 73 (x4).toNatClampNeg) else 0 - (S.1 73 (x4).toNatClampNeg)) else x3)), (0, .ref (Γ.2.2 (0))), (2, .int x2), (4, .int x4)]) hx hb dX5_widestSwing_25 rfl hl (by decide) rfl (fun ls hl => ?_)
      refine lv_iinc (v := x4 + (nI 1)) (lv' := [(4, .int (x4 + (nI 1))), (3, .int (if x3 < (if 0 ≤ (S.1 73 (x4).toNatClampNeg) then (S.1 73 (x4).toNatClampNeg) else 0 - (S.1 73 (x4).toNatClampNeg)) then (if 0 ≤ (S.1 73 (x4).toNatClampNeg) then (S.1 73 (x4).toNatClampNeg) else 0 - (S.1 73 (x4).toNatClampNeg)) else x3)), (0, .ref (Γ.2.2 (0))), (2, .int x2)]) hx hb dX5_widestSwing_26 hl (k := 3) rfl rfl (by decide) rfl (fun ls hl => ?_)
      refine lv_goto (tgt := 5) hx hb dX5_widestSwing_29 (by decide) ?_
      exact ih S x2 (if x3 < (if 0 ≤ (S.1 73 (x4).toNatClampNeg) then (S.1 73 (x4).toNatClampNeg) else 0 - (S.1 73 (x4).toNatClampNeg)) then (if 0 ≤ (S.1 73 (x4).toNatClampNeg) then (S.1 73 (x4).toNatClampNeg) else 0 - (S.1 73 (x4).toNatClampNeg)) else x3) (x4 + (nI 1))  hf _ _ _ hP (lv_sub hl [2, 3, 1, 0] rfl)
def fX5_widestSwing  (S : cM) (x1 : Int32) (x2 : Int32) : Option (Int32 × cM) :=
  fX5_widestSwing_5   lF S x2 (nI 0) x1
set_option maxHeartbeats 4000000 in
set_option maxRecDepth 100000 in
theorem mX5_widestSwing (l : Launch) (Γ : gG)   {S : cM} {x1 : Int32} {x2 : Int32} {rz : Int32} {Sz : cM} (hf : fX5_widestSwing S x1 x2 = some (rz, Sz)) : CtI l Γ 74 yX5_widestSwing cX5_widestSwing 5 .int 1 21 [.ref (Γ.2.2 (0)), .int x1, .int x2] (cE Γ S) rz (cE Γ Sz) := by
  refine met_body (Γ := Γ) (lv := [(0, .ref (Γ.2.2 (0))), (1, .int x1), (2, .int x2)]) RX5 (by decide) rfl rfl rfl ?_
  intro p e s m below meth c H locs ls C hP hl
  obtain ⟨hx, hb, -, -, hown, hts, -, hwx, -⟩ := id C
  unfold fX5_widestSwing at hf
  refine lv_iconst (v := nI 0) hx hb dX5_widestSwing_0 rfl ?_
  refine lv_istore_n (lv' := [(3, .int (nI 0)), (0, .ref (Γ.2.2 (0))), (1, .int x1), (2, .int x2)]) hx hb dX5_widestSwing_1 rfl hl (by decide) rfl (fun ls hl => ?_)
  refine lv_iload_n hx hb dX5_widestSwing_2 rfl (lv_at hl 2 rfl) ?_
  refine lv_istore (lv' := [(4, .int x1), (3, .int (nI 0)), (0, .ref (Γ.2.2 (0))), (1, .int x1), (2, .int x2)]) hx hb dX5_widestSwing_3 hl (by decide) rfl (fun ls hl => ?_)
  exact wX5_widestSwing_5 C   lF S x2 (nI 0) x1  hf _ _ _ hP (lv_sub hl [2, 4, 1, 0] rfl)
-- X5_grows
theorem qX5_grows : Cond.instanceMethod yX5_grows ∈ Ub ∧ Cond.selects RX5 yX5_grows yX5_grows ∈ Ub ∧ Cond.initialized RX5 ∈ Ub ∧ Cond.code yX5_grows cX5_grows 4 (some FieldType.int) ∈ Ub ∧ (yX5_grows.cls = RX5 ∧ yX5_grows.cls ≠ "java/lang/invoke/MethodHandle" ∧ yX5_grows.cls ≠ "java/lang/invoke/VarHandle" ∧ (parseMethodDescriptor yX5_grows.desc).map (fun d => d.parameters.length) = some 3) := ⟨k3_54, k3_55, k1_1, k3_56, by decide +kernel⟩
def fX5_grows  (S : cM) (x1 : Int32) (x2 : Int32) (x3 : Int32) : Option (Int32 × cM) :=
  bd (fX5_areNews S x1 x2 x3) fun v1 S1 => ( if v1 = 0 then some ((-1), S1) else bv (fX5_swingFrom S1 x1 x2 x3) fun S3 => ( bd (fX5_widestSwing S3 (nI 31) (nI 60)) fun v4 S4 => ( bd (fX5_widestSwing S4 (nI 1) (nI 30)) fun v5 S5 => ( if v4 ≤ v5 then some (nI 0, S5) else some (nI 1, S5)))))
set_option maxHeartbeats 4000000 in
set_option maxRecDepth 100000 in
theorem mX5_grows (l : Launch) (Γ : gG)   {S : cM} {x1 : Int32} {x2 : Int32} {x3 : Int32} {rz : Int32} {Sz : cM} (hf : fX5_grows S x1 x2 x3 = some (rz, Sz)) : CtI l Γ 74 yX5_grows cX5_grows 4 .int 2 47 [.ref (Γ.2.2 (0)), .int x1, .int x2, .int x3] (cE Γ S) rz (cE Γ Sz) := by
  refine met_body (Γ := Γ) (lv := [(0, .ref (Γ.2.2 (0))), (1, .int x1), (2, .int x2), (3, .int x3)]) RX5 (by decide) rfl rfl rfl ?_
  intro p e s m below meth c H locs ls C hP hl
  obtain ⟨hx, hb, -, -, hown, hts, -, hwx, -⟩ := id C
  unfold fX5_grows at hf
  refine lv_iload_n hx hb dX5_grows_0 rfl (lv_at hl 1 rfl) ?_
  refine lv_iload_n hx hb dX5_grows_1 rfl (lv_at hl 2 rfl) ?_
  refine lv_iload_n hx hb dX5_grows_2 rfl (lv_at hl 3 rfl) ?_
  refine bd_i hf (fun v1 S1 hq1 hf => ?_)
  refine goI (runS (rest := []) (mX5_areNews l Γ  hq1) C hP hl.1 k3_45 qX5_areNews.1 qX5_areNews.2.1 qX5_areNews.2.2.1 rfl qX5_areNews.2.2.2 ⟨Nat.le_of_ble_eq_true rfl, Nat.le_of_ble_eq_true rfl⟩ ⟨Nat.le_refl 0, Nat.le_refl 0⟩ (Nat.le_of_ble_eq_true rfl) dX5_grows_3) hP (fun H locs hP => ?_)
  refine lv_if_ne (tgt := 11) hx hb dX5_grows_6 (by decide) (fun hc2 => ?_) (fun hc2 => ?_)
  · have hf := if_f hc2 hf
    refine lv_aload_n hx hb dX5_grows_11 rfl (lv_at hl 0 rfl) ?_
    refine lv_iload_n hx hb dX5_grows_12 rfl (lv_at hl 1 rfl) ?_
    refine lv_iload_n hx hb dX5_grows_13 rfl (lv_at hl 2 rfl) ?_
    refine lv_iload_n hx hb dX5_grows_14 rfl (lv_at hl 3 rfl) ?_
    refine bv_i hf (fun S3 hq3 hf => ?_)
    refine goV (runV (rest := []) (b := 0) (mX5_swingFrom l Γ  hq3) C hP hl.1 (by decide) cE0 rfl k3_48 qX5_swingFrom.1 qX5_swingFrom.2.1 qX5_swingFrom.2.2.1 qX5_swingFrom.2.2.2.1 rfl qX5_swingFrom.2.2.2.2 ⟨Nat.le_of_ble_eq_true rfl, Nat.le_of_ble_eq_true rfl⟩ ⟨Nat.le_refl 0, Nat.le_refl 0⟩ (Nat.le_of_ble_eq_true rfl) dX5_grows_15) hP (fun H locs hP => ?_)
    refine lv_aload_n hx hb dX5_grows_18 rfl (lv_at hl 0 rfl) ?_
    refine lv_bipush (v := nI 31) hx hb dX5_grows_19 rfl ?_
    refine lv_bipush (v := nI 60) hx hb dX5_grows_21 rfl ?_
    refine bd_i hf (fun v4 S4 hq4 hf => ?_)
    refine goI (runV (rest := []) (b := 0) (mX5_widestSwing l Γ  hq4) C hP hl.1 (by decide) cE0 rfl k3_57 qX5_widestSwing.1 qX5_widestSwing.2.1 qX5_widestSwing.2.2.1 qX5_widestSwing.2.2.2.1 rfl qX5_widestSwing.2.2.2.2 ⟨Nat.le_of_ble_eq_true rfl, Nat.le_of_ble_eq_true rfl⟩ ⟨Nat.le_refl 0, Nat.le_refl 0⟩ (Nat.le_of_ble_eq_true rfl) dX5_grows_23) hP (fun H locs hP => ?_)
    refine lv_aload_n hx hb dX5_grows_26 rfl (lv_at hl 0 rfl) ?_
    refine lv_iconst (v := nI 1) hx hb dX5_grows_27 rfl ?_
    refine lv_bipush (v := nI 30) hx hb dX5_grows_28 rfl ?_
    refine bd_i hf (fun v5 S5 hq5 hf => ?_)
    refine goI (runV (rest := [.int v4]) (b := 0) (mX5_widestSwing l Γ  hq5) C hP hl.1 (by decide) cE0 rfl k3_57 qX5_widestSwing.1 qX5_widestSwing.2.1 qX5_widestSwing.2.2.1 qX5_widestSwing.2.2.2.1 rfl qX5_widestSwing.2.2.2.2 ⟨Nat.le_of_ble_eq_true rfl, Nat.le_of_ble_eq_true rfl⟩ ⟨Nat.le_refl 0, Nat.le_refl 0⟩ (Nat.le_of_ble_eq_true rfl) dX5_grows_30) hP (fun H locs hP => ?_)
    refine lv_icmp_le (tgt := 40) hx hb dX5_grows_33 (by decide) (fun hc6 => ?_) (fun hc6 => ?_)
    · have hf := if_t hc6 hf
      refine lv_iconst (v := nI 0) hx hb dX5_grows_40 rfl ?_
      exact r_iret (X := cE Γ) C hP hf dX5_grows_41
    · have hf := if_f hc6 hf
      refine lv_iconst (v := nI 1) hx hb dX5_grows_36 rfl ?_
      refine lv_goto (tgt := 41) hx hb dX5_grows_37 (by decide) ?_
      exact r_iret (X := cE Γ) C hP hf dX5_grows_41
  · have hf := if_t hc2 hf
    refine lv_iconst (v := (-1)) hx hb dX5_grows_9 rfl ?_
    exact r_iret (X := cE Γ) C hP hf dX5_grows_10
-- X5_other
theorem qX5_other : Cond.instanceMethod yX5_other ∈ Ub ∧ Cond.selects RX5 yX5_other yX5_other ∈ Ub ∧ Cond.initialized RX5 ∈ Ub ∧ Cond.code yX5_other cX5_other 4 (some FieldType.int) ∈ Ub ∧ (yX5_other.cls = RX5 ∧ yX5_other.cls ≠ "java/lang/invoke/MethodHandle" ∧ yX5_other.cls ≠ "java/lang/invoke/VarHandle" ∧ (parseMethodDescriptor yX5_other.desc).map (fun d => d.parameters.length) = some 3) := ⟨k3_65, k3_66, k1_1, k3_67, by decide +kernel⟩
def fX5_other  (S : cM) (x1 : Int32) (x2 : Int32) (x3 : Int32) : Option (Int32 × cM) :=
  bd (fX5_isSort S x1) fun v1 S1 => ( if v1 = 0 then some ((-1), S1) else if x2 < 0 then some ((-1), S1) else if (nI 999) < x2 then some ((-1), S1) else if x3 < 0 then some ((-1), S1) else if x3 ≤ (nI 999) then gn S1.2.1 1 3 (bd (fX1_leastTime S1.2.1 S1 x1) fun v8 S8 => ( if v8 ≤ (x2 + x3) then some (nI 0, S8) else some (nI 1, S8))) else some ((-1), S1))
set_option maxHeartbeats 4000000 in
set_option maxRecDepth 100000 in
theorem mX5_other (l : Launch) (Γ : gG)   {S : cM} {x1 : Int32} {x2 : Int32} {x3 : Int32} {rz : Int32} {Sz : cM} (hf : fX5_other S x1 x2 x3 = some (rz, Sz)) : CtI l Γ 74 yX5_other cX5_other 4 .int 5 112 [.ref (Γ.2.2 (0)), .int x1, .int x2, .int x3] (cE Γ S) rz (cE Γ Sz) := by
  refine met_body (Γ := Γ) (lv := [(0, .ref (Γ.2.2 (0))), (1, .int x1), (2, .int x2), (3, .int x3)]) RX5 (by decide) rfl rfl rfl ?_
  intro p e s m below meth c H locs ls C hP hl
  obtain ⟨hx, hb, -, -, hown, hts, -, hwx, -⟩ := id C
  unfold fX5_other at hf
  refine lv_iload_n hx hb dX5_other_0 rfl (lv_at hl 1 rfl) ?_
  refine bd_i hf (fun v1 S1 hq1 hf => ?_)
  refine goI (runS (rest := []) (mX5_isSort l Γ  hq1) C hP hl.1 k2_78 qX5_isSort.1 qX5_isSort.2.1 qX5_isSort.2.2.1 rfl qX5_isSort.2.2.2 ⟨Nat.le_of_ble_eq_true rfl, Nat.le_of_ble_eq_true rfl⟩ ⟨Nat.le_refl 0, Nat.le_refl 0⟩ (Nat.le_of_ble_eq_true rfl) dX5_other_1) hP (fun H locs hP => ?_)
  refine lv_if_eq (tgt := 29) hx hb dX5_other_4 (by decide) (fun hc2 => ?_) (fun hc2 => ?_)
  · have hf := if_t hc2 hf
    refine lv_iconst (v := (-1)) hx hb dX5_other_29 rfl ?_
    exact r_iret (X := cE Γ) C hP hf dX5_other_30
  · have hf := if_f hc2 hf
    refine lv_iload_n hx hb dX5_other_7 rfl (lv_at hl 2 rfl) ?_
    refine lv_if_lt (tgt := 29) hx hb dX5_other_8 (by decide) (fun hc3 => ?_) (fun hc3 => ?_)
    · have hf := if_t hc3 hf
      refine lv_iconst (v := (-1)) hx hb dX5_other_29 rfl ?_
      exact r_iret (X := cE Γ) C hP hf dX5_other_30
    · have hf := if_f hc3 hf
      refine lv_iload_n hx hb dX5_other_11 rfl (lv_at hl 2 rfl) ?_
      refine lv_sipush (v := nI 999) hx hb dX5_other_12 rfl ?_
      refine lv_icmp_gt (tgt := 29) hx hb dX5_other_15 (by decide) (fun hc4 => ?_) (fun hc4 => ?_)
      · have hf := if_t hc4 hf
        refine lv_iconst (v := (-1)) hx hb dX5_other_29 rfl ?_
        exact r_iret (X := cE Γ) C hP hf dX5_other_30
      · have hf := if_f hc4 hf
        refine lv_iload_n hx hb dX5_other_18 rfl (lv_at hl 3 rfl) ?_
        refine lv_if_lt (tgt := 29) hx hb dX5_other_19 (by decide) (fun hc5 => ?_) (fun hc5 => ?_)
        · have hf := if_t hc5 hf
          refine lv_iconst (v := (-1)) hx hb dX5_other_29 rfl ?_
          exact r_iret (X := cE Γ) C hP hf dX5_other_30
        · have hf := if_f hc5 hf
          refine lv_iload_n hx hb dX5_other_22 rfl (lv_at hl 3 rfl) ?_
          refine lv_sipush (v := nI 999) hx hb dX5_other_23 rfl ?_
          refine lv_icmp_le (tgt := 31) hx hb dX5_other_26 (by decide) (fun hc6 => ?_) (fun hc6 => ?_)
          · have hf := if_t hc6 hf
            refine lv_iload_n hx hb dX5_other_31 rfl (lv_at hl 2 rfl) ?_
            refine lv_iload_n hx hb dX5_other_32 rfl (lv_at hl 3 rfl) ?_
            refine lv_iadd hx hb dX5_other_33 ?_
            refine lv_aload_n hx hb dX5_other_34 rfl (lv_at hl 0 rfl) ?_
            refine gn_i hf (fun hN7 hf => ?_)
            refine c0_get C hP 0 (by decide) k1_127 rfl (v := .ref (Γ.2.2 (S1.2.1))) rfl dX5_other_35 ?_
            refine lv_iload_n hx hb dX5_other_38 rfl (lv_at hl 1 rfl) ?_
            refine bd_i hf (fun v8 S8 hq8 hf => ?_)
            refine goI (runV (rest := [.int (x2 + x3)]) (mX1_leastTime l Γ hN7 hq8) C hP hl.1 (by have := hN7; omega) (cE1 hN7) rfl k2_127 qX1_leastTime.1 qX1_leastTime.2.1 qX1_leastTime.2.2.1 qX1_leastTime.2.2.2.1 rfl qX1_leastTime.2.2.2.2 ⟨Nat.le_of_ble_eq_true rfl, Nat.le_of_ble_eq_true rfl⟩ ⟨Nat.le_refl 0, Nat.le_refl 0⟩ (Nat.le_of_ble_eq_true rfl) dX5_other_39) hP (fun H locs hP => ?_)
            refine lv_icmp_ge (tgt := 49) hx hb dX5_other_42 (by decide) (fun hc9 => ?_) (fun hc9 => ?_)
            · have hf := if_t hc9 hf
              refine lv_iconst (v := nI 0) hx hb dX5_other_49 rfl ?_
              exact r_iret (X := cE Γ) C hP hf dX5_other_50
            · have hf := if_f hc9 hf
              refine lv_iconst (v := nI 1) hx hb dX5_other_45 rfl ?_
              refine lv_goto (tgt := 50) hx hb dX5_other_46 (by decide) ?_
              exact r_iret (X := cE Γ) C hP hf dX5_other_50
          · have hf := if_f hc6 hf
            refine lv_iconst (v := (-1)) hx hb dX5_other_29 rfl ?_
            exact r_iret (X := cE Γ) C hP hf dX5_other_30
-- X5_nextSeed
theorem qX5_nextSeed : Cond.static yX5_nextSeed ∈ Ub ∧ Cond.initialized RX5 ∈ Ub ∧ Cond.code yX5_nextSeed cX5_nextSeed 1 (some FieldType.int) ∈ Ub ∧ (yX5_nextSeed.cls = RX5 ∧ yX5_nextSeed.cls ≠ "java/lang/invoke/MethodHandle" ∧ yX5_nextSeed.cls ≠ "java/lang/invoke/VarHandle" ∧ (parseMethodDescriptor yX5_nextSeed.desc).map (fun d => d.parameters.length) = some 1) := ⟨k3_73, k1_1, k3_74, by decide +kernel⟩
def fX5_nextSeed  (S : cM) (x0 : Int32) : Option (Int32 × cM) :=
  some ((x0 * (nI 1103515245)) + (nI 12345), S)
set_option maxHeartbeats 4000000 in
set_option maxRecDepth 100000 in
theorem mX5_nextSeed (l : Launch) (Γ : gG)   {S : cM} {x0 : Int32} {rz : Int32} {Sz : cM} (hf : fX5_nextSeed S x0 = some (rz, Sz)) : CtI l Γ 74 yX5_nextSeed cX5_nextSeed 1 .int 0 0 [.int x0] (cE Γ S) rz (cE Γ Sz) := by
  refine met_body (Γ := Γ) (lv := [(0, .int x0)]) RX5 (by decide) rfl rfl rfl ?_
  intro p e s m below meth c H locs ls C hP hl
  obtain ⟨hx, hb, -, -, hown, hts, -, hwx, -⟩ := id C
  unfold fX5_nextSeed at hf
  refine lv_iload_n hx hb dX5_nextSeed_0 rfl (lv_at hl 0 rfl) ?_
  refine lv_ldcw (v := 1103515245) hx hb hown (hts _ k3_75) dX5_nextSeed_1 ?_
  rw [show (1103515245 : Int32) = nI 1103515245 from rfl]
  refine lv_imul hx hb dX5_nextSeed_4 ?_
  refine lv_sipush (v := nI 12345) hx hb dX5_nextSeed_5 rfl ?_
  refine lv_iadd hx hb dX5_nextSeed_8 ?_
  exact r_iret (X := cE Γ) C hP hf dX5_nextSeed_9
-- X5_draw
theorem qX5_draw : Cond.static yX5_draw ∈ Ub ∧ Cond.initialized RX5 ∈ Ub ∧ Cond.code yX5_draw cX5_draw 2 (some FieldType.int) ∈ Ub ∧ (yX5_draw.cls = RX5 ∧ yX5_draw.cls ≠ "java/lang/invoke/MethodHandle" ∧ yX5_draw.cls ≠ "java/lang/invoke/VarHandle" ∧ (parseMethodDescriptor yX5_draw.desc).map (fun d => d.parameters.length) = some 2) := ⟨k3_77, k1_1, k3_78, by decide +kernel⟩
def fX5_draw  (S : cM) (x0 : Int32) (x1 : Int32) : Option (Int32 × cM) :=
  if x1 ≤ 0 then some (nI 0, S) else gz x1 (some (((x0 &&& (nI 2147483647)) / (nI 65536)) - ((x0 &&& (nI 2147483647)) / (nI 65536)) / x1 * x1, S))
set_option maxHeartbeats 4000000 in
set_option maxRecDepth 100000 in
theorem mX5_draw (l : Launch) (Γ : gG)   {S : cM} {x0 : Int32} {x1 : Int32} {rz : Int32} {Sz : cM} (hf : fX5_draw S x0 x1 = some (rz, Sz)) : CtI l Γ 74 yX5_draw cX5_draw 2 .int 0 0 [.int x0, .int x1] (cE Γ S) rz (cE Γ Sz) := by
  refine met_body (Γ := Γ) (lv := [(0, .int x0), (1, .int x1)]) RX5 (by decide) rfl rfl rfl ?_
  intro p e s m below meth c H locs ls C hP hl
  obtain ⟨hx, hb, -, -, hown, hts, -, hwx, -⟩ := id C
  unfold fX5_draw at hf
  refine lv_iload_n hx hb dX5_draw_0 rfl (lv_at hl 1 rfl) ?_
  refine lv_if_le (tgt := 17) hx hb dX5_draw_1 (by decide) (fun hc1 => ?_) (fun hc1 => ?_)
  · have hf := if_t hc1 hf
    refine lv_iconst (v := nI 0) hx hb dX5_draw_17 rfl ?_
    exact r_iret (X := cE Γ) C hP hf dX5_draw_18
  · have hf := if_f hc1 hf
    refine lv_iload_n hx hb dX5_draw_4 rfl (lv_at hl 0 rfl) ?_
    refine lv_ldc (v := 2147483647) hx hb hown (hts _ k2_216) dX5_draw_5 ?_
    rw [show (2147483647 : Int32) = nI 2147483647 from rfl]
    refine lv_iand hx hb dX5_draw_7 ?_
    refine lv_ldcw (v := 65536) hx hb hown (hts _ k3_79) dX5_draw_8 ?_
    rw [show (65536 : Int32) = nI 65536 from rfl]
    refine lv_idiv hx hb dX5_draw_11 (by decide) ?_
    refine lv_iload_n hx hb dX5_draw_12 rfl (lv_at hl 1 rfl) ?_
    refine gz_i hf (fun hz2 hf => ?_)
    refine lv_irem hx hb dX5_draw_13 hz2 ?_
    refine lv_goto (tgt := 18) hx hb dX5_draw_14 (by decide) ?_
    exact r_iret (X := cE Γ) C hP hf dX5_draw_18
