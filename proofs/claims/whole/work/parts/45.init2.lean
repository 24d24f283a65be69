/-! ===== the constructor of a crossing ===== -/
/-- a crossing with its queues: 17 places -/
def crs (Γ : gG) (h0 : Nat) (u : Nat → Nat) : va_W := [(h0, .inr (0, [.ref (u 0), .int 0, .int 0, .int 0])), (u 0, .inl (Γ.2.1 1, 5, .inr (.inr (.inr (.inr (fun i => some (u (1 + 3 * i)))))))), (u 1, .inr (1, [.int 0, .int 0, .int 0, .int 0, .int 0, .ref (u 2), .ref (u 3)])), (u 2, .inl (Γ.2.1 0, 8, .inl (fun _ => 0))), (u 3, .inl (Γ.2.1 0, 4, .inl (fun _ => 0))), (u 4, .inr (1, [.int 0, .int 0, .int 0, .int 0, .int 0, .ref (u 5), .ref (u 6)])), (u 5, .inl (Γ.2.1 0, 8, .inl (fun _ => 0))), (u 6, .inl (Γ.2.1 0, 4, .inl (fun _ => 0))), (u 7, .inr (1, [.int 0, .int 0, .int 0, .int 0, .int 0, .ref (u 8), .ref (u 9)])), (u 8, .inl (Γ.2.1 0, 8, .inl (fun _ => 0))), (u 9, .inl (Γ.2.1 0, 4, .inl (fun _ => 0))), (u 10, .inr (1, [.int 0, .int 0, .int 0, .int 0, .int 0, .ref (u 11), .ref (u 12)])), (u 11, .inl (Γ.2.1 0, 8, .inl (fun _ => 0))), (u 12, .inl (Γ.2.1 0, 4, .inl (fun _ => 0))), (u 13, .inr (1, [.int 0, .int 0, .int 0, .int 0, .int 0, .ref (u 14), .ref (u 15)])), (u 14, .inl (Γ.2.1 0, 8, .inl (fun _ => 0))), (u 15, .inl (Γ.2.1 0, 4, .inl (fun _ => 0)))]
theorem hdX3 : yX3_init.name = "<init>" ∧ yX3_init.cls ≠ "java/lang/invoke/MethodHandle" ∧ yX3_init.cls ≠ "java/lang/invoke/VarHandle" ∧ (parseMethodDescriptor yX3_init.desc).map (fun d => d.parameters.length) = some 0 := by decide +kernel
theorem dfX3 : ∀ j, j < 7 → defaultValue (tyX3 j) = vp_V [.int 0, .int 0, .int 0, .int 0, .int 0, .null, .null] j := fun j hj => by rcases (show j = 0 ∨ j = 1 ∨ j = 2 ∨ j = 3 ∨ j = 4 ∨ j = 5 ∨ j = 6 by omega) with rfl | rfl | rfl | rfl | rfl | rfl | rfl <;> rfl
set_option maxHeartbeats 4000000 in
set_option maxRecDepth 100000 in
theorem n_Crossing (l : Launch) (Γ : gG) (h0 sz : Nat) : CtN (σ := Nat → Nat) l Γ yX1_init cX1_init 2 2 32 16 100 h0 0 [.null, .int 0, .int 0, .int 0] sz (fun _ => True) (fun u => crs Γ h0 u) := by
  refine met_init RX1 (by decide) rfl rfl rfl ?_
  intro p e s m below meth c ls C hI hr hlk hi hl
  have hx := C.1.1
  have hb := C.1.2.1
  refine lv_aload_n hx hb dX1_init_0 rfl (lv_at hl 0 rfl) ?_
  refine i_obj C hl.1 k1_29 ⟨Nat.le_of_ble_eq_true rfl, Nat.le_of_ble_eq_true rfl⟩ dX1_init_1 ?_
  refine lv_aload_n hx hb dX1_init_4 rfl (lv_at hl 0 rfl) ?_
  refine lv_iconst (v := 5) hx hb dX1_init_5 (by decide) ?_
  refine i_newQ (t0 := 1) C hI k1_30 C.2.2.1 rfl (by decide) rfl (by decide) ⟨Nat.le_of_ble_eq_true rfl, Nat.le_of_ble_eq_true rfl⟩ dX1_init_6 (fun qa H hI => ?_)
  refine i_putF iuX1 (ci := 0) (ty0 := tyX1) rfl tyX1_ok nmX1 C hI hi 0 0 rfl (by decide) k1_70 rfl rfl rfl rfl (Nat.le_of_ble_eq_true rfl) dX1_init_9 (fun H locs hI => ?_)
  have hI : Iw Γ _ [(h0, .inr (0, [.ref qa, .int 0, .int 0, .int 0])), (qa, .inl (Γ.2.1 1, 5, .inr (.inr (.inr (.inr (fun _ => none))))))] s.heap _ _ := hI
  refine lv_aload_n hx hb dX1_init_12 rfl (lv_at hl 0 rfl) ?_
  refine lv_iconst (v := 0) hx hb dX1_init_13 (by decide) ?_
  refine i_put iuX1 (ci := 0) (ty0 := tyX1) rfl tyX1_ok nmX1 C hI 0 1 rfl (by decide) k1_73 rfl rfl rfl (Nat.le_of_ble_eq_true rfl) dX1_init_14 (fun H locs hI => ?_)
  have hI : Iw Γ _ [(h0, .inr (0, [.ref qa, .int 0, .int 0, .int 0])), (qa, .inl (Γ.2.1 1, 5, .inr (.inr (.inr (.inr (fun _ => none))))))] s.heap _ _ := hI
  refine lv_aload_n hx hb dX1_init_17 rfl (lv_at hl 0 rfl) ?_
  refine lv_iconst (v := 0) hx hb dX1_init_18 (by decide) ?_
  refine i_put iuX1 (ci := 0) (ty0 := tyX1) rfl tyX1_ok nmX1 C hI 0 2 rfl (by decide) k1_76 rfl rfl rfl (Nat.le_of_ble_eq_true rfl) dX1_init_19 (fun H locs hI => ?_)
  have hI : Iw Γ _ [(h0, .inr (0, [.ref qa, .int 0, .int 0, .int 0])), (qa, .inl (Γ.2.1 1, 5, .inr (.inr (.inr (.inr (fun _ => none))))))] s.heap _ _ := hI
  refine lv_aload_n hx hb dX1_init_22 rfl (lv_at hl 0 rfl) ?_
  refine lv_iconst (v := 0) hx hb dX1_init_23 (by decide) ?_
  refine i_put iuX1 (ci := 0) (ty0 := tyX1) rfl tyX1_ok nmX1 C hI 0 3 rfl (by decide) k1_78 rfl rfl rfl (Nat.le_of_ble_eq_true rfl) dX1_init_24 (fun H locs hI => ?_)
  have hI : Iw Γ _ [(h0, .inr (0, [.ref qa, .int 0, .int 0, .int 0])), (qa, .inl (Γ.2.1 1, 5, .inr (.inr (.inr (.inr (fun _ => none))))))] s.heap _ _ := hI
  refine lv_iconst (v := 0) hx hb dX1_init_27 (by decide) ?_
  refine lv_istore_n (lv' := [(1, .int 0), (0, .ref h0)]) hx hb dX1_init_28 rfl hl (by decide) rfl (fun ls hl => ?_)
  refine lv_iload_n hx hb dX1_init_29 rfl (lv_at hl 0 rfl) ?_
  refine lv_iconst (v := 5) hx hb dX1_init_30 (by decide) ?_
  refine lv_icmp_ge (tgt := 53) hx hb dX1_init_31 (by decide) (fun h => absurd h (by decide)) (fun _ => ?_)
  refine lv_aload_n hx hb dX1_init_34 rfl (lv_at hl 1 rfl) ?_
  refine i_get iuX1 (ci := 0) (v := .ref qa) rfl C hI 0 0 rfl (by decide) k1_70 rfl dX1_init_35 ?_
  refine lv_iload_n hx hb dX1_init_38 rfl (lv_at hl 0 rfl) ?_
  refine i_new iuX3 (ci := 1) (fs := [.int 0, .int 0, .int 0, .int 0, .int 0, .null, .null]) rfl tyX3_ok C hI k1_30 k1_32 k1_3 dfX3 ⟨Nat.le_of_ble_eq_true rfl, Nat.le_of_ble_eq_true rfl⟩ dX1_init_39 (fun q0 H hI => ?_)
  refine lv_dup hx hb dX1_init_42 rfl ?_
  refine i_callN (wr := [(h0, .inr (0, [.ref qa, .int 0, .int 0, .int 0])), (qa, .inl (Γ.2.1 1, 5, .inr (.inr (.inr (.inr (fun _ => none))))))]) (n_Queue l Γ q0 _) C hI hl.1 C.2.2.2.2.1 k1_34 k1_3 k1_35 hdX3 ⟨Nat.le_of_ble_eq_true rfl, Nat.le_of_ble_eq_true rfl⟩ ⟨Nat.le_of_ble_eq_true rfl, Nat.le_of_ble_eq_true rfl⟩ (Nat.le_of_ble_eq_true rfl) dX1_init_43 (fun u0 H locs _ hI => ?_)
  have hI : Iw Γ _ [(h0, .inr (0, [.ref qa, .int 0, .int 0, .int 0])), (qa, .inl (Γ.2.1 1, 5, .inr (.inr (.inr (.inr (fun _ => none)))))), (q0, .inr (1, [.int 0, .int 0, .int 0, .int 0, .int 0, .ref u0.1, .ref u0.2])), (u0.1, .inl (Γ.2.1 0, 8, .inl (fun _ => 0))), (u0.2, .inl (Γ.2.1 0, 4, .inl (fun _ => 0)))] s.heap _ _ := hI
  refine i_ast (t0 := 1) (qk := 2) (ci := 1) (r := (RX3, TX3, 7)) C hI 1 rfl rfl rfl rfl (by unfold vp_in; decide) dX1_init_46 (fun H locs hI => ?_)
  have hI : Iw Γ _ [(h0, .inr (0, [.ref qa, .int 0, .int 0, .int 0])), (qa, .inl (Γ.2.1 1, 5, .inr (.inr (.inr (.inr (va_up (fun _ => none) 0 (some q0))))))), (q0, .inr (1, [.int 0, .int 0, .int 0, .int 0, .int 0, .ref u0.1, .ref u0.2])), (u0.1, .inl (Γ.2.1 0, 8, .inl (fun _ => 0))), (u0.2, .inl (Γ.2.1 0, 4, .inl (fun _ => 0)))] s.heap _ _ := hI
  refine lv_iinc (v := 1) (lv' := [(1, .int 1), (0, .ref h0)]) hx hb dX1_init_47 hl (k := 0) rfl (by decide) (by decide) rfl (fun ls hl => ?_)
  refine lv_goto (tgt := 29) hx hb dX1_init_50 (by decide) ?_
  refine lv_iload_n hx hb dX1_init_29 rfl (lv_at hl 0 rfl) ?_
  refine lv_iconst (v := 5) hx hb dX1_init_30 (by decide) ?_
  refine lv_icmp_ge (tgt := 53) hx hb dX1_init_31 (by decide) (fun h => absurd h (by decide)) (fun _ => ?_)
  refine lv_aload_n hx hb dX1_init_34 rfl (lv_at hl 1 rfl) ?_
  refine i_get iuX1 (ci := 0) (v := .ref qa) rfl C hI 0 0 rfl (by decide) k1_70 rfl dX1_init_35 ?_
  refine lv_iload_n hx hb dX1_init_38 rfl (lv_at hl 0 rfl) ?_
  refine i_new iuX3 (ci := 1) (fs := [.int 0, .int 0, .int 0, .int 0, .int 0, .null, .null]) rfl tyX3_ok C hI k1_30 k1_32 k1_3 dfX3 ⟨Nat.le_of_ble_eq_true rfl, Nat.le_of_ble_eq_true rfl⟩ dX1_init_39 (fun q1 H hI => ?_)
  refine lv_dup hx hb dX1_init_42 rfl ?_
  refine i_callN (wr := [(h0, .inr (0, [.ref qa, .int 0, .int 0, .int 0])), (qa, .inl (Γ.2.1 1, 5, .inr (.inr (.inr (.inr (va_up (fun _ => none) 0 (some q0))))))), (q0, .inr (1, [.int 0, .int 0, .int 0, .int 0, .int 0, .ref u0.1, .ref u0.2])), (u0.1, .inl (Γ.2.1 0, 8, .inl (fun _ => 0))), (u0.2, .inl (Γ.2.1 0, 4, .inl (fun _ => 0)))]) (n_Queue l Γ q1 _) C hI hl.1 C.2.2.2.2.1 k1_34 k1_3 k1_35 hdX3 ⟨Nat.le_of_ble_eq_true rfl, Nat.le_of_ble_eq_true rfl⟩ ⟨Nat.le_of_ble_eq_true rfl, Nat.le_of_ble_eq_true rfl⟩ (Nat.le_of_ble_eq_true rfl) dX1_init_43 (fun u1 H locs _ hI => ?_)
  have hI : Iw Γ _ [(h0, .inr (0, [.ref qa, .int 0, .int 0, .int 0])), (qa, .inl (Γ.2.1 1, 5, .inr (.inr (.inr (.inr (va_up (fun _ => none) 0 (some q0))))))), (q0, .inr (1, [.int 0, .int 0, .int 0, .int 0, .int 0, .ref u0.1, .ref u0.2])), (u0.1, .inl (Γ.2.1 0, 8, .inl (fun _ => 0))), (u0.2, .inl (Γ.2.1 0, 4, .inl (fun _ => 0))), (q1, .inr (1, [.int 0, .int 0, .int 0, .int 0, .int 0, .ref u1.1, .ref u1.2])), (u1.1, .inl (Γ.2.1 0, 8, .inl (fun _ => 0))), (u1.2, .inl (Γ.2.1 0, 4, .inl (fun _ => 0)))] s.heap _ _ := hI
  refine i_ast (t0 := 1) (qk := 5) (ci := 1) (r := (RX3, TX3, 7)) C hI 1 rfl rfl rfl rfl (by unfold vp_in; decide) dX1_init_46 (fun H locs hI => ?_)
  have hI : Iw Γ _ [(h0, .inr (0, [.ref qa, .int 0, .int 0, .int 0])), (qa, .inl (Γ.2.1 1, 5, .inr (.inr (.inr (.inr (va_up (va_up (fun _ => none) 0 (some q0)) 1 (some q1))))))), (q0, .inr (1, [.int 0, .int 0, .int 0, .int 0, .int 0, .ref u0.1, .ref u0.2])), (u0.1, .inl (Γ.2.1 0, 8, .inl (fun _ => 0))), (u0.2, .inl (Γ.2.1 0, 4, .inl (fun _ => 0))), (q1, .inr (1, [.int 0, .int 0, .int 0, .int 0, .int 0, .ref u1.1, .ref u1.2])), (u1.1, .inl (Γ.2.1 0, 8, .inl (fun _ => 0))), (u1.2, .inl (Γ.2.1 0, 4, .inl (fun _ => 0)))] s.heap _ _ := hI
  refine lv_iinc (v := 2) (lv' := [(1, .int 2), (0, .ref h0)]) hx hb dX1_init_47 hl (k := 0) rfl (by decide) (by decide) rfl (fun ls hl => ?_)
  refine lv_goto (tgt := 29) hx hb dX1_init_50 (by decide) ?_
  refine lv_iload_n hx hb dX1_init_29 rfl (lv_at hl 0 rfl) ?_
  refine lv_iconst (v := 5) hx hb dX1_init_30 (by decide) ?_
  refine lv_icmp_ge (tgt := 53) hx hb dX1_init_31 (by decide) (fun h => absurd h (by decide)) (fun _ => ?_)
  refine lv_aload_n hx hb dX1_init_34 rfl (lv_at hl 1 rfl) ?_
  refine i_get iuX1 (ci := 0) (v := .ref qa) rfl C hI 0 0 rfl (by decide) k1_70 rfl dX1_init_35 ?_
  refine lv_iload_n hx hb dX1_init_38 rfl (lv_at hl 0 rfl) ?_
  refine i_new iuX3 (ci := 1) (fs := [.int 0, .int 0, .int 0, .int 0, .int 0, .null, .null]) rfl tyX3_ok C hI k1_30 k1_32 k1_3 dfX3 ⟨Nat.le_of_ble_eq_true rfl, Nat.le_of_ble_eq_true rfl⟩ dX1_init_39 (fun q2 H hI => ?_)
  refine lv_dup hx hb dX1_init_42 rfl ?_
  refine i_callN (wr := [(h0, .inr (0, [.ref qa, .int 0, .int 0, .int 0])), (qa, .inl (Γ.2.1 1, 5, .inr (.inr (.inr (.inr (va_up (va_up (fun _ => none) 0 (some q0)) 1 (some q1))))))), (q0, .inr (1, [.int 0, .int 0, .int 0, .int 0, .int 0, .ref u0.1, .ref u0.2])), (u0.1, .inl (Γ.2.1 0, 8, .inl (fun _ => 0))), (u0.2, .inl (Γ.2.1 0, 4, .inl (fun _ => 0))), (q1, .inr (1, [.int 0, .int 0, .int 0, .int 0, .int 0, .ref u1.1, .ref u1.2])), (u1.1, .inl (Γ.2.1 0, 8, .inl (fun _ => 0))), (u1.2, .inl (Γ.2.1 0, 4, .inl (fun _ => 0)))]) (n_Queue l Γ q2 _) C hI hl.1 C.2.2.2.2.1 k1_34 k1_3 k1_35 hdX3 ⟨Nat.le_of_ble_eq_true rfl, Nat.le_of_ble_eq_true rfl⟩ ⟨Nat.le_of_ble_eq_true rfl, Nat.le_of_ble_eq_true rfl⟩ (Nat.le_of_ble_eq_true rfl) dX1_init_43 (fun u2 H locs _ hI => ?_)
  have hI : Iw Γ _ [(h0, .inr (0, [.ref qa, .int 0, .int 0, .int 0])), (qa, .inl (Γ.2.1 1, 5, .inr (.inr (.inr (.inr (va_up (va_up (fun _ => none) 0 (some q0)) 1 (some q1))))))), (q0, .inr (1, [.int 0, .int 0, .int 0, .int 0, .int 0, .ref u0.1, .ref u0.2])), (u0.1, .inl (Γ.2.1 0, 8, .inl (fun _ => 0))), (u0.2, .inl (Γ.2.1 0, 4, .inl (fun _ => 0))), (q1, .inr (1, [.int 0, .int 0, .int 0, .int 0, .int 0, .ref u1.1, .ref u1.2])), (u1.1, .inl (Γ.2.1 0, 8, .inl (fun _ => 0))), (u1.2, .inl (Γ.2.1 0, 4, .inl (fun _ => 0))), (q2, .inr (1, [.int 0, .int 0, .int 0, .int 0, .int 0, .ref u2.1, .ref u2.2])), (u2.1, .inl (Γ.2.1 0, 8, .inl (fun _ => 0))), (u2.2, .inl (Γ.2.1 0, 4, .inl (fun _ => 0)))] s.heap _ _ := hI
  refine i_ast (t0 := 1) (qk := 8) (ci := 1) (r := (RX3, TX3, 7)) C hI 1 rfl rfl rfl rfl (by unfold vp_in; decide) dX1_init_46 (fun H locs hI => ?_)
  have hI : Iw Γ _ [(h0, .inr (0, [.ref qa, .int 0, .int 0, .int 0])), (qa, .inl (Γ.2.1 1, 5, .inr (.inr (.inr (.inr (va_up (va_up (va_up (fun _ => none) 0 (some q0)) 1 (some q1)) 2 (some q2))))))), (q0, .inr (1, [.int 0, .int 0, .int 0, .int 0, .int 0, .ref u0.1, .ref u0.2])), (u0.1, .inl (Γ.2.1 0, 8, .inl (fun _ => 0))), (u0.2, .inl (Γ.2.1 0, 4, .inl (fun _ => 0))), (q1, .inr (1, [.int 0, .int 0, .int 0, .int 0, .int 0, .ref u1.1, .ref u1.2])), (u1.1, .inl (Γ.2.1 0, 8, .inl (fun _ => 0))), (u1.2, .inl (Γ.2.1 0, 4, .inl (fun _ => 0))), (q2, .inr (1, [.int 0, .int 0, .int 0, .int 0, .int 0, .ref u2.1, .ref u2.2])), (u2.1, .inl (Γ.2.1 0, 8, .inl (fun _ => 0))), (u2.2, .inl (Γ.2.1 0, 4, .inl (fun _ => 0)))] s.heap _ _ := hI
  refine lv_iinc (v := 3) (lv' := [(1, .int 3), (0, .ref h0)]) hx hb dX1_init_47 hl (k := 0) rfl (by decide) (by decide) rfl (fun ls hl => ?_)
  refine lv_goto (tgt := 29) hx hb dX1_init_50 (by decide) ?_
  refine lv_iload_n hx hb dX1_init_29 rfl (lv_at hl 0 rfl) ?_
  refine lv_iconst (v := 5) hx hb dX1_init_30 (by decide) ?_
  refine lv_icmp_ge (tgt := 53) hx hb dX1_init_31 (by decide) (fun h => absurd h (by decide)) (fun _ => ?_)
  refine lv_aload_n hx hb dX1_init_34 rfl (lv_at hl 1 rfl) ?_
  refine i_get iuX1 (ci := 0) (v := .ref qa) rfl C hI 0 0 rfl (by decide) k1_70 rfl dX1_init_35 ?_
  refine lv_iload_n hx hb dX1_init_38 rfl (lv_at hl 0 rfl) ?_
  refine i_new iuX3 (ci := 1) (fs := [.int 0, .int 0, .int 0, .int 0, .int 0, .null, .null]) rfl tyX3_ok C hI k1_30 k1_32 k1_3 dfX3 ⟨Nat.le_of_ble_eq_true rfl, Nat.le_of_ble_eq_true rfl⟩ dX1_init_39 (fun q3 H hI => ?_)
  refine lv_dup hx hb dX1_init_42 rfl ?_
  refine i_callN (wr := [(h0, .inr (0, [.ref qa, .int 0, .int 0, .int 0])), (qa, .inl (Γ.2.1 1, 5, .inr (.inr (.inr (.inr (va_up (va_up (va_up (fun _ => none) 0 (some q0)) 1 (some q1)) 2 (some q2))))))), (q0, .inr (1, [.int 0, .int 0, .int 0, .int 0, .int 0, .ref u0.1, .ref u0.2])), (u0.1, .inl (Γ.2.1 0, 8, .inl (fun _ => 0))), (u0.2, .inl (Γ.2.1 0, 4, .inl (fun _ => 0))), (q1, .inr (1, [.int 0, .int 0, .int 0, .int 0, .int 0, .ref u1.1, .ref u1.2])), (u1.1, .inl (Γ.2.1 0, 8, .inl (fun _ => 0))), (u1.2, .inl (Γ.2.1 0, 4, .inl (fun _ => 0))), (q2, .inr (1, [.int 0, .int 0, .int 0, .int 0, .int 0, .ref u2.1, .ref u2.2])), (u2.1, .inl (Γ.2.1 0, 8, .inl (fun _ => 0))), (u2.2, .inl (Γ.2.1 0, 4, .inl (fun _ => 0)))]) (n_Queue l Γ q3 _) C hI hl.1 C.2.2.2.2.1 k1_34 k1_3 k1_35 hdX3 ⟨Nat.le_of_ble_eq_true rfl, Nat.le_of_ble_eq_true rfl⟩ ⟨Nat.le_of_ble_eq_true rfl, Nat.le_of_ble_eq_true rfl⟩ (Nat.le_of_ble_eq_true rfl) dX1_init_43 (fun u3 H locs _ hI => ?_)
  have hI : Iw Γ _ [(h0, .inr (0, [.ref qa, .int 0, .int 0, .int 0])), (qa, .inl (Γ.2.1 1, 5, .inr (.inr (.inr (.inr (va_up (va_up (va_up (fun _ => none) 0 (some q0)) 1 (some q1)) 2 (some q2))))))), (q0, .inr (1, [.int 0, .int 0, .int 0, .int 0, .int 0, .ref u0.1, .ref u0.2])), (u0.1, .inl (Γ.2.1 0, 8, .inl (fun _ => 0))), (u0.2, .inl (Γ.2.1 0, 4, .inl (fun _ => 0))), (q1, .inr (1, [.int 0, .int 0, .int 0, .int 0, .int 0, .ref u1.1, .ref u1.2])), (u1.1, .inl (Γ.2.1 0, 8, .inl (fun _ => 0))), (u1.2, .inl (Γ.2.1 0, 4, .inl (fun _ => 0))), (q2, .inr (1, [.int 0, .int 0, .int 0, .int 0, .int 0, .ref u2.1, .ref u2.2])), (u2.1, .inl (Γ.2.1 0, 8, .inl (fun _ => 0))), (u2.2, .inl (Γ.2.1 0, 4, .inl (fun _ => 0))), (q3, .inr (1, [.int 0, .int 0, .int 0, .int 0, .int 0, .ref u3.1, .ref u3.2])), (u3.1, .inl (Γ.2.1 0, 8, .inl (fun _ => 0))), (u3.2, .inl (Γ.2.1 0, 4, .inl (fun _ => 0)))] s.heap _ _ := hI
  refine i_ast (t0 := 1) (qk := 11) (ci := 1) (r := (RX3, TX3, 7)) C hI 1 rfl rfl rfl rfl (by unfold vp_in; decide) dX1_init_46 (fun H locs hI => ?_)
  have hI : Iw Γ _ [(h0, .inr (0, [.ref qa, .int 0, .int 0, .int 0])), (qa, .inl (Γ.2.1 1, 5, .inr (.inr (.inr (.inr (va_up (va_up (va_up (va_up (fun _ => none) 0 (some q0)) 1 (some q1)) 2 (some q2)) 3 (some q3))))))), (q0, .inr (1, [.int 0, .int 0, .int 0, .int 0, .int 0, .ref u0.1, .ref u0.2])), (u0.1, .inl (Γ.2.1 0, 8, .inl (fun _ => 0))), (u0.2, .inl (Γ.2.1 0, 4, .inl (fun _ => 0))), (q1, .inr (1, [.int 0, .int 0, .int 0, .int 0, .int 0, .ref u1.1, .ref u1.2])), (u1.1, .inl (Γ.2.1 0, 8, .inl (fun _ => 0))), (u1.2, .inl (Γ.2.1 0, 4, .inl (fun _ => 0))), (q2, .inr (1, [.int 0, .int 0, .int 0, .int 0, .int 0, .ref u2.1, .ref u2.2])), (u2.1, .inl (Γ.2.1 0, 8, .inl (fun _ => 0))), (u2.2, .inl (Γ.2.1 0, 4, .inl (fun _ => 0))), (q3, .inr (1, [.int 0, .int 0, .int 0, .int 0, .int 0, .ref u3.1, .ref u3.2])), (u3.1, .inl (Γ.2.1 0, 8, .inl (fun _ => 0))), (u3.2, .inl (Γ.2.1 0, 4, .inl (fun _ => 0)))] s.heap _ _ := hI
  refine lv_iinc (v := 4) (lv' := [(1, .int 4), (0, .ref h0)]) hx hb dX1_init_47 hl (k := 0) rfl (by decide) (by decide) rfl (fun ls hl => ?_)
  refine lv_goto (tgt := 29) hx hb dX1_init_50 (by decide) ?_
  refine lv_iload_n hx hb dX1_init_29 rfl (lv_at hl 0 rfl) ?_
  refine lv_iconst (v := 5) hx hb dX1_init_30 (by decide) ?_
  refine lv_icmp_ge (tgt := 53) hx hb dX1_init_31 (by decide) (fun h => absurd h (by decide)) (fun _ => ?_)
  refine lv_aload_n hx hb dX1_init_34 rfl (lv_at hl 1 rfl) ?_
  refine i_get iuX1 (ci := 0) (v := .ref qa) rfl C hI 0 0 rfl (by decide) k1_70 rfl dX1_init_35 ?_
  refine lv_iload_n hx hb dX1_init_38 rfl (lv_at hl 0 rfl) ?_
  refine i_new iuX3 (ci := 1) (fs := [.int 0, .int 0, .int 0, .int 0, .int 0, .null, .null]) rfl tyX3_ok C hI k1_30 k1_32 k1_3 dfX3 ⟨Nat.le_of_ble_eq_true rfl, Nat.le_of_ble_eq_true rfl⟩ dX1_init_39 (fun q4 H hI => ?_)
  refine lv_dup hx hb dX1_init_42 rfl ?_
  refine i_callN (wr := [(h0, .inr (0, [.ref qa, .int 0, .int 0, .int 0])), (qa, .inl (Γ.2.1 1, 5, .inr (.inr (.inr (.inr (va_up (va_up (va_up (va_up (fun _ => none) 0 (some q0)) 1 (some q1)) 2 (some q2)) 3 (some q3))))))), (q0, .inr (1, [.int 0, .int 0, .int 0, .int 0, .int 0, .ref u0.1, .ref u0.2])), (u0.1, .inl (Γ.2.1 0, 8, .inl (fun _ => 0))), (u0.2, .inl (Γ.2.1 0, 4, .inl (fun _ => 0))), (q1, .inr (1, [.int 0, .int 0, .int 0, .int 0, .int 0, .ref u1.1, .ref u1.2])), (u1.1, .inl (Γ.2.1 0, 8, .inl (fun _ => 0))), (u1.2, .inl (Γ.2.1 0, 4, .inl (fun _ => 0))), (q2, .inr (1, [.int 0, .int 0, .int 0, .int 0, .int 0, .ref u2.1, .ref u2.2])), (u2.1, .inl (Γ.2.1 0, 8, .inl (fun _ => 0))), (u2.2, .inl (Γ.2.1 0, 4, .inl (fun _ => 0))), (q3, .inr (1, [.int 0, .int 0, .int 0, .int 0, .int 0, .ref u3.1, .ref u3.2])), (u3.1, .inl (Γ.2.1 0, 8, .inl (fun _ => 0))), (u3.2, .inl (Γ.2.1 0, 4, .inl (fun _ => 0)))]) (n_Queue l Γ q4 _) C hI hl.1 C.2.2.2.2.1 k1_34 k1_3 k1_35 hdX3 ⟨Nat.le_of_ble_eq_true rfl, Nat.le_of_ble_eq_true rfl⟩ ⟨Nat.le_of_ble_eq_true rfl, Nat.le_of_ble_eq_true rfl⟩ (Nat.le_of_ble_eq_true rfl) dX1_init_43 (fun u4 H locs _ hI => ?_)
  have hI : Iw Γ _ [(h0, .inr (0, [.ref qa, .int 0, .int 0, .int 0])), (qa, .inl (Γ.2.1 1, 5, .inr (.inr (.inr (.inr (va_up (va_up (va_up (va_up (fun _ => none) 0 (some q0)) 1 (some q1)) 2 (some q2)) 3 (some q3))))))), (q0, .inr (1, [.int 0, .int 0, .int 0, .int 0, .int 0, .ref u0.1, .ref u0.2])), (u0.1, .inl (Γ.2.1 0, 8, .inl (fun _ => 0))), (u0.2, .inl (Γ.2.1 0, 4, .inl (fun _ => 0))), (q1, .inr (1, [.int 0, .int 0, .int 0, .int 0, .int 0, .ref u1.1, .ref u1.2])), (u1.1, .inl (Γ.2.1 0, 8, .inl (fun _ => 0))), (u1.2, .inl (Γ.2.1 0, 4, .inl (fun _ => 0))), (q2, .inr (1, [.int 0, .int 0, .int 0, .int 0, .int 0, .ref u2.1, .ref u2.2])), (u2.1, .inl (Γ.2.1 0, 8, .inl (fun _ => 0))), (u2.2, .inl (Γ.2.1 0, 4, .inl (fun _ => 0))), (q3, .inr (1, [.int 0, .int 0, .int 0, .int 0, .int 0, .ref u3.1, .ref u3.2])), (u3.1, .inl (Γ.2.1 0, 8, .inl (fun _ => 0))), (u3.2, .inl (Γ.2.1 0, 4, .inl (fun _ => 0))), (q4, .inr (1, [.int 0, .int 0, .int 0, .int 0, .int 0, .ref u4.1, .ref u4.2])), (u4.1, .inl (Γ.2.1 0, 8, .inl (fun _ => 0))), (u4.2, .inl (Γ.2.1 0, 4, .inl (fun _ => 0)))] s.heap _ _ := hI
  refine i_ast (t0 := 1) (qk := 14) (ci := 1) (r := (RX3, TX3, 7)) C hI 1 rfl rfl rfl rfl (by unfold vp_in; decide) dX1_init_46 (fun H locs hI => ?_)
  have hI : Iw Γ _ [(h0, .inr (0, [.ref qa, .int 0, .int 0, .int 0])), (qa, .inl (Γ.2.1 1, 5, .inr (.inr (.inr (.inr (va_up (va_up (va_up (va_up (va_up (fun _ => none) 0 (some q0)) 1 (some q1)) 2 (some q2)) 3 (some q3)) 4 (some q4))))))), (q0, .inr (1, [.int 0, .int 0, .int 0, .int 0, .int 0, .ref u0.1, .ref u0.2])), (u0.1, .inl (Γ.2.1 0, 8, .inl (fun _ => 0))), (u0.2, .inl (Γ.2.1 0, 4, .inl (fun _ => 0))), (q1, .inr (1, [.int 0, .int 0, .int 0, .int 0, .int 0, .ref u1.1, .ref u1.2])), (u1.1, .inl (Γ.2.1 0, 8, .inl (fun _ => 0))), (u1.2, .inl (Γ.2.1 0, 4, .inl (fun _ => 0))), (q2, .inr (1, [.int 0, .int 0, .int 0, .int 0, .int 0, .ref u2.1, .ref u2.2])), (u2.1, .inl (Γ.2.1 0, 8, .inl (fun _ => 0))), (u2.2, .inl (Γ.2.1 0, 4, .inl (fun _ => 0))), (q3, .inr (1, [.int 0, .int 0, .int 0, .int 0, .int 0, .ref u3.1, .ref u3.2])), (u3.1, .inl (Γ.2.1 0, 8, .inl (fun _ => 0))), (u3.2, .inl (Γ.2.1 0, 4, .inl (fun _ => 0))), (q4, .inr (1, [.int 0, .int 0, .int 0, .int 0, .int 0, .ref u4.1, .ref u4.2])), (u4.1, .inl (Γ.2.1 0, 8, .inl (fun _ => 0))), (u4.2, .inl (Γ.2.1 0, 4, .inl (fun _ => 0)))] s.heap _ _ := hI
  refine lv_iinc (v := 5) (lv' := [(1, .int 5), (0, .ref h0)]) hx hb dX1_init_47 hl (k := 0) rfl (by decide) (by decide) rfl (fun ls hl => ?_)
  refine lv_goto (tgt := 29) hx hb dX1_init_50 (by decide) ?_
  refine lv_iload_n hx hb dX1_init_29 rfl (lv_at hl 0 rfl) ?_
  refine lv_iconst (v := 5) hx hb dX1_init_30 (by decide) ?_
  refine lv_icmp_ge (tgt := 53) hx hb dX1_init_31 (by decide) (fun _ => ?_) (fun h => absurd (by decide) h)
  have hI := i_swap (k := 1) (g := fun i => some ((fun k => ([qa, q0, u0.1, u0.2, q1, u1.1, u1.2, q2, u2.1, u2.2, q3, u3.1, u3.2, q4, u4.1, u4.2] : List Nat).getD k 0) (1 + 3 * i))) hI rfl (fun i hi => by rcases (show i = 0 ∨ i = 1 ∨ i = 2 ∨ i = 3 ∨ i = 4 by omega) with rfl | rfl | rfl | rfl | rfl <;> rfl)
  refine W.widen (k := 16) (n := 100) (Nat.le_of_ble_eq_true rfl) (Nat.le_of_ble_eq_true rfl) ?_
  exact i_end C hr hlk (fun k => ([qa, q0, u0.1, u0.2, q1, u1.1, u1.2, q2, u2.1, u2.2, q3, u3.1, u3.2, q4, u4.1, u4.2] : List Nat).getD k 0) trivial hI dX1_init_53
