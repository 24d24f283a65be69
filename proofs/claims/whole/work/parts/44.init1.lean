/-! ===== constructors of a queue and of a shelf ===== -/
set_option maxHeartbeats 4000000 in
set_option maxRecDepth 100000 in
theorem n_Queue (l : Launch) (Γ : gG) (h0 sz : Nat) : CtN (σ := Nat × Nat) l Γ yX3_init cX3_init 1 1 12 2 12 h0 1 [.int 0, .int 0, .int 0, .int 0, .int 0, .null, .null] sz (fun _ => True) (fun u => [(h0, .inr (1, [.int 0, .int 0, .int 0, .int 0, .int 0, .ref u.1, .ref u.2])), (u.1, .inl (Γ.2.1 0, 8, .inl (fun _ => 0))), (u.2, .inl (Γ.2.1 0, 4, .inl (fun _ => 0)))]) := by
  refine met_init RX3 (by decide) rfl rfl rfl ?_
  intro p e s m below meth c ls C hI hr hlk hi hl
  have hx := C.1.1
  have hb := C.1.2.1
  refine lv_aload_n hx hb dX3_init_0 rfl (lv_at hl 0 rfl) ?_
  refine i_obj C hl.1 k1_36 ⟨Nat.le_of_ble_eq_true rfl, Nat.le_of_ble_eq_true rfl⟩ dX3_init_1 ?_
  refine lv_aload_n hx hb dX3_init_4 rfl (lv_at hl 0 rfl) ?_
  refine lv_iconst (v := 0) hx hb dX3_init_5 (by decide) ?_
  refine i_put iuX3 (ci := 1) (ty0 := tyX3) rfl tyX3_ok nmX3 C hI 0 0 rfl (by decide) k1_37 rfl rfl rfl (Nat.le_of_ble_eq_true rfl) dX3_init_6 (fun H locs hI => ?_)
  have hI : Iw Γ _ [(h0, .inr (1, [.int 0, .int 0, .int 0, .int 0, .int 0, .null, .null]))] s.heap _ _ := hI
  refine lv_aload_n hx hb dX3_init_9 rfl (lv_at hl 0 rfl) ?_
  refine lv_iconst (v := 0) hx hb dX3_init_10 (by decide) ?_
  refine i_put iuX3 (ci := 1) (ty0 := tyX3) rfl tyX3_ok nmX3 C hI 0 1 rfl (by decide) k1_40 rfl rfl rfl (Nat.le_of_ble_eq_true rfl) dX3_init_11 (fun H locs hI => ?_)
  have hI : Iw Γ _ [(h0, .inr (1, [.int 0, .int 0, .int 0, .int 0, .int 0, .null, .null]))] s.heap _ _ := hI
  refine lv_aload_n hx hb dX3_init_14 rfl (lv_at hl 0 rfl) ?_
  refine lv_iconst (v := 0) hx hb dX3_init_15 (by decide) ?_
  refine i_put iuX3 (ci := 1) (ty0 := tyX3) rfl tyX3_ok nmX3 C hI 0 2 rfl (by decide) k1_43 rfl rfl rfl (Nat.le_of_ble_eq_true rfl) dX3_init_16 (fun H locs hI => ?_)
  have hI : Iw Γ _ [(h0, .inr (1, [.int 0, .int 0, .int 0, .int 0, .int 0, .null, .null]))] s.heap _ _ := hI
  refine lv_aload_n hx hb dX3_init_19 rfl (lv_at hl 0 rfl) ?_
  refine lv_iconst (v := 0) hx hb dX3_init_20 (by decide) ?_
  refine i_put iuX3 (ci := 1) (ty0 := tyX3) rfl tyX3_ok nmX3 C hI 0 3 rfl (by decide) k1_46 rfl rfl rfl (Nat.le_of_ble_eq_true rfl) dX3_init_21 (fun H locs hI => ?_)
  have hI : Iw Γ _ [(h0, .inr (1, [.int 0, .int 0, .int 0, .int 0, .int 0, .null, .null]))] s.heap _ _ := hI
  refine lv_aload_n hx hb dX3_init_24 rfl (lv_at hl 0 rfl) ?_
  refine lv_iconst (v := 0) hx hb dX3_init_25 (by decide) ?_
  refine i_put iuX3 (ci := 1) (ty0 := tyX3) rfl tyX3_ok nmX3 C hI 0 4 rfl (by decide) k1_48 rfl rfl rfl (Nat.le_of_ble_eq_true rfl) dX3_init_26 (fun H locs hI => ?_)
  have hI : Iw Γ _ [(h0, .inr (1, [.int 0, .int 0, .int 0, .int 0, .int 0, .null, .null]))] s.heap _ _ := hI
  refine lv_aload_n hx hb dX3_init_29 rfl (lv_at hl 0 rfl) ?_
  refine lv_bipush (v := 8) hx hb dX3_init_30 rfl ?_
  refine i_newA (atype := .int) (t0 := 0) (a0 := (8, .inl (fun _ => 0))) C hI k1_69 rfl (fun _ _ h => h) (fun _ => rfl) (by decide) rfl (by decide) ⟨Nat.le_of_ble_eq_true rfl, Nat.le_of_ble_eq_true rfl⟩ dX3_init_32 (fun qa H hI => ?_)
  refine i_putF iuX3 (ci := 1) (ty0 := tyX3) rfl tyX3_ok nmX3 C hI hi 0 5 rfl (by decide) k1_50 rfl rfl rfl rfl (Nat.le_of_ble_eq_true rfl) dX3_init_34 (fun H locs hI => ?_)
  have hI : Iw Γ _ [(h0, .inr (1, [.int 0, .int 0, .int 0, .int 0, .int 0, .ref qa, .null])), (qa, .inl (Γ.2.1 0, 8, .inl (fun _ => 0)))] s.heap _ _ := hI
  refine lv_aload_n hx hb dX3_init_37 rfl (lv_at hl 0 rfl) ?_
  refine lv_iconst (v := 4) hx hb dX3_init_38 (by decide) ?_
  refine i_newA (atype := .int) (t0 := 0) (a0 := (4, .inl (fun _ => 0))) C hI k1_69 rfl (fun _ _ h => h) (fun _ => rfl) (by decide) rfl (by decide) ⟨Nat.le_of_ble_eq_true rfl, Nat.le_of_ble_eq_true rfl⟩ dX3_init_39 (fun qb H hI => ?_)
  refine i_putF iuX3 (ci := 1) (ty0 := tyX3) rfl tyX3_ok nmX3 C hI hi 0 6 rfl (by decide) k1_53 rfl rfl rfl rfl (Nat.le_of_ble_eq_true rfl) dX3_init_41 (fun H locs hI => ?_)
  have hI : Iw Γ _ [(h0, .inr (1, [.int 0, .int 0, .int 0, .int 0, .int 0, .ref qa, .ref qb])), (qa, .inl (Γ.2.1 0, 8, .inl (fun _ => 0))), (qb, .inl (Γ.2.1 0, 4, .inl (fun _ => 0)))] s.heap _ _ := hI
  refine W.widen (k := 2) (n := 12) (Nat.le_of_ble_eq_true rfl) (Nat.le_of_ble_eq_true rfl) ?_
  exact i_end C hr hlk (qa, qb) trivial hI dX3_init_44
set_option maxHeartbeats 4000000 in
set_option maxRecDepth 100000 in
theorem n_Shelf (l : Launch) (Γ : gG) (h0 sz : Nat) : CtN (σ := Nat) l Γ yX4_init cX4_init 1 1 12 1 100 h0 2 [.int 0, .int 0, .int 0, .int 0, .int 0, .int 0, .null] sz (fun _ => True) (fun u => [(h0, .inr (2, [.int 0, .int 0, .int 0, .int 0, .int 0, .int 0, .ref u])), (u, .inl (Γ.2.1 0, 100, .inl (fun _ => 0)))]) := by
  refine met_init RX4 (by decide) rfl rfl rfl ?_
  intro p e s m below meth c ls C hI hr hlk hi hl
  have hx := C.1.1
  have hb := C.1.2.1
  refine lv_aload_n hx hb dX4_init_0 rfl (lv_at hl 0 rfl) ?_
  refine i_obj C hl.1 k1_95 ⟨Nat.le_of_ble_eq_true rfl, Nat.le_of_ble_eq_true rfl⟩ dX4_init_1 ?_
  refine lv_aload_n hx hb dX4_init_4 rfl (lv_at hl 0 rfl) ?_
  refine lv_iconst (v := 0) hx hb dX4_init_5 (by decide) ?_
  refine i_put iuX4 (ci := 2) (ty0 := tyX4) rfl tyX4_ok nmX4 C hI 0 0 rfl (by decide) k1_96 rfl rfl rfl (Nat.le_of_ble_eq_true rfl) dX4_init_6 (fun H locs hI => ?_)
  have hI : Iw Γ _ [(h0, .inr (2, [.int 0, .int 0, .int 0, .int 0, .int 0, .int 0, .null]))] s.heap _ _ := hI
  refine lv_aload_n hx hb dX4_init_9 rfl (lv_at hl 0 rfl) ?_
  refine lv_iconst (v := 0) hx hb dX4_init_10 (by decide) ?_
  refine i_put iuX4 (ci := 2) (ty0 := tyX4) rfl tyX4_ok nmX4 C hI 0 1 rfl (by decide) k1_98 rfl rfl rfl (Nat.le_of_ble_eq_true rfl) dX4_init_11 (fun H locs hI => ?_)
  have hI : Iw Γ _ [(h0, .inr (2, [.int 0, .int 0, .int 0, .int 0, .int 0, .int 0, .null]))] s.heap _ _ := hI
  refine lv_aload_n hx hb dX4_init_14 rfl (lv_at hl 0 rfl) ?_
  refine lv_iconst (v := 0) hx hb dX4_init_15 (by decide) ?_
  refine i_put iuX4 (ci := 2) (ty0 := tyX4) rfl tyX4_ok nmX4 C hI 0 2 rfl (by decide) k1_100 rfl rfl rfl (Nat.le_of_ble_eq_true rfl) dX4_init_16 (fun H locs hI => ?_)
  have hI : Iw Γ _ [(h0, .inr (2, [.int 0, .int 0, .int 0, .int 0, .int 0, .int 0, .null]))] s.heap _ _ := hI
  refine lv_aload_n hx hb dX4_init_19 rfl (lv_at hl 0 rfl) ?_
  refine lv_iconst (v := 0) hx hb dX4_init_20 (by decide) ?_
  refine i_put iuX4 (ci := 2) (ty0 := tyX4) rfl tyX4_ok nmX4 C hI 0 3 rfl (by decide) k1_102 rfl rfl rfl (Nat.le_of_ble_eq_true rfl) dX4_init_21 (fun H locs hI => ?_)
  have hI : Iw Γ _ [(h0, .inr (2, [.int 0, .int 0, .int 0, .int 0, .int 0, .int 0, .null]))] s.heap _ _ := hI
  refine lv_aload_n hx hb dX4_init_24 rfl (lv_at hl 0 rfl) ?_
  refine lv_iconst (v := 0) hx hb dX4_init_25 (by decide) ?_
  refine i_put iuX4 (ci := 2) (ty0 := tyX4) rfl tyX4_ok nmX4 C hI 0 4 rfl (by decide) k1_104 rfl rfl rfl (Nat.le_of_ble_eq_true rfl) dX4_init_26 (fun H locs hI => ?_)
  have hI : Iw Γ _ [(h0, .inr (2, [.int 0, .int 0, .int 0, .int 0, .int 0, .int 0, .null]))] s.heap _ _ := hI
  refine lv_aload_n hx hb dX4_init_29 rfl (lv_at hl 0 rfl) ?_
  refine lv_iconst (v := 0) hx hb dX4_init_30 (by decide) ?_
  refine i_put iuX4 (ci := 2) (ty0 := tyX4) rfl tyX4_ok nmX4 C hI 0 5 rfl (by decide) k1_106 rfl rfl rfl (Nat.le_of_ble_eq_true rfl) dX4_init_31 (fun H locs hI => ?_)
  have hI : Iw Γ _ [(h0, .inr (2, [.int 0, .int 0, .int 0, .int 0, .int 0, .int 0, .null]))] s.heap _ _ := hI
  refine lv_aload_n hx hb dX4_init_34 rfl (lv_at hl 0 rfl) ?_
  refine lv_bipush (v := 100) hx hb dX4_init_35 rfl ?_
  refine i_newA (atype := .int) (t0 := 0) (a0 := (100, .inl (fun _ => 0))) C hI k1_69 rfl (fun _ _ h => h) (fun _ => rfl) (by decide) rfl (by decide) ⟨Nat.le_of_ble_eq_true rfl, Nat.le_of_ble_eq_true rfl⟩ dX4_init_37 (fun qa H hI => ?_)
  refine i_putF iuX4 (ci := 2) (ty0 := tyX4) rfl tyX4_ok nmX4 C hI hi 0 6 rfl (by decide) k1_109 rfl rfl rfl rfl (Nat.le_of_ble_eq_true rfl) dX4_init_39 (fun H locs hI => ?_)
  have hI : Iw Γ _ [(h0, .inr (2, [.int 0, .int 0, .int 0, .int 0, .int 0, .int 0, .ref qa])), (qa, .inl (Γ.2.1 0, 100, .inl (fun _ => 0)))] s.heap _ _ := hI
  refine W.widen (k := 1) (n := 100) (Nat.le_of_ble_eq_true rfl) (Nat.le_of_ble_eq_true rfl) ?_
  exact i_end C hr hlk qa trivial hI dX4_init_42
