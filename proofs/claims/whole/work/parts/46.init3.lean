/-! ===== the constructor of the class ===== -/
theorem hdX1 : yX1_init.name = "<init>" ∧ yX1_init.cls ≠ "java/lang/invoke/MethodHandle" ∧ yX1_init.cls ≠ "java/lang/invoke/VarHandle" ∧ (parseMethodDescriptor yX1_init.desc).map (fun d => d.parameters.length) = some 0 := by decide +kernel
theorem hdX4 : yX4_init.name = "<init>" ∧ yX4_init.cls ≠ "java/lang/invoke/MethodHandle" ∧ yX4_init.cls ≠ "java/lang/invoke/VarHandle" ∧ (parseMethodDescriptor yX4_init.desc).map (fun d => d.parameters.length) = some 0 := by decide +kernel
theorem dfX1 : ∀ j, j < 4 → defaultValue (tyX1 j) = vp_V [.null, .int 0, .int 0, .int 0] j := fun j hj => by rcases (show j = 0 ∨ j = 1 ∨ j = 2 ∨ j = 3 by omega) with rfl | rfl | rfl | rfl <;> rfl
theorem dfX4 : ∀ j, j < 7 → defaultValue (tyX4 j) = vp_V [.int 0, .int 0, .int 0, .int 0, .int 0, .int 0, .null] j := fun j hj => by rcases (show j = 0 ∨ j = 1 ∨ j = 2 ∨ j = 3 ∨ j = 4 ∨ j = 5 ∨ j = 6 by omega) with rfl | rfl | rfl | rfl | rfl | rfl | rfl <;> rfl
/-- a world in another order -/
theorem Iw.perm {Γ : gG} {A : Nat → Prop} {ws ws' : va_W} {H0 H : Heap} {locs : List Loc} (hI : Iw Γ A ws H0 H locs) (is : List Nat) (hn : va_nd is = true) (hs : is.map (fun i => ws[i]?) = ws'.map some) : Iw Γ A ws' H0 H locs := by
  obtain ⟨⟨hP, hD, hS⟩, hA⟩ := hI
  refine ⟨⟨fun k q hk => ?_, hD.sub is hn hs, hS⟩, hA⟩
  have h1 : (is.map (fun i => ws[i]?))[k]? = some (some q) := by rw [hs, List.getElem?_map, hk]; rfl
  rw [List.getElem?_map] at h1
  cases hi : is[k]? with
  | none => rw [hi] at h1; cases h1
  | some i => rw [hi] at h1; exact hP i q (Option.some.inj h1)
theorem va_P_m {D : va_G} {cl : List vw_C} {ws : va_W} {H : Heap} : va_P D cl ws H ↔ ∀ q ∈ ws, va_at D cl q H := ⟨fun h q hq => by
  obtain ⟨k, hk⟩ := List.mem_iff_getElem?.mp hq
  exact h k q hk, fun h k q hk => h q (List.mem_of_getElem? hk)⟩
/-- the last one to the second place -/
theorem Iw.mv2 {Γ : gG} {A : Nat → Prop} {x y : Nat × va_E} {T : va_W} {H0 H : Heap} {locs : List Loc} (hI : Iw Γ A (x :: (T ++ [y])) H0 H locs) : Iw Γ A (x :: y :: T) H0 H locs := by
  obtain ⟨⟨hP, hD, hS⟩, hA⟩ := hI
  have hm : ∀ q, q ∈ x :: y :: T → q ∈ x :: (T ++ [y]) := fun q hq => by
    simp only [List.mem_cons, List.mem_append, List.not_mem_nil, or_false] at hq ⊢
    rcases hq with h | h | h
    · exact Or.inl h
    · exact Or.inr (Or.inr h)
    · exact Or.inr (Or.inl h)
  have g : ∀ (k : Nat) (q : Nat × va_E), (x :: y :: T)[k]? = some q → (x :: (T ++ [y]))[if k = 0 then 0 else if k = 1 then T.length + 1 else k - 1]? = some q ∧ k < T.length + 2 := by
    intro k q hk
    have hlt : k < T.length + 2 := by
      have := (List.getElem?_eq_some_iff.mp hk).1
      simpa using this
    refine ⟨?_, hlt⟩
    match k, hk with
    | 0, hk => exact hk
    | 1, hk =>
      rw [if_neg (by omega), if_pos rfl, List.getElem?_cons_succ, List.getElem?_append_right (Nat.le_refl _), Nat.sub_self]
      exact hk
    | k + 2, hk =>
      rw [if_neg (by omega), if_neg (by omega), show k + 2 - 1 = k + 1 by omega, List.getElem?_cons_succ, List.getElem?_append_left (by omega)]
      exact hk
  refine ⟨⟨va_P_m.mpr (fun q hq => va_P_m.mp hP q (hm q hq)), ⟨fun i j a b hi hj hab => ?_, fun k q hk => ?_⟩, hS⟩, hA⟩
  · obtain ⟨g1, l1⟩ := g i a hi
    obtain ⟨g2, l2⟩ := g j b hj
    have := hD.1 _ _ a b g1 g2 hab
    split at this <;> split at this <;> (try split at this) <;> (try split at this) <;> omega
  · exact hD.2 _ q (g k q hk).1
abbrev gA (Γ : gG) (a : Nat → Nat) : gG := (Γ.1, Γ.2.1, a)
/-- a new object's state -/
def cM0 : cM := (fun _ _ => 0, 1, 2)
section Sst
variable {p : Program} {l : Launch} {e : Env} {R : Room} {s : State} {m : MethodId} {args : Array Value} {below : List Frame} {meth : Method} {c : Code} {H : Heap} {locs : List Loc} {cells slots : Nat} {Q : State → Prop}
variable {Γ : gG} {A : Nat → Prop} {ls : Array Slot}
set_option maxHeartbeats 4000000 in
set_option maxRecDepth 100000 in
/-- a shelf more -/
theorem shelf_step {h0 qs i : Nat} {fs : List Value} {f : Nat → Option Nat} {T : va_W} (hi : i < 8) (C : Ix Γ p s m args c RX5 cX5_init 2) (hI : Iw Γ A ((h0, .inr (3, fs)) :: (qs, .inl (Γ.2.1 2, 8, .inr (.inr (.inr (.inr f))))) :: T) s.heap H locs) (hfs : fs[4]? = some (.ref qs)) (hl : lv_has ls 2 [(1, .int (nI i)), (0, .ref h0)]) (hcs : cells + 2 ≤ R.cells ∧ slots + 107 ≤ R.slots) (hR : 2 ≤ R.frames ∧ 32 ≤ R.locals)
    (kk : ∀ (a v : Nat) (H1 : Heap) (locs1 : List Loc) (ls1 : Array Slot), Iw Γ A ((h0, .inr (3, fs)) :: (qs, .inl (Γ.2.1 2, 8, .inr (.inr (.inr (.inr (va_up f i (some a))))))) :: (T ++ [(a, .inr (2, [.int 0, .int 0, .int 0, .int 0, .int 0, .int 0, .ref v])), (v, .inl (Γ.2.1 0, 100, .inl (fun _ => 0)))])) s.heap H1 locs1 → lv_has ls1 2 [(1, .int (nI (i + 1))), (0, .ref h0)] → W p l e R s m args below meth c H1 locs1 (cells + 2) (slots + 107) Q (F0 m 90 ls1 [])) : W p l e R s m args below meth c H locs cells slots Q (F0 m 90 ls []) := by
  have hx := C.1.1
  have hb := C.1.2.1
  refine lv_iload_n hx hb dX5_init_90 rfl (lv_at hl 0 rfl) ?_
  refine lv_bipush (v := nI 8) hx hb dX5_init_91 rfl ?_
  refine lv_icmp_ge (tgt := 115) hx hb dX5_init_93 (by decide) (fun h => absurd h (nI_ge hi (by omega))) (fun _ => ?_)
  refine lv_aload_n hx hb dX5_init_96 rfl (lv_at hl 1 rfl) ?_
  refine i_get iuX5 (ci := 3) (v := .ref qs) rfl C hI 0 4 rfl (by decide) k1_131 hfs dX5_init_97 ?_
  refine lv_iload_n hx hb dX5_init_100 rfl (lv_at hl 0 rfl) ?_
  refine i_new iuX4 (ci := 2) (fs := [.int 0, .int 0, .int 0, .int 0, .int 0, .int 0, .null]) rfl tyX4_ok C hI k1_89 k1_91 k1_4 dfX4 ⟨by omega, by omega⟩ dX5_init_101 (fun a H hI => ?_)
  refine lv_dup hx hb dX5_init_104 rfl ?_
  refine i_callN (wr := (h0, .inr (3, fs)) :: (qs, .inl (Γ.2.1 2, 8, .inr (.inr (.inr (.inr f))))) :: T) (n_Shelf l Γ a _) C hI hl.1 C.2.2.2.2.2 k1_93 k1_4 k1_94 hdX4 ⟨by omega, by omega⟩ ⟨by omega, by omega⟩ (Nat.le_of_ble_eq_true rfl) dX5_init_105 (fun v H locs _ hI => ?_)
  have hat : ((h0, .inr (3, fs)) :: (qs, .inl (Γ.2.1 2, 8, .inr (.inr (.inr (.inr f))))) :: (T ++ [(a, .inr (2, [.int 0, .int 0, .int 0, .int 0, .int 0, .int 0, .ref v])), (v, .inl (Γ.2.1 0, 100, .inl (fun _ => 0)))]) : va_W)[T.length + 2]? = some (a, .inr (2, [.int 0, .int 0, .int 0, .int 0, .int 0, .int 0, .ref v])) := by
    rw [List.getElem?_cons_succ, List.getElem?_cons_succ, List.getElem?_append_right (Nat.le_refl _), Nat.sub_self]
    rfl
  refine i_ast (t0 := 2) (qk := T.length + 2) (ci := 2) (r := (RX4, TX4, 7)) C hI 1 rfl rfl hat rfl (nI_in hi (by omega)) dX5_init_108 (fun H locs hI => ?_)
  rw [cl_n (by omega)] at hI
  refine lv_iinc (v := nI (i + 1)) (lv' := [(1, .int (nI (i + 1))), (0, .ref h0)]) hx hb dX5_init_109 hl (k := 0) rfl (show nI i + nI 1 = _ by rw [nI_add]) (by decide) rfl (fun ls hl => ?_)
  refine lv_goto (tgt := 90) hx hb dX5_init_112 (by decide) ?_
  exact kk a v H locs ls hI hl
end Sst
set_option maxHeartbeats 4000000 in
set_option maxRecDepth 100000 in
theorem n_Class (l : Launch) (Γ : gG) (h0 sz : Nat) : CtN (σ := Nat → Nat) l Γ yX5_init cX5_init 2 3 53 73 1291 h0 3 [.null, .null, .null, .int 0, .null, .null, .null, .null, .null, .null] sz (fun u => u 0 = h0) (fun u => wl (gA Γ u) 74 (cE (gA Γ u) cM0)) := by
  refine met_init RX5 (by decide) rfl rfl rfl ?_
  intro p e s m below meth c ls C hI hr hlk hi hl
  have hx := C.1.1
  have hb := C.1.2.1
  refine lv_aload_n hx hb dX5_init_0 rfl (lv_at hl 0 rfl) ?_
  refine i_obj C hl.1 k1_21 ⟨Nat.le_of_ble_eq_true rfl, Nat.le_of_ble_eq_true rfl⟩ dX5_init_1 ?_
  refine lv_aload_n hx hb dX5_init_4 rfl (lv_at hl 0 rfl) ?_
  refine i_new iuX1 (ci := 0) (fs := [.null, .int 0, .int 0, .int 0]) rfl tyX1_ok C hI k1_24 k1_25 k1_2 dfX1 ⟨Nat.le_of_ble_eq_true rfl, Nat.le_of_ble_eq_true rfl⟩ dX5_init_5 (fun q0 H hI => ?_)
  refine lv_dup hx hb dX5_init_8 rfl ?_
  refine i_callI (wr := (h0, .inr (3, [.null, .null, .null, .int 0, .null, .null, .null, .null, .null, .null])) :: []) (n_Crossing l Γ q0 _) C hI hl.1 k1_26 k1_27 k1_2 k1_28 hdX1 ⟨Nat.le_of_ble_eq_true rfl, Nat.le_of_ble_eq_true rfl⟩ ⟨Nat.le_of_ble_eq_true rfl, Nat.le_of_ble_eq_true rfl⟩ (Nat.le_of_ble_eq_true rfl) dX5_init_9 (fun u0 H locs _ hI => ?_)
  refine i_put iuX5 (ci := 3) (ty0 := tyX5) rfl tyX5_ok nmX5 C hI 0 0 rfl (by decide) k1_127 rfl rfl rfl (Nat.le_of_ble_eq_true rfl) dX5_init_12 (fun H locs hI => ?_)
  have hI : Iw Γ _ ((h0, .inr (3, [.ref q0, .null, .null, .int 0, .null, .null, .null, .null, .null, .null])) :: crs Γ q0 u0) s.heap _ _ := hI
  refine lv_aload_n hx hb dX5_init_15 rfl (lv_at hl 0 rfl) ?_
  refine i_new iuX1 (ci := 0) (fs := [.null, .int 0, .int 0, .int 0]) rfl tyX1_ok C hI k1_24 k1_25 k1_2 dfX1 ⟨Nat.le_of_ble_eq_true rfl, Nat.le_of_ble_eq_true rfl⟩ dX5_init_16 (fun q1 H hI => ?_)
  refine lv_dup hx hb dX5_init_19 rfl ?_
  refine i_callI (wr := (h0, .inr (3, [.ref q0, .null, .null, .int 0, .null, .null, .null, .null, .null, .null])) :: crs Γ q0 u0) (n_Crossing l Γ q1 _) C hI hl.1 k1_26 k1_27 k1_2 k1_28 hdX1 ⟨Nat.le_of_ble_eq_true rfl, Nat.le_of_ble_eq_true rfl⟩ ⟨Nat.le_of_ble_eq_true rfl, Nat.le_of_ble_eq_true rfl⟩ (Nat.le_of_ble_eq_true rfl) dX5_init_20 (fun u1 H locs _ hI => ?_)
  refine i_put iuX5 (ci := 3) (ty0 := tyX5) rfl tyX5_ok nmX5 C hI 0 1 rfl (by decide) k1_128 rfl rfl rfl (Nat.le_of_ble_eq_true rfl) dX5_init_23 (fun H locs hI => ?_)
  have hI : Iw Γ _ ((h0, .inr (3, [.ref q0, .ref q1, .null, .int 0, .null, .null, .null, .null, .null, .null])) :: (crs Γ q0 u0 ++ crs Γ q1 u1)) s.heap _ _ := hI
  refine lv_aload_n hx hb dX5_init_26 rfl (lv_at hl 0 rfl) ?_
  refine i_new iuX1 (ci := 0) (fs := [.null, .int 0, .int 0, .int 0]) rfl tyX1_ok C hI k1_24 k1_25 k1_2 dfX1 ⟨Nat.le_of_ble_eq_true rfl, Nat.le_of_ble_eq_true rfl⟩ dX5_init_27 (fun q2 H hI => ?_)
  refine lv_dup hx hb dX5_init_30 rfl ?_
  refine i_callI (wr := (h0, .inr (3, [.ref q0, .ref q1, .null, .int 0, .null, .null, .null, .null, .null, .null])) :: (crs Γ q0 u0 ++ crs Γ q1 u1)) (n_Crossing l Γ q2 _) C hI hl.1 k1_26 k1_27 k1_2 k1_28 hdX1 ⟨Nat.le_of_ble_eq_true rfl, Nat.le_of_ble_eq_true rfl⟩ ⟨Nat.le_of_ble_eq_true rfl, Nat.le_of_ble_eq_true rfl⟩ (Nat.le_of_ble_eq_true rfl) dX5_init_31 (fun u2 H locs _ hI => ?_)
  refine i_putF iuX5 (ci := 3) (ty0 := tyX5) rfl tyX5_ok nmX5 C hI hi 0 2 rfl (by decide) k1_129 rfl rfl rfl rfl (Nat.le_of_ble_eq_true rfl) dX5_init_34 (fun H locs hI => ?_)
  have hI : Iw Γ _ ((h0, .inr (3, [.ref q0, .ref q1, .ref q2, .int 0, .null, .null, .null, .null, .null, .null])) :: ((crs Γ q0 u0 ++ crs Γ q1 u1) ++ crs Γ q2 u2)) s.heap _ _ := hI
  refine lv_aload_n hx hb dX5_init_37 rfl (lv_at hl 0 rfl) ?_
  refine lv_iconst (v := 0) hx hb dX5_init_38 (by decide) ?_
  refine i_put iuX5 (ci := 3) (ty0 := tyX5) rfl tyX5_ok nmX5 C hI 0 3 rfl (by decide) k1_130 rfl rfl rfl (Nat.le_of_ble_eq_true rfl) dX5_init_39 (fun H locs hI => ?_)
  have hI : Iw Γ _ ((h0, .inr (3, [.ref q0, .ref q1, .ref q2, .int 0, .null, .null, .null, .null, .null, .null])) :: ((crs Γ q0 u0 ++ crs Γ q1 u1) ++ crs Γ q2 u2)) s.heap _ _ := hI
  refine lv_aload_n hx hb dX5_init_42 rfl (lv_at hl 0 rfl) ?_
  refine lv_bipush (v := 8) hx hb dX5_init_43 rfl ?_
  refine i_newQ (t0 := 2) C hI k1_89 C.2.2.2.1 rfl (by decide) rfl (by decide) ⟨Nat.le_of_ble_eq_true rfl, Nat.le_of_ble_eq_true rfl⟩ dX5_init_45 (fun qs H hI => ?_)
  refine i_putF iuX5 (ci := 3) (ty0 := tyX5) rfl tyX5_ok nmX5 C hI hi 0 4 rfl (by decide) k1_131 rfl rfl rfl rfl (Nat.le_of_ble_eq_true rfl) dX5_init_48 (fun H locs hI => ?_)
  have hI : Iw Γ _ ((h0, .inr (3, [.ref q0, .ref q1, .ref q2, .int 0, .ref qs, .null, .null, .null, .null, .null])) :: (((crs Γ q0 u0 ++ crs Γ q1 u1) ++ crs Γ q2 u2) ++ [(qs, .inl (Γ.2.1 2, 8, .inr (.inr (.inr (.inr (fun _ => none))))))])) s.heap _ _ := hI
  have hI := hI.mv2
  refine lv_aload_n hx hb dX5_init_51 rfl (lv_at hl 0 rfl) ?_
  refine lv_iconst (v := 5) hx hb dX5_init_52 (by decide) ?_
  refine i_newA (atype := .int) (t0 := 0) (a0 := (5, .inl (fun _ => 0))) C hI k1_69 rfl (fun _ _ h => h) (fun _ => rfl) (by decide) rfl (by decide) ⟨Nat.le_of_ble_eq_true rfl, Nat.le_of_ble_eq_true rfl⟩ dX5_init_53 (fun e0 H hI => ?_)
  refine i_putF iuX5 (ci := 3) (ty0 := tyX5) rfl tyX5_ok nmX5 C hI hi 0 5 rfl (by decide) k1_132 rfl rfl rfl rfl (Nat.le_of_ble_eq_true rfl) dX5_init_55 (fun H locs hI => ?_)
  have hI : Iw Γ _ ((h0, .inr (3, [.ref q0, .ref q1, .ref q2, .int 0, .ref qs, .ref e0, .null, .null, .null, .null])) :: (qs, .inl (Γ.2.1 2, 8, .inr (.inr (.inr (.inr (fun _ => none)))))) :: (((crs Γ q0 u0 ++ crs Γ q1 u1) ++ crs Γ q2 u2) ++ [(e0, .inl (Γ.2.1 0, 5, .inl (fun _ => 0)))])) s.heap _ _ := hI
  refine lv_aload_n hx hb dX5_init_58 rfl (lv_at hl 0 rfl) ?_
  refine lv_bipush (v := 40) hx hb dX5_init_59 rfl ?_
  refine i_newA (atype := .int) (t0 := 0) (a0 := (40, .inl (fun _ => 0))) C hI k1_69 rfl (fun _ _ h => h) (fun _ => rfl) (by decide) rfl (by decide) ⟨Nat.le_of_ble_eq_true rfl, Nat.le_of_ble_eq_true rfl⟩ dX5_init_61 (fun e1 H hI => ?_)
  refine i_putF iuX5 (ci := 3) (ty0 := tyX5) rfl tyX5_ok nmX5 C hI hi 0 6 rfl (by decide) k1_133 rfl rfl rfl rfl (Nat.le_of_ble_eq_true rfl) dX5_init_63 (fun H locs hI => ?_)
  have hI : Iw Γ _ ((h0, .inr (3, [.ref q0, .ref q1, .ref q2, .int 0, .ref qs, .ref e0, .ref e1, .null, .null, .null])) :: (qs, .inl (Γ.2.1 2, 8, .inr (.inr (.inr (.inr (fun _ => none)))))) :: ((((crs Γ q0 u0 ++ crs Γ q1 u1) ++ crs Γ q2 u2) ++ [(e0, .inl (Γ.2.1 0, 5, .inl (fun _ => 0)))]) ++ [(e1, .inl (Γ.2.1 0, 40, .inl (fun _ => 0)))])) s.heap _ _ := hI
  refine lv_aload_n hx hb dX5_init_66 rfl (lv_at hl 0 rfl) ?_
  refine lv_iconst (v := 5) hx hb dX5_init_67 (by decide) ?_
  refine i_newA (atype := .int) (t0 := 0) (a0 := (5, .inl (fun _ => 0))) C hI k1_69 rfl (fun _ _ h => h) (fun _ => rfl) (by decide) rfl (by decide) ⟨Nat.le_of_ble_eq_true rfl, Nat.le_of_ble_eq_true rfl⟩ dX5_init_68 (fun e2 H hI => ?_)
  refine i_putF iuX5 (ci := 3) (ty0 := tyX5) rfl tyX5_ok nmX5 C hI hi 0 7 rfl (by decide) k1_134 rfl rfl rfl rfl (Nat.le_of_ble_eq_true rfl) dX5_init_70 (fun H locs hI => ?_)
  have hI : Iw Γ _ ((h0, .inr (3, [.ref q0, .ref q1, .ref q2, .int 0, .ref qs, .ref e0, .ref e1, .ref e2, .null, .null])) :: (qs, .inl (Γ.2.1 2, 8, .inr (.inr (.inr (.inr (fun _ => none)))))) :: (((((crs Γ q0 u0 ++ crs Γ q1 u1) ++ crs Γ q2 u2) ++ [(e0, .inl (Γ.2.1 0, 5, .inl (fun _ => 0)))]) ++ [(e1, .inl (Γ.2.1 0, 40, .inl (fun _ => 0)))]) ++ [(e2, .inl (Γ.2.1 0, 5, .inl (fun _ => 0)))])) s.heap _ _ := hI
  refine lv_aload_n hx hb dX5_init_73 rfl (lv_at hl 0 rfl) ?_
  refine lv_iconst (v := 4) hx hb dX5_init_74 (by decide) ?_
  refine i_newA (atype := .int) (t0 := 0) (a0 := (4, .inl (fun _ => 0))) C hI k1_69 rfl (fun _ _ h => h) (fun _ => rfl) (by decide) rfl (by decide) ⟨Nat.le_of_ble_eq_true rfl, Nat.le_of_ble_eq_true rfl⟩ dX5_init_75 (fun e3 H hI => ?_)
  refine i_putF iuX5 (ci := 3) (ty0 := tyX5) rfl tyX5_ok nmX5 C hI hi 0 8 rfl (by decide) k1_135 rfl rfl rfl rfl (Nat.le_of_ble_eq_true rfl) dX5_init_77 (fun H locs hI => ?_)
  have hI : Iw Γ _ ((h0, .inr (3, [.ref q0, .ref q1, .ref q2, .int 0, .ref qs, .ref e0, .ref e1, .ref e2, .ref e3, .null])) :: (qs, .inl (Γ.2.1 2, 8, .inr (.inr (.inr (.inr (fun _ => none)))))) :: ((((((crs Γ q0 u0 ++ crs Γ q1 u1) ++ crs Γ q2 u2) ++ [(e0, .inl (Γ.2.1 0, 5, .inl (fun _ => 0)))]) ++ [(e1, .inl (Γ.2.1 0, 40, .inl (fun _ => 0)))]) ++ [(e2, .inl (Γ.2.1 0, 5, .inl (fun _ => 0)))]) ++ [(e3, .inl (Γ.2.1 0, 4, .inl (fun _ => 0)))])) s.heap _ _ := hI
  refine lv_aload_n hx hb dX5_init_80 rfl (lv_at hl 0 rfl) ?_
  refine lv_bipush (v := 61) hx hb dX5_init_81 rfl ?_
  refine i_newA (atype := .int) (t0 := 0) (a0 := (61, .inl (fun _ => 0))) C hI k1_69 rfl (fun _ _ h => h) (fun _ => rfl) (by decide) rfl (by decide) ⟨Nat.le_of_ble_eq_true rfl, Nat.le_of_ble_eq_true rfl⟩ dX5_init_83 (fun e4 H hI => ?_)
  refine i_putF iuX5 (ci := 3) (ty0 := tyX5) rfl tyX5_ok nmX5 C hI hi 0 9 rfl (by decide) k1_136 rfl rfl rfl rfl (Nat.le_of_ble_eq_true rfl) dX5_init_85 (fun H locs hI => ?_)
  have hI : Iw Γ _ ((h0, .inr (3, [.ref q0, .ref q1, .ref q2, .int 0, .ref qs, .ref e0, .ref e1, .ref e2, .ref e3, .ref e4])) :: (qs, .inl (Γ.2.1 2, 8, .inr (.inr (.inr (.inr (fun _ => none)))))) :: (((((((crs Γ q0 u0 ++ crs Γ q1 u1) ++ crs Γ q2 u2) ++ [(e0, .inl (Γ.2.1 0, 5, .inl (fun _ => 0)))]) ++ [(e1, .inl (Γ.2.1 0, 40, .inl (fun _ => 0)))]) ++ [(e2, .inl (Γ.2.1 0, 5, .inl (fun _ => 0)))]) ++ [(e3, .inl (Γ.2.1 0, 4, .inl (fun _ => 0)))]) ++ [(e4, .inl (Γ.2.1 0, 61, .inl (fun _ => 0)))])) s.heap _ _ := hI
  refine lv_iconst (v := 0) hx hb dX5_init_88 (by decide) ?_
  refine lv_istore_n (lv' := [(1, .int 0), (0, .ref h0)]) hx hb dX5_init_89 rfl hl (by decide) rfl (fun ls hl => ?_)
  refine shelf_step (i := 0) (by decide) C hI rfl hl ⟨Nat.le_of_ble_eq_true rfl, Nat.le_of_ble_eq_true rfl⟩ ⟨Nat.le_of_ble_eq_true rfl, Nat.le_of_ble_eq_true rfl⟩ (fun s0 v0 H locs ls hI hl => ?_)
  refine shelf_step (i := 1) (by decide) C hI rfl hl ⟨Nat.le_of_ble_eq_true rfl, Nat.le_of_ble_eq_true rfl⟩ ⟨Nat.le_of_ble_eq_true rfl, Nat.le_of_ble_eq_true rfl⟩ (fun s1 v1 H locs ls hI hl => ?_)
  refine shelf_step (i := 2) (by decide) C hI rfl hl ⟨Nat.le_of_ble_eq_true rfl, Nat.le_of_ble_eq_true rfl⟩ ⟨Nat.le_of_ble_eq_true rfl, Nat.le_of_ble_eq_true rfl⟩ (fun s2 v2 H locs ls hI hl => ?_)
  refine shelf_step (i := 3) (by decide) C hI rfl hl ⟨Nat.le_of_ble_eq_true rfl, Nat.le_of_ble_eq_true rfl⟩ ⟨Nat.le_of_ble_eq_true rfl, Nat.le_of_ble_eq_true rfl⟩ (fun s3 v3 H locs ls hI hl => ?_)
  refine shelf_step (i := 4) (by decide) C hI rfl hl ⟨Nat.le_of_ble_eq_true rfl, Nat.le_of_ble_eq_true rfl⟩ ⟨Nat.le_of_ble_eq_true rfl, Nat.le_of_ble_eq_true rfl⟩ (fun s4 v4 H locs ls hI hl => ?_)
  refine shelf_step (i := 5) (by decide) C hI rfl hl ⟨Nat.le_of_ble_eq_true rfl, Nat.le_of_ble_eq_true rfl⟩ ⟨Nat.le_of_ble_eq_true rfl, Nat.le_of_ble_eq_true rfl⟩ (fun s5 v5 H locs ls hI hl => ?_)
  refine shelf_step (i := 6) (by decide) C hI rfl hl ⟨Nat.le_of_ble_eq_true rfl, Nat.le_of_ble_eq_true rfl⟩ ⟨Nat.le_of_ble_eq_true rfl, Nat.le_of_ble_eq_true rfl⟩ (fun s6 v6 H locs ls hI hl => ?_)
  refine shelf_step (i := 7) (by decide) C hI rfl hl ⟨Nat.le_of_ble_eq_true rfl, Nat.le_of_ble_eq_true rfl⟩ ⟨Nat.le_of_ble_eq_true rfl, Nat.le_of_ble_eq_true rfl⟩ (fun s7 v7 H locs ls hI hl => ?_)
  refine lv_iload_n hx hb dX5_init_90 rfl (lv_at hl 0 rfl) ?_
  refine lv_bipush (v := nI 8) hx hb dX5_init_91 rfl ?_
  refine lv_icmp_ge (tgt := 115) hx hb dX5_init_93 (by decide) (fun _ => ?_) (fun h => absurd (by decide) h)
  obtain ⟨a, ha⟩ : ∃ a : Nat → Nat, a = (fun k => ([h0, q0, q1, q2, u0 0, u1 0, u2 0, u0 1, u0 4, u0 7, u0 10, u0 13, u1 1, u1 4, u1 7, u1 10, u1 13, u2 1, u2 4, u2 7, u2 10, u2 13, u0 2, u0 5, u0 8, u0 11, u0 14, u1 2, u1 5, u1 8, u1 11, u1 14, u2 2, u2 5, u2 8, u2 11, u2 14, u0 3, u0 6, u0 9, u0 12, u0 15, u1 3, u1 6, u1 9, u1 12, u1 15, u2 3, u2 6, u2 9, u2 12, u2 15, qs, s0, s1, s2, s3, s4, s5, s6, s7, v0, v1, v2, v3, v4, v5, v6, v7, e0, e1, e2, e3, e4] : List Nat).getD k 0) := ⟨_, rfl⟩
  simp only [crs, List.append_assoc, List.cons_append, List.nil_append] at hI
  have hI := i_swap (k := 3) (g := fun i => some (a (5 + 2 + i))) hI rfl (fun i hi => by rcases (show i = 0 ∨ i = 1 ∨ i = 2 ∨ i = 3 ∨ i = 4 by omega) with rfl | rfl | rfl | rfl | rfl <;> rw [ha] <;> rfl)
  simp only [List.set_cons_succ, List.set_cons_zero] at hI
  have hI := i_swap (k := 20) (g := fun i => some (a (10 + 2 + i))) hI rfl (fun i hi => by rcases (show i = 0 ∨ i = 1 ∨ i = 2 ∨ i = 3 ∨ i = 4 by omega) with rfl | rfl | rfl | rfl | rfl <;> rw [ha] <;> rfl)
  simp only [List.set_cons_succ, List.set_cons_zero] at hI
  have hI := i_swap (k := 37) (g := fun i => some (a (15 + 2 + i))) hI rfl (fun i hi => by rcases (show i = 0 ∨ i = 1 ∨ i = 2 ∨ i = 3 ∨ i = 4 by omega) with rfl | rfl | rfl | rfl | rfl <;> rw [ha] <;> rfl)
  simp only [List.set_cons_succ, List.set_cons_zero] at hI
  have hI := i_swap (k := 1) (g := fun i => some (a (53 + i))) hI rfl (fun i hi => by rcases (show i = 0 ∨ i = 1 ∨ i = 2 ∨ i = 3 ∨ i = 4 ∨ i = 5 ∨ i = 6 ∨ i = 7 by omega) with rfl | rfl | rfl | rfl | rfl | rfl | rfl | rfl <;> rw [ha] <;> rfl)
  simp only [List.set_cons_succ, List.set_cons_zero] at hI
  have hI := hI.perm (ws' := wl (gA Γ a) 74 (cE (gA Γ a) cM0)) [0, 2, 19, 36, 3, 20, 37, 4, 7, 10, 13, 16, 21, 24, 27, 30, 33, 38, 41, 44, 47, 50, 5, 8, 11, 14, 17, 22, 25, 28, 31, 34, 39, 42, 45, 48, 51, 6, 9, 12, 15, 18, 23, 26, 29, 32, 35, 40, 43, 46, 49, 52, 1, 58, 60, 62, 64, 66, 68, 70, 72, 59, 61, 63, 65, 67, 69, 71, 73, 53, 54, 55, 56, 57] (by decide +kernel) (by subst ha; rfl)
  refine W.widen (k := 73) (n := 1291) (Nat.le_of_ble_eq_true rfl) (Nat.le_of_ble_eq_true rfl) ?_
  exact i_end C hr hlk a (by rw [ha]; rfl) hI dX5_init_115
