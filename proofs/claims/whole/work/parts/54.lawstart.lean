/-! ===== the law: what its start gives ===== -/
theorem Rl_0 : Rl cM0 mM0 (0, 0, []) none (fun _ => (0, (0, 0, 0), [])) := by
  refine ⟨⟨by simp, fun q h => by simp at h⟩, ⟨rfl, rfl, rfl, fun i q h => by simp at h⟩, ⟨rfl, rfl, rfl, fun i q h => by simp at h⟩, Or.inl rfl, ⟨rfl, rfl⟩, fun d hd => ⟨⟨by simp, fun h => absurd h (by simp), fun h => absurd h (by simp)⟩, ⟨rfl, fun h => absurd h (by simp), fun h => absurd h (by simp)⟩, rfl, fun h => absurd h (by simp), fun h => absurd h (by simp)⟩⟩
theorem hdX5 : yX5_init.name = "<init>" ∧ yX5_init.cls ≠ "java/lang/invoke/MethodHandle" ∧ yX5_init.cls ≠ "java/lang/invoke/VarHandle" ∧ (parseMethodDescriptor yX5_init.desc).map (fun d => d.parameters.length) = some 0 := by decide +kernel
theorem hdX6 : yX6_init.name = "<init>" ∧ yX6_init.cls ≠ "java/lang/invoke/MethodHandle" ∧ yX6_init.cls ≠ "java/lang/invoke/VarHandle" ∧ (parseMethodDescriptor yX6_init.desc).map (fun d => d.parameters.length) = some 0 := by decide +kernel
theorem dfX5 : ∀ j, j < 10 → defaultValue (tyX5 j) = vp_V [.null, .null, .null, .int 0, .null, .null, .null, .null, .null, .null] j := fun j hj => by rcases (show j = 0 ∨ j = 1 ∨ j = 2 ∨ j = 3 ∨ j = 4 ∨ j = 5 ∨ j = 6 ∨ j = 7 ∨ j = 8 ∨ j = 9 by omega) with rfl | rfl | rfl | rfl | rfl | rfl | rfl | rfl | rfl | rfl <;> rfl
theorem dfX6 : ∀ j, j < 42 → defaultValue (tyX6 j) = vp_V [.int 0, .int 0, .int 0, .null, .null, .null, .null, .null, .null, .int 0, .null, .null, .null, .int 0, .int 0, .int 0, .null, .int 0, .int 0, .int 0, .int 0, .int 0, .null, .null, .null, .null, .null, .null, .null, .int 0, .null, .null, .null, .int 0, .null, .null, .null, .null, .null, .null, .null, .null] j := fun j hj => by rcases (show j = 0 ∨ j = 1 ∨ j = 2 ∨ j = 3 ∨ j = 4 ∨ j = 5 ∨ j = 6 ∨ j = 7 ∨ j = 8 ∨ j = 9 ∨ j = 10 ∨ j = 11 ∨ j = 12 ∨ j = 13 ∨ j = 14 ∨ j = 15 ∨ j = 16 ∨ j = 17 ∨ j = 18 ∨ j = 19 ∨ j = 20 ∨ j = 21 ∨ j = 22 ∨ j = 23 ∨ j = 24 ∨ j = 25 ∨ j = 26 ∨ j = 27 ∨ j = 28 ∨ j = 29 ∨ j = 30 ∨ j = 31 ∨ j = 32 ∨ j = 33 ∨ j = 34 ∨ j = 35 ∨ j = 36 ∨ j = 37 ∨ j = 38 ∨ j = 39 ∨ j = 40 ∨ j = 41 by omega) with rfl | rfl | rfl | rfl | rfl | rfl | rfl | rfl | rfl | rfl | rfl | rfl | rfl | rfl | rfl | rfl | rfl | rfl | rfl | rfl | rfl | rfl | rfl | rfl | rfl | rfl | rfl | rfl | rfl | rfl | rfl | rfl | rfl | rfl | rfl | rfl | rfl | rfl | rfl | rfl | rfl | rfl <;> rfl
theorem st_R {args : Array Value} {s : State} {own tx : String} {k : Nat} (h1 : (Cond.stringRef own k tx).before args s = true) (h2 : (Cond.exactly (.string own k) "java/lang/String").before args s = true) : ∃ a, vk_R own k tx a s := by
  obtain ⟨a, _, _, _, h, _⟩ := Cond.exactly_spec h2
  exact ⟨a, vk_R.of h1 h⟩
theorem st_A {args : Array Value} {s : State} {ty : FieldType} (h : (Cond.arrayClass ty).before args s = true) (ho : ∀ C, ty ≠ .object C) : ∃ cA, ArrOfT s cA ty ∧ va_RA s cA ty := by
  obtain ⟨cA, k, comp, h1, h2, h3⟩ := Cond.arrayClass_spec h
  refine ⟨cA, fun n z => ⟨(fun k h => by cases h), k, h2, comp, h3⟩, ?_⟩
  cases ty with
  | object C => exact absurd rfl (ho C)
  | _ => exact h1
theorem st_O {s : State} {C : String} (h : va_AO C s) : ∃ cA, ArrOfT s cA (.object C) ∧ va_RA s cA (.object C) := by
  obtain ⟨comp, cA, k, h1, h2, h3, h4, h5⟩ := Cond.arrayOver_spec h
  exact ⟨cA, fun n z => ⟨(fun k h => by cases h), k, h3, comp, h4⟩, k, comp, h3, h4, h1, h5⟩
theorem ub_of {args : Array Value} {s : State} (hts : ∀ w ∈ lw_tbl, w.before args s = true) : ∀ w ∈ Ub, w.before args s = true := fun w h => hts w (List.mem_filter.mp h).1
theorem st_K {args : Array Value} {s : State} (hts : ∀ w ∈ lw_tbl, w.before args s = true) : ∃ Γ : gG, wY Γ s := by
  have hu := ub_of hts
  obtain ⟨c0, i0, K0⟩ := u_known (C := RX1) (T := TX1) (N := 4) (n := 4) hu iuX1 (hu _ k1_25)
  obtain ⟨c1, i1, K1⟩ := u_known (C := RX3) (T := TX3) (N := 7) (n := 7) hu iuX3 (hu _ k1_32)
  obtain ⟨c2, i2, K2⟩ := u_known (C := RX4) (T := TX4) (N := 7) (n := 7) hu iuX4 (hu _ k1_91)
  obtain ⟨c3, i3, K3⟩ := u_known (C := RX5) (T := TX5) (N := 10) (n := 10) hu iuX5 (hu _ k1_17)
  obtain ⟨c4, i4, K4⟩ := u_known (C := RX6) (T := TX6) (N := 42) (n := 42) hu iuX6 (hu _ k4_48)
  have o1 : va_AO "LaneAtBorder$Queue" s := va_AO.of (hts (.arrayOver (.object "LaneAtBorder$Queue")) (by decide +kernel))
  have o2 : va_AO "LaneAtBorder$Shelf" s := va_AO.of (hts (.arrayOver (.object "LaneAtBorder$Shelf")) (by decide +kernel))
  obtain ⟨a0, A0⟩ := st_A (hu _ k1_69) (fun C h => by cases h)
  obtain ⟨a1, A1⟩ := st_O o1
  obtain ⟨a2, A2⟩ := st_O o2
  obtain ⟨a3, A3⟩ := st_A (hu _ k4_181) (fun C h => by cases h)
  obtain ⟨a4, A4⟩ := st_A (hu _ k4_180) (fun C h => by cases h)
  refine ⟨((fun k => if k = 0 then c0 else if k = 1 then c1 else if k = 2 then c2 else if k = 3 then c3 else c4, fun k => if k = 0 then i0 else if k = 1 then i1 else if k = 2 then i2 else if k = 3 then i3 else i4), fun k => if k = 0 then a0 else if k = 1 then a1 else if k = 2 then a2 else if k = 3 then a3 else a4, fun _ => 0), ⟨⟨?_, ?_⟩, va_Nw.of rfl (hts (.methodLinkNest RX0 66 yX5_isSort "LaneAtBorder") (by decide +kernel))⟩, o1, o2, va_Nw.of rfl (hts (.methodLinkNest RX1 27 yX3_init "LaneAtBorder") (by decide +kernel)), va_Nw.of rfl (hts (.methodLinkNest RX5 48 yX4_init "LaneAtBorder") (by decide +kernel))⟩
  · intro k q hq
    match k, hq with
    | 0, hq => cases hq; exact K0
    | 1, hq => cases hq; exact K1
    | 2, hq => cases hq; exact K2
    | 3, hq => cases hq; exact K3
    | 4, hq => cases hq; exact K4
    | k + 5, hq => simp at hq
  · intro k q hq
    match k, hq with
    | 0, hq => cases hq; exact A0
    | 1, hq => cases hq; exact A1
    | 2, hq => cases hq; exact A2
    | 3, hq => cases hq; exact A3
    | 4, hq => cases hq; exact A4
    | k + 5, hq => simp at hq
theorem st_T {args : Array Value} {s : State} (hts : ∀ w ∈ lw_tbl, w.before args s = true) (hgv : (Jvm.Cond.and given_1 narrow_1).before args s = true) : wT s := by
  have hs := flat_of_before _ hgv
  exact ⟨⟨st_R (hts (.stringRef RX2 26 "held") (by decide +kernel)) (hs (.exactly (.string RX2 26) "java/lang/String") (by decide +kernel)), st_R (hts (.stringRef RX2 33 "new") (by decide +kernel)) (hs (.exactly (.string RX2 33) "java/lang/String") (by decide +kernel)), st_R (hts (.stringRef RX2 38 "lane") (by decide +kernel)) (hs (.exactly (.string RX2 38) "java/lang/String") (by decide +kernel)), st_R (hts (.stringRef RX5 286 "no such shelf") (by decide +kernel)) (hs (.exactly (.string RX5 286) "java/lang/String") (by decide +kernel)), st_R (hts (.stringRef RX5 293 "no row, or no such place in it") (by decide +kernel)) (hs (.exactly (.string RX5 293) "java/lang/String") (by decide +kernel))⟩,
    ⟨va_Nw.of rfl (hts dcR (by decide +kernel)), va_Nw.of rfl (hts dcE (by decide +kernel)), va_Nw.of rfl (hts dcT (by decide +kernel))⟩, ⟨va_Nw.of rfl (hts (.castable nU nU) (by decide +kernel)), va_Nw.of rfl (hts (.castable nA nA) (by decide +kernel)), va_Nw.of rfl (hts (.castable nS nS) (by decide +kernel))⟩, va_Nc.of (hs (.not (.castable nA nU)) (by decide +kernel)), va_Nc.of (hs (.not (.castable nS nU)) (by decide +kernel)), va_Nc.of (hs (.not (.castable nS nA)) (by decide +kernel))⟩
theorem st_Z {args : Array Value} {s : State} (hts : ∀ w ∈ lw_tbl, w.before args s = true) (hgv : (Jvm.Cond.and given_1 narrow_1).before args s = true) : wZ (LA s) s s.heap := by
  have hs := flat_of_before _ hgv
  exact ⟨vx_Zqof (hts (.laysStatic Bundle.tN "UNASSIGNED_STACK" Bundle.steD) (by decide +kernel)) (hts (.initialized Bundle.tN) (by decide +kernel)) (hs (.isRef (.static Bundle.tN "UNASSIGNED_STACK" Bundle.steD)) (by decide +kernel)) (fun a h => Nat.not_le.mpr h), vx_Zqof (hts (.laysStatic Bundle.tN "SUPPRESSED_SENTINEL" Bundle.listD) (by decide +kernel)) (hts (.initialized Bundle.tN) (by decide +kernel)) (hs (.isRef (.static Bundle.tN "SUPPRESSED_SENTINEL" Bundle.listD)) (by decide +kernel)) (fun a h => Nat.not_le.mpr h)⟩
/-- the three worlds out of one list -/
theorem st_W {Γ : gG} {s : State} {ac am : Nat → Nat} {ao : Nat} {Sc : cM} {Sm : mM} {o : Nat → Int64} {H : Heap} {locs : List Loc} (h : Iw Γ (LA s) ((wl (gA Γ ac) 74 (cE (gA Γ ac) Sc) ++ wl (gA Γ am) 28 (mE (gA Γ am) Sm)) ++ oW Γ ao o) s.heap H locs) : Lp Γ s ac am ao ∧ Lh Γ s ac am ao Sc Sm o H locs := by
  obtain ⟨⟨hP, hD, hS⟩, -⟩ := h
  have g1 : ∀ k, k < 74 → ((wl (gA Γ ac) 74 (cE (gA Γ ac) Sc) ++ wl (gA Γ am) 28 (mE (gA Γ am) Sm)) ++ oW Γ ao o)[k]? = some (ac k, cE (gA Γ ac) Sc k) := fun k hk => by
    rw [List.getElem?_append_left (by rw [List.length_append, wl_len, wl_len]; omega), List.getElem?_append_left (by rw [wl_len]; exact hk), wl_at hk]
  have g2 : ∀ k, k < 28 → ((wl (gA Γ ac) 74 (cE (gA Γ ac) Sc) ++ wl (gA Γ am) 28 (mE (gA Γ am) Sm)) ++ oW Γ ao o)[74 + k]? = some (am k, mE (gA Γ am) Sm k) := fun k hk => by
    rw [List.getElem?_append_left (by rw [List.length_append, wl_len, wl_len]; omega), List.getElem?_append_right (by rw [wl_len]; omega), wl_len, Nat.add_sub_cancel_left, wl_at hk]
  have g3 : ((wl (gA Γ ac) 74 (cE (gA Γ ac) Sc) ++ wl (gA Γ am) 28 (mE (gA Γ am) Sm)) ++ oW Γ ao o)[102]? = some (ao, .inl (Γ.2.1 3, 1, .inr (.inl o))) := by
    rw [List.getElem?_append_right (by rw [List.length_append, wl_len, wl_len]; omega), List.length_append, wl_len, wl_len]
    rfl
  refine ⟨⟨fun i j hi hj hij => ?_, fun i j hi hj hij => ?_, ?_, ?_, hD.2 102 _ g3⟩, ?_, ?_, ?_, hS⟩
  · exact hD.1 i j _ _ (g1 i hi) (g1 j hj) hij
  · have := hD.1 (74 + i) (74 + j) _ _ (g2 i hi) (g2 j hj) hij
    omega
  · rintro q ⟨i, hi, rfl⟩
    refine ⟨hD.2 i _ (g1 i hi), ?_, fun h => ?_⟩
    · rintro ⟨j, hj, h⟩
      have := hD.1 i (74 + j) _ _ (g1 i hi) (g2 j hj) h
      omega
    · have := hD.1 i 102 _ _ (g1 i hi) g3 h
      omega
  · rintro q ⟨i, hi, rfl⟩
    refine ⟨hD.2 (74 + i) _ (g2 i hi), fun h => ?_⟩
    have := hD.1 (74 + i) 102 _ _ (g2 i hi) g3 h
    omega
  · intro k q hk
    obtain ⟨h1, rfl⟩ := wl_get hk
    exact hP k _ (g1 k h1)
  · intro k q hk
    obtain ⟨h1, rfl⟩ := wl_get hk
    exact hP (74 + k) _ (g2 k h1)
  · intro k q hk
    cases k with
    | zero => cases hk; exact hP 102 _ g3
    | succ k => simp at hk
