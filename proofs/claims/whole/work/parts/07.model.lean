/-! ===== the reference's world: 28 places. 0 the object; 1 kinds, 2 figures, 3 many, 4 lefts, 5 over, 6 cars, 7 wentOver, 8 kept, 9 imaged, 10 placeOf, 11 letterOf, 12 first, 13 second, 14 sortsAt, 15 sortMany, 16 line, 17 free, 18 unshut, 19 told, 20 holdsWhat, 21 laneNumber, 22 laneKind, 23 laneFigure, 24 rowSort, 25 rowMany, 26 rows, 27 between ===== -/
abbrev mM : Type := (Nat → Nat → Int32) × (Nat → Nat → Int64) × Nat
def mW (S : mM) (p : Nat) (f : Nat → Int32) : mM := (fun q => if q = p then f else S.1 q, S.2)
def mS (S : mM) (p k : Nat) (v : Int32) : mM := mW S p (upd (S.1 p) k v)
def mL (S : mM) (p k : Nat) (v : Int64) : mM := (S.1, (fun q => if q = p then vp_updL (S.2.1 p) k v else S.2.1 q), S.2.2)
def mK (Γ : gG) (q : Nat) : Value := if q = 0 then .null else .ref (Γ.2.2 q)
def mLn (p : Nat) : Nat := if p < 6 then 5 else if p = 6 then 40 else if p < 10 then 68 else if p < 16 then 51 else if p = 16 then 40 else if p < 19 then 5 else if p = 19 then 61 else 8
abbrev mF (Γ : gG) (S : mM) : List Value := [.int (S.1 0 0), .int (S.1 0 1), .int (S.1 0 2), .ref (Γ.2.2 1), .ref (Γ.2.2 2), .ref (Γ.2.2 3), .ref (Γ.2.2 4), .ref (Γ.2.2 5), .ref (Γ.2.2 6), .int (S.1 0 9), .ref (Γ.2.2 7), .ref (Γ.2.2 8), .ref (Γ.2.2 9), .int (S.1 0 13), .int (S.1 0 14), .int (S.1 0 15), mK Γ S.2.2, .int (S.1 0 17), .int (S.1 0 18), .int (S.1 0 19), .int (S.1 0 20), .int (S.1 0 21), .ref (Γ.2.2 10), .ref (Γ.2.2 11), .ref (Γ.2.2 12), .ref (Γ.2.2 13), .ref (Γ.2.2 14), .ref (Γ.2.2 15), .ref (Γ.2.2 16), .int (S.1 0 29), .ref (Γ.2.2 17), .ref (Γ.2.2 18), .ref (Γ.2.2 19), .int (S.1 0 33), .ref (Γ.2.2 20), .ref (Γ.2.2 21), .ref (Γ.2.2 22), .ref (Γ.2.2 23), .ref (Γ.2.2 24), .ref (Γ.2.2 25), .ref (Γ.2.2 26), .ref (Γ.2.2 27)]
def mE (Γ : gG) (S : mM) (p : Nat) : va_E :=
  if p = 0 then .inr (4, mF Γ S)
  else if p = 7 then .inl (Γ.2.1 4, 5, .inl (S.1 7))
  else if p = 26 then .inl (Γ.2.1 3, 800, .inr (.inl (S.2.1 26)))
  else if p = 27 then .inl (Γ.2.1 3, 100, .inr (.inl (S.2.1 27)))
  else .inl (Γ.2.1 0, mLn p, .inl (S.1 p))
theorem mE0 {Γ : gG} {S : mM} : mE Γ S 0 = .inr (4, mF Γ S) := rfl
theorem mE7 {Γ : gG} {S : mM} : mE Γ S 7 = .inl (Γ.2.1 4, 5, .inl (S.1 7)) := rfl
def mAr (p n : Nat) : Prop := ((1 ≤ p ∧ p ≤ 6) ∨ (8 ≤ p ∧ p ≤ 25)) ∧ mLn p = n
def mBr (p n : Nat) : Prop := (p = 26 ∧ n = 800) ∨ (p = 27 ∧ n = 100)
theorem mEa {Γ : gG} {S : mM} {p n : Nat} (h : mAr p n) : mE Γ S p = .inl (Γ.2.1 0, n, .inl (S.1 p)) := by
  obtain ⟨h, hn⟩ := h
  subst hn
  unfold mE
  rw [if_neg (by omega), if_neg (by omega), if_neg (by omega), if_neg (by omega)]
theorem mEb {Γ : gG} {S : mM} {p n : Nat} (h : mBr p n) : mE Γ S p = .inl (Γ.2.1 3, n, .inr (.inl (S.2.1 p))) := by
  rcases h with ⟨rfl, rfl⟩ | ⟨rfl, rfl⟩ <;> rfl
theorem mA_1 : mAr 1 5 := ⟨by omega, rfl⟩
theorem mA_2 : mAr 2 5 := ⟨by omega, rfl⟩
theorem mA_3 : mAr 3 5 := ⟨by omega, rfl⟩
theorem mA_4 : mAr 4 5 := ⟨by omega, rfl⟩
theorem mA_5 : mAr 5 5 := ⟨by omega, rfl⟩
theorem mA_6 : mAr 6 40 := ⟨by omega, rfl⟩
theorem mA_8 : mAr 8 68 := ⟨by omega, rfl⟩
theorem mA_9 : mAr 9 68 := ⟨by omega, rfl⟩
theorem mA_10 : mAr 10 51 := ⟨by omega, rfl⟩
theorem mA_11 : mAr 11 51 := ⟨by omega, rfl⟩
theorem mA_12 : mAr 12 51 := ⟨by omega, rfl⟩
theorem mA_13 : mAr 13 51 := ⟨by omega, rfl⟩
theorem mA_14 : mAr 14 51 := ⟨by omega, rfl⟩
theorem mA_15 : mAr 15 51 := ⟨by omega, rfl⟩
theorem mA_16 : mAr 16 40 := ⟨by omega, rfl⟩
theorem mA_17 : mAr 17 5 := ⟨by omega, rfl⟩
theorem mA_18 : mAr 18 5 := ⟨by omega, rfl⟩
theorem mA_19 : mAr 19 61 := ⟨by omega, rfl⟩
theorem mA_20 : mAr 20 8 := ⟨by omega, rfl⟩
theorem mA_21 : mAr 21 8 := ⟨by omega, rfl⟩
theorem mA_22 : mAr 22 8 := ⟨by omega, rfl⟩
theorem mA_23 : mAr 23 8 := ⟨by omega, rfl⟩
theorem mA_24 : mAr 24 8 := ⟨by omega, rfl⟩
theorem mA_25 : mAr 25 8 := ⟨by omega, rfl⟩
theorem mB_26 : mBr 26 800 := Or.inl ⟨rfl, rfl⟩
theorem mB_27 : mBr 27 100 := Or.inr ⟨rfl, rfl⟩
theorem mA_k {q : Nat} (h : 8 ≤ q ∧ q ≤ 9) : mAr q 68 := ⟨by omega, by unfold mLn; rw [if_neg (by omega), if_neg (by omega), if_pos (by omega)]⟩
theorem mW_s {S : mM} {p : Nat} {f : Nat → Int32} : (mW S p f).1 p = f := by simp [mW]
theorem mW_n {S : mM} {p q : Nat} {f : Nat → Int32} (h : q ≠ p) : (mW S p f).1 q = S.1 q := by simp [mW, h]
theorem mE_o {Γ : gG} {S : mM} {p : Nat} {f : Nat → Int32} (q : Nat) (h : q ≠ p) : mE Γ (mW S p f) q = mE Γ S q := by
  unfold mE
  by_cases h0 : q = 0
  · subst h0
    rw [if_pos rfl, if_pos rfl]
    unfold mF
    rw [mW_n h]
    rfl
  · rw [if_neg h0, if_neg h0]
    by_cases h7 : q = 7
    · subst h7
      rw [if_pos rfl, if_pos rfl, mW_n h]
    · rw [if_neg h7, if_neg h7, mW_n h]
      rfl
section Ml
variable {p : Program} {l : Launch} {e : Env} {R : Room} {s : State} {m : MethodId} {args : Array Value} {below : List Frame} {meth : Method} {c : Code} {H : Heap} {locs : List Loc} {cells slots : Nat} {Q : State → Prop}
variable {Γ : gG} {N : Nat} {E : Nat → va_E} {S : mM} {own : String} {cc : ByteArray} {nL : Nat} {ret : Option FieldType} {pc : Nat} {ls : Array Slot} {rest : List Value}
theorem r_zld {q n : Nat} {f : Nat → Int32} {i : Int32} (C : Cx Γ N p s m args meth c own cc nL ret) (hP : St Γ N E s.heap H locs) (hq : q < N) (he : E q = .inl (Γ.2.1 4, n, .inl f)) (hin : vp_in i n) (hdg : decode cc pc = .ok (.baload, 1))
    (kk : W p l e R s m args below meth c H locs cells slots Q (F0 m (pc + 1) ls (.int (f i.toNatClampNeg) :: rest))) : W p l e R s m args below meth c H locs cells slots Q (F0 m pc ls (.int i :: .ref (Γ.2.2 q) :: rest)) := by
  obtain ⟨hx, hb, -, -, hown, hts, -, hX, -⟩ := C
  exact va_zald hx hb hX.1 hP.1 q 4 (wl_as hq he) rfl hin hdg kk
theorem r_zst {q n : Nat} {f : Nat → Int32} {i x : Int32} {E' : Nat → va_E} (C : Cx Γ N p s m args meth c own cc nL ret) (hP : St Γ N E s.heap H locs) (hq : q < N) (he : E q = .inl (Γ.2.1 4, n, .inl f)) (hin : vp_in i n) (h01 : x = 0 ∨ x = 1) (he' : E' q = .inl (Γ.2.1 4, n, .inl (upd f i.toNatClampNeg x))) (ho : ∀ q', q' < N → q' ≠ q → E' q' = E q') (hdg : decode cc pc = .ok (.bastore, 1))
    (kk : ∀ (H1 : Heap) (locs1 : List Loc), St Γ N E' s.heap H1 locs1 → W p l e R s m args below meth c H1 locs1 cells slots Q (F0 m (pc + 1) ls rest)) : W p l e R s m args below meth c H locs cells slots Q (F0 m pc ls (.int x :: .int i :: .ref (Γ.2.2 q) :: rest)) := by
  obtain ⟨hx, hb, -, -, hown, hts, -, hX, hI⟩ := C
  refine va_zast hx hb hX.1 hP.1 (wl_D hI) hP.2 q 4 (wl_as hq he) rfl hin hdg (fun H1 locs1 hP1 hD1 hS1 => kk H1 locs1 ⟨?_, hS1⟩)
  rw [show vp_nar .boolean x = x by rcases h01 with rfl | rfl <;> rfl, wl_set hq he' ho] at hP1
  exact hP1
theorem m_get {index : Nat} {v : Value} (C : Cx Γ 28 p s m args meth c own cc nL ret) (hP : St Γ 28 (mE Γ S) s.heap H locs) (k : Nat) (hk : k < 42) (hlink : Cond.fieldLink own index "LaneAtBorderModel" (TX6 k).2.1 (TX6 k).2.2.1 ∈ Ub) (hr : (TX6 k).1 = "LaneAtBorderModel") (hv : (mF Γ S)[k]? = some v) (hdg : decode cc pc = .ok (.getfield index, 3))
    (kk : W p l e R s m args below meth c H locs cells slots Q (F0 m (pc + 3) ls (v :: rest))) : W p l e R s m args below meth c H locs cells slots Q (F0 m pc ls (.ref (Γ.2.2 0) :: rest)) := r_get iuX6 (ci := 4) rfl C hP (by omega) mE0 k hk hlink hr hv hdg kk
theorem m_getK {index : Nat} (C : Cx Γ 28 p s m args meth c own cc nL ret) (hP : St Γ 28 (mE Γ S) s.heap H locs) (hN : 8 ≤ S.2.2 ∧ S.2.2 ≤ 9) (hlink : Cond.fieldLink own index "LaneAtBorderModel" (TX6 16).2.1 (TX6 16).2.2.1 ∈ Ub) (hdg : decode cc pc = .ok (.getfield index, 3))
    (kk : W p l e R s m args below meth c H locs cells slots Q (F0 m (pc + 3) ls (.ref (Γ.2.2 S.2.2) :: rest))) : W p l e R s m args below meth c H locs cells slots Q (F0 m pc ls (.ref (Γ.2.2 0) :: rest)) := r_get iuX6 (ci := 4) (v := .ref (Γ.2.2 S.2.2)) rfl C hP (by omega) mE0 16 (by decide) hlink rfl (by show some (mK Γ S.2.2) = _; unfold mK; rw [if_neg (by omega)]) hdg kk
theorem m_put {index : Nat} {v : Int32} (C : Cx Γ 28 p s m args meth c own cc nL ret) (hP : St Γ 28 (mE Γ S) s.heap H locs) (k : Nat) (hk : k = 0 ∨ k = 1 ∨ k = 2 ∨ k = 9 ∨ k = 14 ∨ k = 17 ∨ k = 18 ∨ k = 19 ∨ k = 21 ∨ k = 29 ∨ k = 33) (hlink : Cond.fieldLink own index "LaneAtBorderModel" (TX6 k).2.1 (TX6 k).2.2.1 ∈ Ub) (hdg : decode cc pc = .ok (.putfield index, 3))
    (kk : ∀ (H1 : Heap) (locs1 : List Loc), St Γ 28 (mE Γ (mS S 0 k v)) s.heap H1 locs1 → W p l e R s m args below meth c H1 locs1 cells slots Q (F0 m (pc + 3) ls rest)) : W p l e R s m args below meth c H locs cells slots Q (F0 m pc ls (.int v :: .ref (Γ.2.2 0) :: rest)) := by
  rcases hk with rfl | rfl | rfl | rfl | rfl | rfl | rfl | rfl | rfl | rfl | rfl <;> exact r_put iuX6 (ci := 4) (ty0 := tyX6) rfl tyX6_ok nmX6 C hP (by omega) mE0 _ (by omega) hlink rfl rfl rfl rfl rfl (by simp [mF]) (by rw [mE0]; simp [mF, mS, mW, upd]) (fun q' _ h => mE_o q' h) hdg kk
theorem m_putZ {index : Nat} {v : Int32} (C : Cx Γ 28 p s m args meth c own cc nL ret) (hP : St Γ 28 (mE Γ S) s.heap H locs) (k : Nat) (hk : k = 13 ∨ k = 15 ∨ k = 20) (hlink : Cond.fieldLink own index "LaneAtBorderModel" (TX6 k).2.1 (TX6 k).2.2.1 ∈ Ub) (h01 : v = 0 ∨ v = 1) (hdg : decode cc pc = .ok (.putfield index, 3))
    (kk : ∀ (H1 : Heap) (locs1 : List Loc), St Γ 28 (mE Γ (mS S 0 k v)) s.heap H1 locs1 → W p l e R s m args below meth c H1 locs1 cells slots Q (F0 m (pc + 3) ls rest)) : W p l e R s m args below meth c H locs cells slots Q (F0 m pc ls (.int v :: .ref (Γ.2.2 0) :: rest)) := by
  rcases hk with rfl | rfl | rfl <;> exact r_put iuX6 (ci := 4) (ty0 := tyX6) rfl tyX6_ok nmX6 C hP (by omega) mE0 _ (by omega) hlink rfl rfl (by rcases h01 with rfl | rfl <;> rfl) (by rcases h01 with rfl | rfl <;> rfl) rfl (by simp [mF]) (by rw [mE0]; simp [mF, mS, mW, upd]) (fun q' _ h => mE_o q' h) hdg kk
theorem m_putK {index q : Nat} (C : Cx Γ 28 p s m args meth c own cc nL ret) (hP : St Γ 28 (mE Γ S) s.heap H locs) (hq : mAr q 68) (hlink : Cond.fieldLink own index "LaneAtBorderModel" (TX6 16).2.1 (TX6 16).2.2.1 ∈ Ub) (hdg : decode cc pc = .ok (.putfield index, 3))
    (kk : ∀ (H1 : Heap) (locs1 : List Loc), St Γ 28 (mE Γ (S.1, S.2.1, q)) s.heap H1 locs1 → W p l e R s m args below meth c H1 locs1 cells slots Q (F0 m (pc + 3) ls rest)) : W p l e R s m args below meth c H locs cells slots Q (F0 m pc ls (.ref (Γ.2.2 q) :: .ref (Γ.2.2 0) :: rest)) :=
  r_put iuX6 (ci := 4) (ty0 := tyX6) rfl tyX6_ok nmX6 C hP (by omega) mE0 16 (by omega) hlink rfl rfl rfl rfl rfl (by simp [mF]) (by have := hq.1; rw [mE0]; simp [mF, mK, show ¬ q = 0 by omega]) (fun q' _ h => by unfold mE; rw [if_neg h, if_neg h]) hdg kk
theorem m_ild {q n : Nat} {i : Int32} (C : Cx Γ 28 p s m args meth c own cc nL ret) (hP : St Γ 28 (mE Γ S) s.heap H locs) (ha : mAr q n) (hin : vp_in i n) (hdg : decode cc pc = .ok (.iaload, 1))
    (kk : W p l e R s m args below meth c H locs cells slots Q (F0 m (pc + 1) ls (.int (S.1 q i.toNatClampNeg) :: rest))) : W p l e R s m args below meth c H locs cells slots Q (F0 m pc ls (.int i :: .ref (Γ.2.2 q) :: rest)) :=
  r_ild C hP (by have := ha.1; omega) (mEa ha) hin hdg kk
theorem m_ist {q n : Nat} {i x : Int32} (C : Cx Γ 28 p s m args meth c own cc nL ret) (hP : St Γ 28 (mE Γ S) s.heap H locs) (ha : mAr q n) (hin : vp_in i n) (hdg : decode cc pc = .ok (.iastore, 1))
    (kk : ∀ (H1 : Heap) (locs1 : List Loc), St Γ 28 (mE Γ (mS S q i.toNatClampNeg x)) s.heap H1 locs1 → W p l e R s m args below meth c H1 locs1 cells slots Q (F0 m (pc + 1) ls rest)) : W p l e R s m args below meth c H locs cells slots Q (F0 m pc ls (.int x :: .int i :: .ref (Γ.2.2 q) :: rest)) :=
  r_ist C hP (by have := ha.1; omega) (mEa ha) hin (by rw [mEa ha, mW_s]) (fun q' _ h => mE_o q' h) hdg kk
theorem m_zld {i : Int32} (C : Cx Γ 28 p s m args meth c own cc nL ret) (hP : St Γ 28 (mE Γ S) s.heap H locs) (hin : vp_in i 5) (hdg : decode cc pc = .ok (.baload, 1))
    (kk : W p l e R s m args below meth c H locs cells slots Q (F0 m (pc + 1) ls (.int (S.1 7 i.toNatClampNeg) :: rest))) : W p l e R s m args below meth c H locs cells slots Q (F0 m pc ls (.int i :: .ref (Γ.2.2 7) :: rest)) :=
  r_zld C hP (by omega) mE7 hin hdg kk
theorem m_zst {i x : Int32} (C : Cx Γ 28 p s m args meth c own cc nL ret) (hP : St Γ 28 (mE Γ S) s.heap H locs) (hin : vp_in i 5) (h01 : x = 0 ∨ x = 1) (hdg : decode cc pc = .ok (.bastore, 1))
    (kk : ∀ (H1 : Heap) (locs1 : List Loc), St Γ 28 (mE Γ (mS S 7 i.toNatClampNeg x)) s.heap H1 locs1 → W p l e R s m args below meth c H1 locs1 cells slots Q (F0 m (pc + 1) ls rest)) : W p l e R s m args below meth c H locs cells slots Q (F0 m pc ls (.int x :: .int i :: .ref (Γ.2.2 7) :: rest)) :=
  r_zst C hP (by omega) mE7 hin h01 (by rw [mE7, mW_s]) (fun q' _ h => mE_o q' h) hdg kk
theorem m_lld {q n : Nat} {i : Int32} (C : Cx Γ 28 p s m args meth c own cc nL ret) (hP : St Γ 28 (mE Γ S) s.heap H locs) (ha : mBr q n) (hin : vp_in i n) (hdg : decode cc pc = .ok (.laload, 1))
    (kk : W p l e R s m args below meth c H locs cells slots Q (F0 m (pc + 1) ls (.long (S.2.1 q i.toNatClampNeg) :: rest))) : W p l e R s m args below meth c H locs cells slots Q (F0 m pc ls (.int i :: .ref (Γ.2.2 q) :: rest)) :=
  r_lld C hP (by unfold mBr at ha; omega) (mEb ha) hin hdg kk
theorem mL_s {q k : Nat} {v : Int64} : (mL S q k v).2.1 q = vp_updL (S.2.1 q) k v := by simp [mL]
theorem m_lst {q n : Nat} {i : Int32} {x : Int64} (C : Cx Γ 28 p s m args meth c own cc nL ret) (hP : St Γ 28 (mE Γ S) s.heap H locs) (ha : mBr q n) (hin : vp_in i n) (hdg : decode cc pc = .ok (.lastore, 1))
    (kk : ∀ (H1 : Heap) (locs1 : List Loc), St Γ 28 (mE Γ (mL S q i.toNatClampNeg x)) s.heap H1 locs1 → W p l e R s m args below meth c H1 locs1 cells slots Q (F0 m (pc + 1) ls rest)) : W p l e R s m args below meth c H locs cells slots Q (F0 m pc ls (.long x :: .int i :: .ref (Γ.2.2 q) :: rest)) :=
  r_lst C hP (by unfold mBr at ha; omega) (mEb ha) hin (by rw [mEb ha, mL_s]) (fun q' _ h => by
    unfold mBr at ha
    unfold mE
    rcases ha with ⟨rfl, rfl⟩ | ⟨rfl, rfl⟩ <;> (by_cases h6 : q' = 26 <;> by_cases h7 : q' = 27 <;> simp [mL, h6, h7] <;> omega)) hdg kk
end Ml
