/-! ===== the class's world: 74 places. 0 the object; 1..3 crossings; 4..6 their rows of queues; 7..21 queues (of crossing c: 5c+2+i); 22..36 their sorts, 37..51 what they need; 52 the row of shelves, 53..60 shelves, 61..68 their values; 69 ends, 70 line, 71 usable, 72 told, 73 swing ===== -/
abbrev cM : Type := (Nat → Nat → Int32) × Nat × Nat
def cW (S : cM) (p : Nat) (f : Nat → Int32) : cM := (fun q => if q = p then f else S.1 q, S.2)
def cS (S : cM) (p k : Nat) (v : Int32) : cM := cW S p (upd (S.1 p) k v)
def cLn (p : Nat) : Nat := if p < 37 then 8 else if p < 52 then 4 else if p < 69 then 100 else if p = 70 then 40 else if p = 72 then 4 else if p = 73 then 61 else 5
abbrev cF0 (Γ : gG) (S : cM) : List Value := [.ref (Γ.2.2 S.2.1), .ref (Γ.2.2 S.2.2), .ref (Γ.2.2 3), .int (S.1 0 3), .ref (Γ.2.2 52), .ref (Γ.2.2 69), .ref (Γ.2.2 70), .ref (Γ.2.2 71), .ref (Γ.2.2 72), .ref (Γ.2.2 73)]
abbrev cF1 (Γ : gG) (S : cM) (p : Nat) : List Value := [.ref (Γ.2.2 (p + 3)), .int (S.1 p 1), .int (S.1 p 2), .int (S.1 p 3)]
abbrev cF3 (Γ : gG) (S : cM) (p : Nat) : List Value := [.int (S.1 p 0), .int (S.1 p 1), .int (S.1 p 2), .int (S.1 p 3), .int (S.1 p 4), .ref (Γ.2.2 (p + 15)), .ref (Γ.2.2 (p + 30))]
abbrev cF4 (Γ : gG) (S : cM) (p : Nat) : List Value := [.int (S.1 p 0), .int (S.1 p 1), .int (S.1 p 2), .int (S.1 p 3), .int (S.1 p 4), .int (S.1 p 5), .ref (Γ.2.2 (p + 8))]
def cE (Γ : gG) (S : cM) (p : Nat) : va_E :=
  if p = 0 then .inr (3, cF0 Γ S)
  else if p < 4 then .inr (0, cF1 Γ S p)
  else if p < 7 then .inl (Γ.2.1 1, 5, .inr (.inr (.inr (.inr (fun i => some (Γ.2.2 (5 * (p - 3) + 2 + i)))))))
  else if p < 22 then .inr (1, cF3 Γ S p)
  else if p < 52 then .inl (Γ.2.1 0, cLn p, .inl (S.1 p))
  else if p = 52 then .inl (Γ.2.1 2, 8, .inr (.inr (.inr (.inr (fun i => some (Γ.2.2 (53 + i)))))))
  else if p < 61 then .inr (2, cF4 Γ S p)
  else .inl (Γ.2.1 0, cLn p, .inl (S.1 p))
theorem cE0 {Γ : gG} {S : cM} : cE Γ S 0 = .inr (3, cF0 Γ S) := rfl
theorem cE1 {Γ : gG} {S : cM} {p : Nat} (h : 1 ≤ p ∧ p ≤ 3) : cE Γ S p = .inr (0, cF1 Γ S p) := by
  unfold cE; rw [if_neg (by omega), if_pos (by omega)]
theorem cEq {Γ : gG} {S : cM} {p : Nat} (h : 1 ≤ p ∧ p ≤ 3) : cE Γ S (p + 3) = .inl (Γ.2.1 1, 5, .inr (.inr (.inr (.inr (fun i => some (Γ.2.2 (5 * p + 2 + i))))))) := by
  unfold cE; rw [if_neg (by omega), if_neg (by omega), if_pos (by omega), Nat.add_sub_cancel]
theorem cE3 {Γ : gG} {S : cM} {p : Nat} (h : 7 ≤ p ∧ p ≤ 21) : cE Γ S p = .inr (1, cF3 Γ S p) := by
  unfold cE; rw [if_neg (by omega), if_neg (by omega), if_neg (by omega), if_pos (by omega)]
theorem cEs {Γ : gG} {S : cM} : cE Γ S 52 = .inl (Γ.2.1 2, 8, .inr (.inr (.inr (.inr (fun i => some (Γ.2.2 (53 + i))))))) := rfl
theorem cE4 {Γ : gG} {S : cM} {p : Nat} (h : 53 ≤ p ∧ p ≤ 60) : cE Γ S p = .inr (2, cF4 Γ S p) := by
  unfold cE; rw [if_neg (by omega), if_neg (by omega), if_neg (by omega), if_neg (by omega), if_neg (by omega), if_neg (by omega), if_pos (by omega)]
def cAr (p n : Nat) : Prop := ((22 ≤ p ∧ p ≤ 51) ∨ (61 ≤ p ∧ p ≤ 73)) ∧ cLn p = n
theorem cEa {Γ : gG} {S : cM} {p n : Nat} (h : cAr p n) : cE Γ S p = .inl (Γ.2.1 0, n, .inl (S.1 p)) := by
  obtain ⟨h, hn⟩ := h
  subst hn
  unfold cE
  rw [if_neg (by omega), if_neg (by omega), if_neg (by omega), if_neg (by omega)]
  rcases h with h | h
  · rw [if_pos (by omega)]
  · rw [if_neg (by omega), if_neg (by omega), if_neg (by omega)]
theorem cA_so {p : Nat} (h : 7 ≤ p ∧ p ≤ 21) : cAr (p + 15) 8 := ⟨by omega, by unfold cLn; rw [if_pos (by omega)]⟩
theorem cA_ne {p : Nat} (h : 7 ≤ p ∧ p ≤ 21) : cAr (p + 30) 4 := ⟨by omega, by unfold cLn; rw [if_neg (by omega), if_pos (by omega)]⟩
theorem cA_va {p : Nat} (h : 53 ≤ p ∧ p ≤ 60) : cAr (p + 8) 100 := ⟨by omega, by unfold cLn; rw [if_neg (by omega), if_neg (by omega), if_pos (by omega)]⟩
theorem cA_69 : cAr 69 5 := ⟨by omega, rfl⟩
theorem cA_70 : cAr 70 40 := ⟨by omega, rfl⟩
theorem cA_71 : cAr 71 5 := ⟨by omega, rfl⟩
theorem cA_72 : cAr 72 4 := ⟨by omega, rfl⟩
theorem cA_73 : cAr 73 61 := ⟨by omega, rfl⟩
theorem cW_s {S : cM} {p : Nat} {f : Nat → Int32} : (cW S p f).1 p = f := by simp [cW]
theorem cW_n {S : cM} {p q : Nat} {f : Nat → Int32} (h : q ≠ p) : (cW S p f).1 q = S.1 q := by simp [cW, h]
theorem cE_o {Γ : gG} {S : cM} {p : Nat} {f : Nat → Int32} (q : Nat) (h : q ≠ p) : cE Γ (cW S p f) q = cE Γ S q := by
  unfold cE cF0 cF1 cF3 cF4
  rw [cW_n h]
  by_cases h0 : q = 0
  · subst h0
    rw [if_pos rfl, if_pos rfl, cW_n h]
    rfl
  · rw [if_neg h0, if_neg h0]
section Cl
variable {p : Program} {l : Launch} {e : Env} {R : Room} {s : State} {m : MethodId} {args : Array Value} {below : List Frame} {meth : Method} {c : Code} {H : Heap} {locs : List Loc} {cells slots : Nat} {Q : State → Prop}
variable {Γ : gG} {S : cM} {own : String} {cc : ByteArray} {nL : Nat} {ret : Option FieldType} {pc : Nat} {ls : Array Slot} {rest : List Value}
theorem c0_get {index : Nat} {v : Value} (C : Cx Γ 74 p s m args meth c own cc nL ret) (hP : St Γ 74 (cE Γ S) s.heap H locs) (k : Nat) (hk : k < 10) (hlink : Cond.fieldLink own index "LaneAtBorder" (TX5 k).2.1 (TX5 k).2.2.1 ∈ Ub) (hr : (TX5 k).1 = "LaneAtBorder") (hv : (cF0 Γ S)[k]? = some v) (hdg : decode cc pc = .ok (.getfield index, 3))
    (kk : W p l e R s m args below meth c H locs cells slots Q (F0 m (pc + 3) ls (v :: rest))) : W p l e R s m args below meth c H locs cells slots Q (F0 m pc ls (.ref (Γ.2.2 0) :: rest)) := r_get iuX5 (ci := 3) rfl C hP (by omega) cE0 k hk hlink hr hv hdg kk
theorem c1_get {index q : Nat} {v : Value} (C : Cx Γ 74 p s m args meth c own cc nL ret) (hP : St Γ 74 (cE Γ S) s.heap H locs) (hq : 1 ≤ q ∧ q ≤ 3) (k : Nat) (hk : k < 4) (hlink : Cond.fieldLink own index "LaneAtBorder$Crossing" (TX1 k).2.1 (TX1 k).2.2.1 ∈ Ub) (hr : (TX1 k).1 = "LaneAtBorder$Crossing") (hv : (cF1 Γ S q)[k]? = some v) (hdg : decode cc pc = .ok (.getfield index, 3))
    (kk : W p l e R s m args below meth c H locs cells slots Q (F0 m (pc + 3) ls (v :: rest))) : W p l e R s m args below meth c H locs cells slots Q (F0 m pc ls (.ref (Γ.2.2 q) :: rest)) := r_get iuX1 (ci := 0) rfl C hP (by omega) (cE1 hq) k hk hlink hr hv hdg kk
theorem c3_get {index q : Nat} {v : Value} (C : Cx Γ 74 p s m args meth c own cc nL ret) (hP : St Γ 74 (cE Γ S) s.heap H locs) (hq : 7 ≤ q ∧ q ≤ 21) (k : Nat) (hk : k < 7) (hlink : Cond.fieldLink own index "LaneAtBorder$Queue" (TX3 k).2.1 (TX3 k).2.2.1 ∈ Ub) (hr : (TX3 k).1 = "LaneAtBorder$Queue") (hv : (cF3 Γ S q)[k]? = some v) (hdg : decode cc pc = .ok (.getfield index, 3))
    (kk : W p l e R s m args below meth c H locs cells slots Q (F0 m (pc + 3) ls (v :: rest))) : W p l e R s m args below meth c H locs cells slots Q (F0 m pc ls (.ref (Γ.2.2 q) :: rest)) := r_get iuX3 (ci := 1) rfl C hP (by omega) (cE3 hq) k hk hlink hr hv hdg kk
theorem c4_get {index q : Nat} {v : Value} (C : Cx Γ 74 p s m args meth c own cc nL ret) (hP : St Γ 74 (cE Γ S) s.heap H locs) (hq : 53 ≤ q ∧ q ≤ 60) (k : Nat) (hk : k < 7) (hlink : Cond.fieldLink own index "LaneAtBorder$Shelf" (TX4 k).2.1 (TX4 k).2.2.1 ∈ Ub) (hr : (TX4 k).1 = "LaneAtBorder$Shelf") (hv : (cF4 Γ S q)[k]? = some v) (hdg : decode cc pc = .ok (.getfield index, 3))
    (kk : W p l e R s m args below meth c H locs cells slots Q (F0 m (pc + 3) ls (v :: rest))) : W p l e R s m args below meth c H locs cells slots Q (F0 m pc ls (.ref (Γ.2.2 q) :: rest)) := r_get iuX4 (ci := 2) rfl C hP (by omega) (cE4 hq) k hk hlink hr hv hdg kk
theorem c0_putT {index : Nat} {v : Int32} (C : Cx Γ 74 p s m args meth c own cc nL ret) (hP : St Γ 74 (cE Γ S) s.heap H locs) (hlink : Cond.fieldLink own index "LaneAtBorder" (TX5 3).2.1 (TX5 3).2.2.1 ∈ Ub) (h01 : v = 0 ∨ v = 1) (hdg : decode cc pc = .ok (.putfield index, 3))
    (kk : ∀ (H1 : Heap) (locs1 : List Loc), St Γ 74 (cE Γ (cS S 0 3 v)) s.heap H1 locs1 → W p l e R s m args below meth c H1 locs1 cells slots Q (F0 m (pc + 3) ls rest)) : W p l e R s m args below meth c H locs cells slots Q (F0 m pc ls (.int v :: .ref (Γ.2.2 0) :: rest)) :=
  r_put iuX5 (ci := 3) (ty0 := tyX5) rfl tyX5_ok nmX5 C hP (by omega) cE0 3 (by omega) hlink rfl rfl (by rcases h01 with rfl | rfl <;> rfl) (by rcases h01 with rfl | rfl <;> rfl) rfl (by simp [cF0]) (by rw [cE0]; simp [cF0, cS, cW, upd]) (fun q _ h => cE_o q h) hdg kk
theorem c0_putN {index q : Nat} (C : Cx Γ 74 p s m args meth c own cc nL ret) (hP : St Γ 74 (cE Γ S) s.heap H locs) (hlink : Cond.fieldLink own index "LaneAtBorder" (TX5 0).2.1 (TX5 0).2.2.1 ∈ Ub) (hdg : decode cc pc = .ok (.putfield index, 3))
    (kk : ∀ (H1 : Heap) (locs1 : List Loc), St Γ 74 (cE Γ (S.1, q, S.2.2)) s.heap H1 locs1 → W p l e R s m args below meth c H1 locs1 cells slots Q (F0 m (pc + 3) ls rest)) : W p l e R s m args below meth c H locs cells slots Q (F0 m pc ls (.ref (Γ.2.2 q) :: .ref (Γ.2.2 0) :: rest)) :=
  r_put iuX5 (ci := 3) (ty0 := tyX5) rfl tyX5_ok nmX5 C hP (by omega) cE0 0 (by omega) hlink rfl rfl rfl rfl rfl (by simp [cF0]) (by rw [cE0]; simp [cF0]) (fun q' _ h => by unfold cE; rw [if_neg h, if_neg h]) hdg kk
theorem c0_putM {index q : Nat} (C : Cx Γ 74 p s m args meth c own cc nL ret) (hP : St Γ 74 (cE Γ S) s.heap H locs) (hlink : Cond.fieldLink own index "LaneAtBorder" (TX5 1).2.1 (TX5 1).2.2.1 ∈ Ub) (hdg : decode cc pc = .ok (.putfield index, 3))
    (kk : ∀ (H1 : Heap) (locs1 : List Loc), St Γ 74 (cE Γ (S.1, S.2.1, q)) s.heap H1 locs1 → W p l e R s m args below meth c H1 locs1 cells slots Q (F0 m (pc + 3) ls rest)) : W p l e R s m args below meth c H locs cells slots Q (F0 m pc ls (.ref (Γ.2.2 q) :: .ref (Γ.2.2 0) :: rest)) :=
  r_put iuX5 (ci := 3) (ty0 := tyX5) rfl tyX5_ok nmX5 C hP (by omega) cE0 1 (by omega) hlink rfl rfl rfl rfl rfl (by simp [cF0]) (by rw [cE0]; simp [cF0]) (fun q' _ h => by unfold cE; rw [if_neg h, if_neg h]) hdg kk
theorem c1_put {index q : Nat} {v : Int32} (C : Cx Γ 74 p s m args meth c own cc nL ret) (hP : St Γ 74 (cE Γ S) s.heap H locs) (hq : 1 ≤ q ∧ q ≤ 3) (k : Nat) (hk : k = 1 ∨ k = 2 ∨ k = 3) (hlink : Cond.fieldLink own index "LaneAtBorder$Crossing" (TX1 k).2.1 (TX1 k).2.2.1 ∈ Ub) (hdg : decode cc pc = .ok (.putfield index, 3))
    (kk : ∀ (H1 : Heap) (locs1 : List Loc), St Γ 74 (cE Γ (cS S q k v)) s.heap H1 locs1 → W p l e R s m args below meth c H1 locs1 cells slots Q (F0 m (pc + 3) ls rest)) : W p l e R s m args below meth c H locs cells slots Q (F0 m pc ls (.int v :: .ref (Γ.2.2 q) :: rest)) := by
  rcases hk with rfl | rfl | rfl <;> exact r_put iuX1 (ci := 0) (ty0 := tyX1) rfl tyX1_ok nmX1 C hP (by omega) (cE1 hq) _ (by omega) hlink rfl rfl rfl rfl rfl (by simp [cF1]) (by rw [cE1 hq]; simp [cF1, cS, cW, upd]) (fun q' _ h => cE_o q' h) hdg kk
theorem c3_put {index q : Nat} {v : Int32} (C : Cx Γ 74 p s m args meth c own cc nL ret) (hP : St Γ 74 (cE Γ S) s.heap H locs) (hq : 7 ≤ q ∧ q ≤ 21) (k : Nat) (hk : k = 0 ∨ k = 1 ∨ k = 2 ∨ k = 3 ∨ k = 4) (hlink : Cond.fieldLink own index "LaneAtBorder$Queue" (TX3 k).2.1 (TX3 k).2.2.1 ∈ Ub) (hdg : decode cc pc = .ok (.putfield index, 3))
    (kk : ∀ (H1 : Heap) (locs1 : List Loc), St Γ 74 (cE Γ (cS S q k v)) s.heap H1 locs1 → W p l e R s m args below meth c H1 locs1 cells slots Q (F0 m (pc + 3) ls rest)) : W p l e R s m args below meth c H locs cells slots Q (F0 m pc ls (.int v :: .ref (Γ.2.2 q) :: rest)) := by
  rcases hk with rfl | rfl | rfl | rfl | rfl <;> exact r_put iuX3 (ci := 1) (ty0 := tyX3) rfl tyX3_ok nmX3 C hP (by omega) (cE3 hq) _ (by omega) hlink rfl rfl rfl rfl rfl (by simp [cF3]) (by rw [cE3 hq]; simp [cF3, cS, cW, upd]) (fun q' _ h => cE_o q' h) hdg kk
theorem c4_put {index q : Nat} {v : Int32} (C : Cx Γ 74 p s m args meth c own cc nL ret) (hP : St Γ 74 (cE Γ S) s.heap H locs) (hq : 53 ≤ q ∧ q ≤ 60) (k : Nat) (hk : k = 0 ∨ k = 1 ∨ k = 2 ∨ k = 3 ∨ k = 4 ∨ k = 5) (hlink : Cond.fieldLink own index "LaneAtBorder$Shelf" (TX4 k).2.1 (TX4 k).2.2.1 ∈ Ub) (hdg : decode cc pc = .ok (.putfield index, 3))
    (kk : ∀ (H1 : Heap) (locs1 : List Loc), St Γ 74 (cE Γ (cS S q k v)) s.heap H1 locs1 → W p l e R s m args below meth c H1 locs1 cells slots Q (F0 m (pc + 3) ls rest)) : W p l e R s m args below meth c H locs cells slots Q (F0 m pc ls (.int v :: .ref (Γ.2.2 q) :: rest)) := by
  rcases hk with rfl | rfl | rfl | rfl | rfl | rfl <;> exact r_put iuX4 (ci := 2) (ty0 := tyX4) rfl tyX4_ok nmX4 C hP (by omega) (cE4 hq) _ (by omega) hlink rfl rfl rfl rfl rfl (by simp [cF4]) (by rw [cE4 hq]; simp [cF4, cS, cW, upd]) (fun q' _ h => cE_o q' h) hdg kk
theorem c_ild {q n : Nat} {i : Int32} (C : Cx Γ 74 p s m args meth c own cc nL ret) (hP : St Γ 74 (cE Γ S) s.heap H locs) (ha : cAr q n) (hin : vp_in i n) (hdg : decode cc pc = .ok (.iaload, 1))
    (kk : W p l e R s m args below meth c H locs cells slots Q (F0 m (pc + 1) ls (.int (S.1 q i.toNatClampNeg) :: rest))) : W p l e R s m args below meth c H locs cells slots Q (F0 m pc ls (.int i :: .ref (Γ.2.2 q) :: rest)) :=
  r_ild C hP (by have := ha.1; omega) (cEa ha) hin hdg kk
theorem c_ist {q n : Nat} {i x : Int32} (C : Cx Γ 74 p s m args meth c own cc nL ret) (hP : St Γ 74 (cE Γ S) s.heap H locs) (ha : cAr q n) (hin : vp_in i n) (hdg : decode cc pc = .ok (.iastore, 1))
    (kk : ∀ (H1 : Heap) (locs1 : List Loc), St Γ 74 (cE Γ (cS S q i.toNatClampNeg x)) s.heap H1 locs1 → W p l e R s m args below meth c H1 locs1 cells slots Q (F0 m (pc + 1) ls rest)) : W p l e R s m args below meth c H locs cells slots Q (F0 m pc ls (.int x :: .int i :: .ref (Γ.2.2 q) :: rest)) :=
  r_ist C hP (by have := ha.1; omega) (cEa ha) hin (by rw [cEa ha, cW_s]) (fun q' _ h => cE_o q' h) hdg kk
theorem c_aldQ {q : Nat} {i : Int32} (C : Cx Γ 74 p s m args meth c own cc nL ret) (hP : St Γ 74 (cE Γ S) s.heap H locs) (hq : 1 ≤ q ∧ q ≤ 3) (hin : vp_in i 5) (hdg : decode cc pc = .ok (.aaload, 1))
    (kk : W p l e R s m args below meth c H locs cells slots Q (F0 m (pc + 1) ls (.ref (Γ.2.2 (5 * q + 2 + i.toNatClampNeg)) :: rest))) : W p l e R s m args below meth c H locs cells slots Q (F0 m pc ls (.int i :: .ref (Γ.2.2 (q + 3)) :: rest)) :=
  r_ald (t := 1) C hP (by omega) rfl (cEq hq) hin rfl hdg kk
theorem c_aldS {i : Int32} (C : Cx Γ 74 p s m args meth c own cc nL ret) (hP : St Γ 74 (cE Γ S) s.heap H locs) (hin : vp_in i 8) (hdg : decode cc pc = .ok (.aaload, 1))
    (kk : W p l e R s m args below meth c H locs cells slots Q (F0 m (pc + 1) ls (.ref (Γ.2.2 (53 + i.toNatClampNeg)) :: rest))) : W p l e R s m args below meth c H locs cells slots Q (F0 m pc ls (.int i :: .ref (Γ.2.2 52) :: rest)) :=
  r_ald (t := 2) C hP (by omega) rfl cEs hin rfl hdg kk
theorem c_copy {q0 q1 n0 n1 index : Nat} {sp dp n : Int32} (C : Cx Γ 74 p s m args meth c own cc nL ret) (hP : St Γ 74 (cE Γ S) s.heap H locs) (hls : ls.size = nL) (hlink : Cond.methodLink own index arraycopyName ∈ Ub) (hnat : Cond.native arraycopyName ∈ Ub) (hstat : Cond.static arraycopyName ∈ Ub) (hini : Cond.initialized "java/lang/System" ∈ Ub) (ha0 : cAr q0 n0) (ha1 : cAr q1 n1) (hb : ¬ sp < 0 ∧ ¬ dp < 0 ∧ ¬ n < 0 ∧ sp.toNatClampNeg + n.toNatClampNeg ≤ n0 ∧ dp.toNatClampNeg + n.toNatClampNeg ≤ n1) (hfr : 1 ≤ R.frames) (hlo : (rest.map fun v => v.category).sum + (nativeFrameWords "java/lang/System" "arraycopy" 5 + 11) ≤ R.locals) (hdg : decode cc pc = .ok (.invokestatic index, 3))
    (kk : ∀ (H1 : Heap) (locs1 : List Loc), St Γ 74 (cE Γ (cW S q1 (va_cpy (S.1 q0) (S.1 q1) sp.toNatClampNeg dp.toNatClampNeg n.toNatClampNeg))) s.heap H1 locs1 → W p l e R s m args below meth c H1 locs1 cells slots Q (F0 m (pc + 3) ls rest)) : W p l e R s m args below meth c H locs cells slots Q (F0 m pc ls (.int n :: .int dp :: .ref (Γ.2.2 q1) :: .int sp :: .ref (Γ.2.2 q0) :: rest)) :=
  r_copy C hP hls hlink hnat hstat hini (by have := ha0.1; omega) (cEa ha0) (by have := ha1.1; omega) (cEa ha1) hb.1 hb.2.1 hb.2.2.1 hb.2.2.2.1 hb.2.2.2.2 (by rw [cEa ha1, cW_s]) (fun q' _ h => cE_o q' h) hfr hlo hdg kk
end Cl
