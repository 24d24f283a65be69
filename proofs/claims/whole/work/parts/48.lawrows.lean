/-! ===== the law: what stands over its run; the heap; rows ===== -/
abbrev LA (s : State) : Nat → Prop := fun q => s.heap.size ≤ q
def Lf (Γ : gG) (p : Program) (s : State) (m : MethodId) (meth : Method) (c : Code) (b L : Nat) (xs : Nat → Int32) : Prop :=
  CallFix p m c code 8 s #[Value.ref b] Ub RL ∧ meth.sig.returnType = ret ∧ meth.locks = false ∧ wX Γ s ∧ wT s ∧ wZ (LA s) s s.heap ∧ va_X b L xs s s.heap ∧ b < s.heap.size
/-- where the two objects lie, and the row 'out' -/
def Lp (Γ : gG) (s : State) (ac am : Nat → Nat) (ao : Nat) : Prop :=
  wI (gA Γ ac) 74 ∧ wI (gA Γ am) 28 ∧ (∀ q, wA (gA Γ ac) 74 q → s.heap.size ≤ q ∧ ¬ wA (gA Γ am) 28 q ∧ q ≠ ao) ∧ (∀ q, wA (gA Γ am) 28 q → s.heap.size ≤ q ∧ q ≠ ao) ∧ s.heap.size ≤ ao
abbrev oW (Γ : gG) (ao : Nat) (o : Nat → Int64) : va_W := [(ao, .inl (Γ.2.1 3, 1, .inr (.inl o)))]
/-- the heap at the law's rows -/
def Lh (Γ : gG) (s : State) (ac am : Nat → Nat) (ao : Nat) (Sc : cM) (Sm : mM) (o : Nat → Int64) (H : Heap) (locs : List Loc) : Prop :=
  va_P Γ.1 vwCl (wl (gA Γ ac) 74 (cE (gA Γ ac) Sc)) H ∧ va_P Γ.1 vwCl (wl (gA Γ am) 28 (mE (gA Γ am) Sm)) H ∧ va_P Γ.1 vwCl (oW Γ ao o) H ∧ va_S (LA s) s.heap H locs
abbrev lws (b : Nat) (ac am : Nat → Nat) (ao n : Nat) : List (Nat × Value) := [(0, .ref b), (1, .ref (ac 0)), (2, .ref (am 0)), (3, .ref ao), (4, .int (nI (6 * n)))]
theorem wl_wA {Γ : gG} {N k : Nat} {E : Nat → va_E} {q : Nat × va_E} (h : (wl Γ N E)[k]? = some q) : wA Γ N q.1 := by
  obtain ⟨hk, rfl⟩ := wl_get h
  exact ⟨k, hk, rfl⟩
theorem pk_w {D : va_G} {cl : List vw_C} {ws : va_W} {H H1 : Heap} {A1 : Nat → Prop} (hP : va_P D cl ws H) (hk : ∀ q : Nat, q < H.size → ¬ A1 q → H1[q]? = H[q]?) (hn : ∀ (k : Nat) (q : Nat × va_E), ws[k]? = some q → ¬ A1 q.1) : va_P D cl ws H1 :=
  fun k q h => (hP k q h).kept (hk q.1 ((hP k q h).lt) (hn k q h))
theorem oW_n {Γ : gG} {ao k : Nat} {o : Nat → Int64} {q : Nat × va_E} (h : (oW Γ ao o)[k]? = some q) : q.1 = ao := by
  cases k with
  | zero => cases h; rfl
  | succ k => simp at h
theorem P_cons {D : va_G} {cl : List vw_C} {x : Nat × va_E} {w : va_W} {H : Heap} (h : va_P D cl (x :: w) H) : va_P D cl [x] H ∧ va_P D cl w H :=
  ⟨fun k q hk => by
    cases k with
    | zero => exact h 0 q hk
    | succ k => simp at hk, fun k q hk => h (k + 1) q hk⟩
section Lw
variable {p : Program} {l : Launch} {e : Env} {R : Room} {s : State} {m : MethodId} {below : List Frame} {meth : Method} {c : Code} {H : Heap} {locs : List Loc} {cells slots : Nat} {Q : State → Prop}
variable {Γ : gG} {ac am : Nat → Nat} {ao b L : Nat} {xs : Nat → Int32} {pc : Nat} {ls : Array Slot} {rest : List Value} {Sc : cM} {Sm : mM} {o : Nat → Int64}
/-- an int of the script -/
theorem L_rd {n j : Nat} {ji : Int} (F : Lf Γ p s m meth c b L xs) (hS : va_S (LA s) s.heap H locs) (h0 : ls[0]? = some (.val (.ref b))) (h4 : ls[4]? = some (.val (.int (nI (6 * n))))) (hj : 6 * n + j < L) (hL : L ≤ 384) (d0 : decode code pc = .ok (.aload_n 0, 1)) (d1 : decode code (pc + 1) = .ok (.iload 4, 2)) (d3 : decode code (pc + 3) = .ok (.iconst ji, 1)) (hv : Int32.ofInt ji = nI j) (d4 : decode code (pc + 4) = .ok (.iadd, 1)) (d5 : decode code (pc + 5) = .ok (.iaload, 1))
    (kk : W p l e R s m #[Value.ref b] below meth c H locs cells slots Q (F0 m (pc + 6) ls (.int (xs (6 * n + j)) :: rest))) : W p l e R s m #[Value.ref b] below meth c H locs cells slots Q (F0 m pc ls rest) := by
  obtain ⟨⟨hx, hb, hml, hown, hts⟩, -, -, -, -, -, hX, hbl⟩ := F
  refine lv_aload_n hx hb d0 rfl h0 ?_
  refine lv_iload hx hb d1 h4 ?_
  refine lv_iconst hx hb d3 hv ?_
  refine lv_iadd hx hb d4 ?_
  rw [nI_add]
  refine va_sld hx hb hX hbl (Nat.not_le.mpr hbl) hS (nI_in hj (by omega)) d5 ?_
  rw [cl_n (by omega)]
  exact kk
theorem L_c {y : MethodName} {bc : ByteArray} {mL fr lo index n : Nat} {rt : FieldType} {av : List Value} {r : Int32} {Sc' : cM} (F : Lf Γ p s m meth c b L xs) (P : Lp Γ s ac am ao) (hH : Lh Γ s ac am ao Sc Sm o H locs) (hM : CtI l (gA Γ ac) 74 y bc mL rt fr lo (.ref (ac 0) :: av) (cE (gA Γ ac) Sc) r (cE (gA Γ ac) Sc')) (hls : ls.size = 8) (k1 : Cond.methodLink RL index y ∈ Ub) (q : Cond.instanceMethod y ∈ Ub ∧ Cond.selects RX5 y y ∈ Ub ∧ Cond.initialized RX5 ∈ Ub ∧ Cond.code y bc mL (some rt) ∈ Ub ∧ (y.cls = RX5 ∧ y.cls ≠ "java/lang/invoke/MethodHandle" ∧ y.cls ≠ "java/lang/invoke/VarHandle" ∧ (parseMethodDescriptor y.desc).map (fun d => d.parameters.length) = some n)) (hn : av.length = n) (hR : fr + 1 ≤ R.frames ∧ 8 + (mL + 11) + lo ≤ R.locals) (hcs : cells ≤ R.cells ∧ slots ≤ R.slots) (hst : (rest.map fun v => v.category).sum ≤ 8) (hdg : decode code pc = .ok (.invokevirtual index, 3))
    (kk : ∀ (H1 : Heap) (locs1 : List Loc), Lh Γ s ac am ao Sc' Sm o H1 locs1 → W p l e R s m #[Value.ref b] below meth c H1 locs1 cells slots Q (F0 m (pc + 3) ls (.int r :: rest))) : W p l e R s m #[Value.ref b] below meth c H locs cells slots Q (F0 m pc ls (av.reverse ++ .ref (ac 0) :: rest)) := by
  obtain ⟨⟨hx, hb, hml, hown, hts⟩, -, -, hX, -⟩ := F
  obtain ⟨p1, p2, p3, p4, p5⟩ := P
  obtain ⟨h1, h2, h3, h4⟩ := hH
  obtain ⟨q1, q2, q3, q4, q5⟩ := q
  have g : GoodIn Ub (wsV RL index RX5 y (gW y bc mL (some rt))) := gU (ws := [.methodLink RL index y, .instanceMethod y, .selects RX5 y y, .initialized RX5]) q4 (by intro w hw; simp only [List.mem_cons, List.not_mem_nil, or_false] at hw; rcases hw with rfl | rfl | rfl | rfl <;> assumption)
  have hX' : wX (gA Γ ac) s := hX
  refine va_calli (A0 := LA s) (A1 := wA (gA Γ ac) 74) (va_runV (nL := 8) (Ts := Ub) (own := RL) (As := av) (rest := rest) ⟨hx, hb, hml, hown, hts⟩ hM (cwV n hts g rfl rfl rfl q5 hR) ⟨gPc_blind, va_recv hX'.1 h1 (ci := 3) (q0 := 0) rfl (wl_as (p := 0) (by omega) cE0), fun U hU hW => ⟨rfl, by rw [hU]; exact h1, hX'.warm hW, p1⟩⟩ rfl hn hls rfl (lv_room hst) hdg hcs) h4 (fun z _ h => (p3 z h).1) (fun z h => (p3 z h).1) (fun r1 u t H1 locs1 ht hvm hw hB hz1 hk1 hS1 => ?_)
  subst hw
  exact kk H1 locs1 ⟨by rw [← ht]; exact hB, pk_w h2 hk1 (fun k z hz h => (p3 _ h).2.1 (wl_wA hz)), pk_w h3 hk1 (fun k z hz h => (p3 _ h).2.2 (oW_n hz)), hS1⟩
theorem L_m {y : MethodName} {bc : ByteArray} {mL fr lo index n : Nat} {rt : FieldType} {av : List Value} {r : Int32} {Sm' : mM} (F : Lf Γ p s m meth c b L xs) (P : Lp Γ s ac am ao) (hH : Lh Γ s ac am ao Sc Sm o H locs) (hM : CtI l (gA Γ am) 28 y bc mL rt fr lo (.ref (am 0) :: av) (mE (gA Γ am) Sm) r (mE (gA Γ am) Sm')) (hls : ls.size = 8) (k1 : Cond.methodLink RL index y ∈ Ub) (q : Cond.instanceMethod y ∈ Ub ∧ Cond.selects RX6 y y ∈ Ub ∧ Cond.initialized RX6 ∈ Ub ∧ Cond.code y bc mL (some rt) ∈ Ub ∧ (y.cls = RX6 ∧ y.cls ≠ "java/lang/invoke/MethodHandle" ∧ y.cls ≠ "java/lang/invoke/VarHandle" ∧ (parseMethodDescriptor y.desc).map (fun d => d.parameters.length) = some n)) (hn : av.length = n) (hR : fr + 1 ≤ R.frames ∧ 8 + (mL + 11) + lo ≤ R.locals) (hcs : cells ≤ R.cells ∧ slots ≤ R.slots) (hst : (rest.map fun v => v.category).sum ≤ 8) (hdg : decode code pc = .ok (.invokevirtual index, 3))
    (kk : ∀ (H1 : Heap) (locs1 : List Loc), Lh Γ s ac am ao Sc Sm' o H1 locs1 → W p l e R s m #[Value.ref b] below meth c H1 locs1 cells slots Q (F0 m (pc + 3) ls (.int r :: rest))) : W p l e R s m #[Value.ref b] below meth c H locs cells slots Q (F0 m pc ls (av.reverse ++ .ref (am 0) :: rest)) := by
  obtain ⟨⟨hx, hb, hml, hown, hts⟩, -, -, hX, -⟩ := F
  obtain ⟨p1, p2, p3, p4, p5⟩ := P
  obtain ⟨h1, h2, h3, h4⟩ := hH
  obtain ⟨q1, q2, q3, q4, q5⟩ := q
  have g : GoodIn Ub (wsV RL index RX6 y (gW y bc mL (some rt))) := gU (ws := [.methodLink RL index y, .instanceMethod y, .selects RX6 y y, .initialized RX6]) q4 (by intro w hw; simp only [List.mem_cons, List.not_mem_nil, or_false] at hw; rcases hw with rfl | rfl | rfl | rfl <;> assumption)
  have hX' : wX (gA Γ am) s := hX
  refine va_calli (A0 := LA s) (A1 := wA (gA Γ am) 28) (va_runV (nL := 8) (Ts := Ub) (own := RL) (As := av) (rest := rest) ⟨hx, hb, hml, hown, hts⟩ hM (cwV n hts g rfl rfl rfl q5 hR) ⟨gPc_blind, va_recv hX'.1 h2 (ci := 4) (q0 := 0) rfl (wl_as (p := 0) (by omega) mE0), fun U hU hW => ⟨rfl, by rw [hU]; exact h2, hX'.warm hW, p2⟩⟩ rfl hn hls rfl (lv_room hst) hdg hcs) h4 (fun z _ h => (p4 z h).1) (fun z h => (p4 z h).1) (fun r1 u t H1 locs1 ht hvm hw hB hz1 hk1 hS1 => ?_)
  subst hw
  exact kk H1 locs1 ⟨pk_w h1 hk1 (fun k z hz h => (p3 _ (wl_wA hz)).2.1 h), by rw [← ht]; exact hB, pk_w h3 hk1 (fun k z hz h => (p4 _ h).2 (oW_n hz)), hS1⟩
theorem L_ml {y : MethodName} {bc : ByteArray} {mL fr lo index n : Nat} {av : List Value} {r : Int64} {Sm' : mM} (F : Lf Γ p s m meth c b L xs) (P : Lp Γ s ac am ao) (hH : Lh Γ s ac am ao Sc Sm o H locs) (hM : CtL l (gA Γ am) 28 y bc mL fr lo (.ref (am 0) :: av) (mE (gA Γ am) Sm) r (mE (gA Γ am) Sm')) (hls : ls.size = 8) (k1 : Cond.methodLink RL index y ∈ Ub) (q : Cond.instanceMethod y ∈ Ub ∧ Cond.selects RX6 y y ∈ Ub ∧ Cond.initialized RX6 ∈ Ub ∧ Cond.code y bc mL (some .long) ∈ Ub ∧ (y.cls = RX6 ∧ y.cls ≠ "java/lang/invoke/MethodHandle" ∧ y.cls ≠ "java/lang/invoke/VarHandle" ∧ (parseMethodDescriptor y.desc).map (fun d => d.parameters.length) = some n)) (hn : av.length = n) (hR : fr + 1 ≤ R.frames ∧ 8 + (mL + 11) + lo ≤ R.locals) (hcs : cells ≤ R.cells ∧ slots ≤ R.slots) (hst : (rest.map fun v => v.category).sum ≤ 8) (hdg : decode code pc = .ok (.invokevirtual index, 3))
    (kk : ∀ (H1 : Heap) (locs1 : List Loc), Lh Γ s ac am ao Sc Sm' o H1 locs1 → W p l e R s m #[Value.ref b] below meth c H1 locs1 cells slots Q (F0 m (pc + 3) ls (.long r :: rest))) : W p l e R s m #[Value.ref b] below meth c H locs cells slots Q (F0 m pc ls (av.reverse ++ .ref (am 0) :: rest)) := by
  obtain ⟨⟨hx, hb, hml, hown, hts⟩, -, -, hX, -⟩ := F
  obtain ⟨p1, p2, p3, p4, p5⟩ := P
  obtain ⟨h1, h2, h3, h4⟩ := hH
  obtain ⟨q1, q2, q3, q4, q5⟩ := q
  have g : GoodIn Ub (wsV RL index RX6 y (gW y bc mL (some .long))) := gU (ws := [.methodLink RL index y, .instanceMethod y, .selects RX6 y y, .initialized RX6]) q4 (by intro w hw; simp only [List.mem_cons, List.not_mem_nil, or_false] at hw; rcases hw with rfl | rfl | rfl | rfl <;> assumption)
  have hX' : wX (gA Γ am) s := hX
  refine va_calll (A0 := LA s) (A1 := wA (gA Γ am) 28) (va_runV (nL := 8) (Ts := Ub) (own := RL) (As := av) (rest := rest) ⟨hx, hb, hml, hown, hts⟩ hM (cwV n hts g rfl rfl rfl q5 hR) ⟨gPc_blind, va_recv hX'.1 h2 (ci := 4) (q0 := 0) rfl (wl_as (p := 0) (by omega) mE0), fun U hU hW => ⟨rfl, by rw [hU]; exact h2, hX'.warm hW, p2⟩⟩ rfl hn hls rfl (lv_room hst) hdg hcs) h4 (fun z _ h => (p4 z h).1) (fun z h => (p4 z h).1) (fun r1 u t H1 locs1 ht hvm hw hB hz1 hk1 hS1 => ?_)
  subst hw
  exact kk H1 locs1 ⟨pk_w h1 hk1 (fun k z hz h => (p3 _ (wl_wA hz)).2.1 h), by rw [← ht]; exact hB, pk_w h3 hk1 (fun k z hz h => (p4 _ h).2 (oW_n hz)), hS1⟩
/-- a call of a method of the class that catches what it throws -/
theorem L_t {y : MethodName} {bc : ByteArray} {mL fr lo index n : Nat} {rt : FieldType} {hh : List (Nat × Nat × Nat × Nat)} {av : List Value} {r : Int32} {Sc' : cM} (F : Lf Γ p s m meth c b L xs) (P : Lp Γ s ac am ao) (hH : Lh Γ s ac am ao Sc Sm o H locs) (hM : Met l y (Cond.codeWith y bc mL (some rt) hh :: Ub) { frames := fr, cells := 1, slots := 6, locals := lo } (gPt (gA Γ ac) 74 (cE (gA Γ ac) Sc) (.ref (ac 0) :: av)) (gQi (gA Γ ac) 74 r (cE (gA Γ ac) Sc')) 1 6 (wA (gA Γ ac) 74)) (hls : ls.size = 8) (k1 : Cond.methodLink RL index y ∈ Ub) (q1 : Cond.instanceMethod y ∈ Ub) (q2 : Cond.selects RX5 y y ∈ Ub) (q3 : Cond.initialized RX5 ∈ Ub) (q4 : Cond.codeWith y bc mL (some rt) hh ∈ Ub) (q5 : y.cls = RX5 ∧ y.cls ≠ "java/lang/invoke/MethodHandle" ∧ y.cls ≠ "java/lang/invoke/VarHandle" ∧ (parseMethodDescriptor y.desc).map (fun d => d.parameters.length) = some n) (hn : av.length = n) (hR : fr + 1 ≤ R.frames ∧ 8 + (mL + 11) + lo ≤ R.locals) (hcs : cells + 1 ≤ R.cells ∧ slots + 6 ≤ R.slots) (hst : (rest.map fun v => v.category).sum ≤ 8) (hdg : decode code pc = .ok (.invokevirtual index, 3))
    (kk : ∀ (H1 : Heap) (locs1 : List Loc), Lh Γ s ac am ao Sc' Sm o H1 locs1 → W p l e R s m #[Value.ref b] below meth c H1 locs1 (cells + 1) (slots + 6) Q (F0 m (pc + 3) ls (.int r :: rest))) : W p l e R s m #[Value.ref b] below meth c H locs cells slots Q (F0 m pc ls (av.reverse ++ .ref (ac 0) :: rest)) := by
  obtain ⟨⟨hx, hb, hml, hown, hts⟩, -, -, hX, hT, hZ, -, -⟩ := F
  obtain ⟨p1, p2, p3, p4, p5⟩ := P
  obtain ⟨h1, h2, h3, h4⟩ := hH
  have g : GoodIn Ub (wsV RL index RX5 y (Cond.codeWith y bc mL (some rt) hh :: Ub)) := gU (ws := [.methodLink RL index y, .instanceMethod y, .selects RX5 y y, .initialized RX5]) q4 (by intro w hw; simp only [List.mem_cons, List.not_mem_nil, or_false] at hw; rcases hw with rfl | rfl | rfl | rfl <;> assumption)
  have hX' : wX (gA Γ ac) s := hX
  have hZ' : wZ (wA (gA Γ ac) 74) s H := (hZ.kept h4.2.1).narrow (fun z h => (p3 z h).1)
  refine va_calli (A0 := LA s) (A1 := wA (gA Γ ac) 74) (vx_runVW (nL := 8) (Ts := Ub) (own := RL) (As := av) (rest := rest) ⟨hx, hb, hml, hown, hts⟩ hM (vx_cwVW n hts g rfl rfl rfl q5 hR) ⟨gPt_blind, va_recv hX'.1 h1 (ci := 3) (q0 := 0) rfl (wl_as (p := 0) (by omega) cE0), fun U hU hW => ⟨rfl, by rw [hU]; exact h1, hX'.warm hW, p1, hT.warm hW, by rw [hU]; exact hZ'.moved hW.alike⟩⟩ rfl hn hls rfl (lv_room hst) hdg hcs) h4 (fun z _ h => (p3 z h).1) (fun z h => (p3 z h).1) (fun r1 u t H1 locs1 ht hvm hw hB hz1 hk1 hS1 => ?_)
  subst hw
  exact kk H1 locs1 ⟨by rw [← ht]; exact hB, pk_w h2 hk1 (fun k z hz h => (p3 _ h).2.1 (wl_wA hz)), pk_w h3 hk1 (fun k z hz h => (p3 _ h).2.2 (oW_n hz)), hS1⟩
end Lw
