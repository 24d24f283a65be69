/-! ===== constructors: rows ===== -/
def wY (Γ : gG) (U : State) : Prop := wX Γ U ∧ va_AO "LaneAtBorder$Queue" U ∧ va_AO "LaneAtBorder$Shelf" U ∧ va_Nw (.methodLinkNest RX1 27 yX3_init "LaneAtBorder") U ∧ va_Nw (.methodLinkNest RX5 48 yX4_init "LaneAtBorder") U
theorem wY.warm {Γ : gG} {s U : State} (hW : s.WarmedH U.vm) (h : wY Γ s) : wY Γ U := ⟨h.1.warm hW, h.2.1.moved hW.alike, h.2.2.1.moved hW.alike, va_Nw.warmM hW h.2.2.2.1, va_Nw.warmM hW h.2.2.2.2⟩
theorem wY.same {Γ : gG} {s U : State} (hv : s.vm = U.vm) (h : wY Γ s) : wY Γ U := ⟨h.1.same hv, h.2.1.moved (hv ▸ Vm.Alike.refl s.vm), h.2.2.1.moved (hv ▸ Vm.Alike.refl s.vm), va_Nw.same rfl hv h.2.2.2.1, va_Nw.same rfl hv h.2.2.2.2⟩
def iPc (Γ : gG) (h0 ci : Nat) (fs : List Value) (sz : Nat) : Array Value → State → Prop := va_Pc [.ref h0] (fun U => U.heap.size = sz ∧ va_P Γ.1 vwCl [(h0, .inr (ci, fs))] U.heap ∧ wY Γ U)
theorem iPc_blind {Γ : gG} {h0 ci : Nat} {fs : List Value} {sz : Nat} : FrameBlind (iPc Γ h0 ci fs sz) := fun _ _ _ _ q => ⟨q.1, q.2.1, q.2.2.1, q.2.2.2.same rfl⟩
abbrev iA (h0 ci : Nat) (fs : List Value) (sz : Nat) : Nat → Prop := va_A [(h0, .inr (ci, fs))] sz
def iQ {σ : Type} (Γ : gG) (h0 ci : Nat) (fs : List Value) (sz : Nat) (px : σ → Prop) (w1 : σ → va_W) : Array Value → State → Outcome → State → Prop := va_Qv px (fun u t => va_P Γ.1 vwCl (w1 u) t.heap ∧ va_D (iA h0 ci fs sz) (w1 u)) (iA h0 ci fs sz)
/-- THE CONTRACT of a constructor: what lies there behind it -/
def CtN {σ : Type} (l : Launch) (Γ : gG) (y : MethodName) (cc : ByteArray) (nL fr lo mc ms h0 ci : Nat) (fs : List Value) (sz : Nat) (px : σ → Prop) (w1 : σ → va_W) : Prop :=
  Met l y (gW y cc nL none) { frames := fr, cells := mc, slots := ms, locals := lo } (iPc Γ h0 ci fs sz) (iQ Γ h0 ci fs sz px w1) mc ms (iA h0 ci fs sz)
def Ix (Γ : gG) (p : Program) (s : State) (m : MethodId) (args : Array Value) (c : Code) (own : String) (cc : ByteArray) (nL : Nat) : Prop := CallFix p m c cc nL s args Ub own ∧ wY Γ s
def Iw (Γ : gG) (A : Nat → Prop) (ws : va_W) (H0 H : Heap) (locs : List Loc) : Prop := (va_P Γ.1 vwCl ws H ∧ va_D A ws ∧ va_S A H0 H locs) ∧ ∀ q, H0.size ≤ q → A q
theorem met_init {σ : Type} {l : Launch} {Γ : gG} {y : MethodName} {cc : ByteArray} {nL fr lo mc ms h0 ci : Nat} {fs : List Value} {sz : Nat} {px : σ → Prop} {w1 : σ → va_W} (own : String) (hy : plainName y.cls = true) (ho : y.cls = own) (hn : y.name = "<init>") (hs : Nat.ble 1 nL = true)
    (body : ∀ (p : Program) (e : Env) (s : State) (m : MethodId) (below : List Frame) (meth : Method) (c : Code) (ls : Array Slot), Ix Γ p s m [Value.ref h0].toArray c own cc nL → Iw Γ (iA h0 ci fs s.heap.size) [(h0, .inr (ci, fs))] s.heap s.heap [] → meth.sig.returnType = none → meth.locks = false → meth.name = "<init>" → lv_has ls nL [(0, .ref h0)] →
      W p l e { frames := fr, cells := mc, slots := ms, locals := lo } s m [Value.ref h0].toArray below meth c s.heap [] 0 0 (MQ below (iQ Γ h0 ci fs s.heap.size px w1) [Value.ref h0].toArray s mc ms (iA h0 ci fs s.heap.size)) (F0 m 0 ls [])) :
    CtN l Γ y cc nL fr lo mc ms h0 ci fs sz px w1 := by
  refine Met.ofW (cc := cc) (maxL := nL) (ret := none) hy rfl ?_
  intro p e s m args below meth c s₁ B hml hv'
  obtain ⟨rfl, hsz, hP, hY⟩ := hv'
  subst hsz
  have hts := atoms_spec (ws := gW y cc nL none) B.pre
  have hown : s.vm.findClass y.cls = some m.cls := findClass_of_methodNamed B.named
  have hl := lv_entry [Value.ref h0] (n := nL) (Nat.le_of_ble_eq_true hs)
  rw [lg_entry_eq]
  rw [ho] at hown
  have hD : va_D (iA h0 ci fs s.heap.size) [(h0, .inr (ci, fs))] := ⟨fun i j a b hi hj _ => by
    have h1 := (List.getElem?_eq_some_iff.mp hi).1
    have h2 := (List.getElem?_eq_some_iff.mp hj).1
    simp at h1 h2
    omega, fun _ _ hk => va_A.in hk⟩
  exact body p e s m below meth c _ ⟨⟨B.exec, B.bytes, hml, hown, fun w h => hts w (List.mem_cons_of_mem _ h)⟩, hY⟩ ⟨⟨hP, hD, va_S.rf⟩, fun q h => Or.inr h⟩ B.returns B.notSynchronized (by rw [← hn]; exact (name_of_methodNamed B.named B.method).1) hl
theorem i_joinR {D : va_G} {cl : List vw_C} {A : Nat → Prop} {wr w1 : va_W} {x : Nat × va_E} {H H1 : Heap} (hP : va_P D cl (wr ++ [x]) H) (hD : va_D A (wr ++ [x])) (hA : ∀ q, H.size ≤ q → A q) (hk : ∀ q : Nat, q < H.size → ¬ va_A [x] H.size q → H1[q]? = H[q]?) (hP1 : va_P D cl w1 H1) (hD1 : va_D (va_A [x] H.size) w1) : va_P D cl (wr ++ w1) H1 ∧ va_D A (wr ++ w1) := by
  have hx : (wr ++ [x])[wr.length]? = some x := by simp
  have le : ∀ {k : Nat} {q : Nat × va_E}, wr[k]? = some q → k < wr.length ∧ (wr ++ [x])[k]? = some q := by
    intro k q h
    have hkl := (List.getElem?_eq_some_iff.mp h).1
    exact ⟨hkl, by rw [List.getElem?_append_left hkl]; exact h⟩
  have one : ∀ {z : Nat}, va_A [x] H.size z → z = x.1 ∨ H.size ≤ z := by
    intro z h
    rcases h with ⟨i, e, hi⟩ | h
    · have h1 := (List.getElem?_eq_some_iff.mp hi).1
      have h0 : i = 0 := by simp at h1; omega
      subst h0
      have h2 : x = (z, e) := Option.some.inj hi
      exact Or.inl (by rw [h2])
    · exact Or.inr h
  have no : ∀ {k : Nat} {q : Nat × va_E}, wr[k]? = some q → ¬ va_A [x] H.size q.1 := by
    intro k q h ha
    obtain ⟨h1, h2⟩ := le h
    rcases one ha with h3 | h3
    · have := hD.1 k wr.length q x h2 hx h3
      omega
    · have := (hP k q h2).lt
      omega
  refine ⟨va_P.app (fun k q h => (hP k q (le h).2).kept (hk q.1 ((hP k q (le h).2).lt) (no h))) hP1, va_D.app ⟨fun i j a b hi hj hab => hD.1 i j a b (le hi).2 (le hj).2 hab, fun k q h => hD.2 k q (le h).2⟩ (hD1.weaken (fun k q _ hq => ?_)) (fun i j a b hi hj hab => no hi (by rw [hab]; exact hD1.2 j b hj))⟩
  rcases one hq with h | h
  · rw [h]; exact hD.2 wr.length x hx
  · exact hA _ h
section In
variable {p : Program} {l : Launch} {e : Env} {R : Room} {s : State} {m : MethodId} {args : Array Value} {below : List Frame} {meth : Method} {c : Code} {H : Heap} {locs : List Loc} {cells slots : Nat} {Q : State → Prop}
variable {Γ : gG} {A : Nat → Prop} {ws wr : va_W} {own : String} {cc : ByteArray} {nL : Nat} {pc : Nat} {ls : Array Slot} {rest : List Value}
theorem i_pre {q ci : Nat} {fs : List Value} (hI : Iw Γ A (wr ++ [(q, .inr (ci, fs))]) s.heap H locs) : va_P Γ.1 vwCl [(q, .inr (ci, fs))] H ∧ ∀ z, iA q ci fs H.size z → A z := by
  obtain ⟨⟨hP, hD, hS⟩, hA⟩ := hI
  have hx : (wr ++ [((q, .inr (ci, fs)) : Nat × va_E)])[wr.length]? = some (q, .inr (ci, fs)) := by simp
  refine ⟨fun k z hk => ?_, fun z h => ?_⟩
  · have h1 := (List.getElem?_eq_some_iff.mp hk).1
    have h0 : k = 0 := by simp at h1; omega
    subst h0
    cases hk
    exact hP wr.length _ hx
  · rcases h with ⟨i, e, hi⟩ | h
    · have h1 := (List.getElem?_eq_some_iff.mp hi).1
      have h0 : i = 0 := by simp at h1; omega
      subst h0
      cases hi
      exact hD.2 wr.length _ hx
    · exact hA z (Nat.le_trans hS.1 h)
theorem i_callI {σ : Type} {y : MethodName} {bc : ByteArray} {mL fr lo mc ms index ci q : Nat} {fs : List Value} {px : σ → Prop} {w1 : σ → va_W} (hM : CtN l Γ y bc mL fr lo mc ms q ci fs H.size px w1) (C : Ix Γ p s m args c own cc nL) (hI : Iw Γ A (wr ++ [(q, .inr (ci, fs))]) s.heap H locs) (hls : ls.size = nL) (k1 : Cond.methodLink own index y ∈ Ub) (k2 : Cond.instanceMethod y ∈ Ub) (k4 : Cond.initialized y.cls ∈ Ub) (k5 : Cond.code y bc mL none ∈ Ub) (hd : y.name = "<init>" ∧ y.cls ≠ "java/lang/invoke/MethodHandle" ∧ y.cls ≠ "java/lang/invoke/VarHandle" ∧ (parseMethodDescriptor y.desc).map (fun d => d.parameters.length) = some 0) (hR : fr + 1 ≤ R.frames ∧ 8 + (mL + 11) + lo ≤ R.locals) (hcs : cells + mc ≤ R.cells ∧ slots + ms ≤ R.slots) (hst : (rest.map fun v => v.category).sum ≤ 8) (hdg : decode cc pc = .ok (.invokespecial index, 3))
    (kk : ∀ (u : σ) (H1 : Heap) (locs1 : List Loc), px u → Iw Γ A (wr ++ w1 u) s.heap H1 locs1 → W p l e R s m args below meth c H1 locs1 (cells + mc) (slots + ms) Q (F0 m (pc + 3) ls rest)) : W p l e R s m args below meth c H locs cells slots Q (F0 m pc ls (.ref q :: rest)) := by
  obtain ⟨hPc, hF⟩ := i_pre hI
  obtain ⟨⟨hx, hb, hml, hown, hts⟩, hY⟩ := C
  obtain ⟨⟨hP, hD, hS⟩, hA⟩ := hI
  have g : GoodIn Ub (gW y bc mL none) := gU (ws := []) k5 (by intro w hw; simp at hw)
  refine va_callv (A0 := A) (A1 := iA q ci fs H.size) (va_runI (As := []) (rest := rest) ⟨hx, hb, hml, hown, hts⟩ hM (cwI 0 hts g rfl rfl rfl (hts _ k4) (hts _ k1) (hts _ k2) hd.1 hd.2 hR) ⟨iPc_blind, fun U hU hW => ⟨rfl, by rw [hU], by rw [hU]; exact hPc, hY.warm hW⟩⟩ rfl rfl hls rfl (lv_room hst) hdg hcs) hS (fun z _ h => hF z h) hF (fun u t H1 locs1 ht hvm hw hB hz1 hk1 hS1 => ?_)
  obtain ⟨hP1, hD1⟩ := hB
  rw [ht] at hP1
  obtain ⟨hP2, hD2⟩ := i_joinR hP hD (fun z h => hA z (Nat.le_trans hS.1 h)) hk1 hP1 hD1
  exact kk u H1 locs1 hw ⟨⟨hP2, hD2, hS1⟩, hA⟩
theorem i_callN {σ : Type} {y : MethodName} {bc : ByteArray} {mL fr lo mc ms index ci q : Nat} {fs : List Value} {px : σ → Prop} {w1 : σ → va_W} {host : String} (hM : CtN l Γ y bc mL fr lo mc ms q ci fs H.size px w1) (C : Ix Γ p s m args c own cc nL) (hI : Iw Γ A (wr ++ [(q, .inr (ci, fs))]) s.heap H locs) (hls : ls.size = nL) (k1 : va_Nw (.methodLinkNest own index y host) s) (k2 : Cond.instanceMethod y ∈ Ub) (k4 : Cond.initialized y.cls ∈ Ub) (k5 : Cond.code y bc mL none ∈ Ub) (hd : y.name = "<init>" ∧ y.cls ≠ "java/lang/invoke/MethodHandle" ∧ y.cls ≠ "java/lang/invoke/VarHandle" ∧ (parseMethodDescriptor y.desc).map (fun d => d.parameters.length) = some 0) (hR : fr + 1 ≤ R.frames ∧ 8 + (mL + 11) + lo ≤ R.locals) (hcs : cells + mc ≤ R.cells ∧ slots + ms ≤ R.slots) (hst : (rest.map fun v => v.category).sum ≤ 8) (hdg : decode cc pc = .ok (.invokespecial index, 3))
    (kk : ∀ (u : σ) (H1 : Heap) (locs1 : List Loc), px u → Iw Γ A (wr ++ w1 u) s.heap H1 locs1 → W p l e R s m args below meth c H1 locs1 (cells + mc) (slots + ms) Q (F0 m (pc + 3) ls rest)) : W p l e R s m args below meth c H locs cells slots Q (F0 m pc ls (.ref q :: rest)) := by
  obtain ⟨hPc, hF⟩ := i_pre hI
  obtain ⟨⟨hx, hb, hml, hown, hts⟩, hY⟩ := C
  obtain ⟨⟨hP, hD, hS⟩, hA⟩ := hI
  have g : GoodIn Ub (gW y bc mL none) := gU (ws := []) k5 (by intro w hw; simp at hw)
  refine va_callv (A0 := A) (A1 := iA q ci fs H.size) (va_runIN (As := []) (rest := rest) ⟨hx, hb, hml, hown, hts⟩ hM ⟨va_cnB 0 hts g rfl rfl rfl k1 (hts _ k4) hd.2 hR, hd.1, hts _ k2⟩ ⟨iPc_blind, fun U hU hW => ⟨rfl, by rw [hU], by rw [hU]; exact hPc, hY.warm hW⟩⟩ rfl rfl hls rfl (lv_room hst) hdg hcs) hS (fun z _ h => hF z h) hF (fun u t H1 locs1 ht hvm hw hB hz1 hk1 hS1 => ?_)
  obtain ⟨hP1, hD1⟩ := hB
  rw [ht] at hP1
  obtain ⟨hP2, hD2⟩ := i_joinR hP hD (fun z h => hA z (Nat.le_trans hS.1 h)) hk1 hP1 hD1
  exact kk u H1 locs1 hw ⟨⟨hP2, hD2, hS1⟩, hA⟩
theorem i_new {Cn : String} {T : u_T} {ty : Nat → FieldType} {Nf ci index : Nat} {fs : List Value} (hin : ∀ w ∈ u_ws Cn T Nf, w ∈ Ub) (hc : vwCl[ci]? = some (Cn, T, Nf)) (hty : ∀ k, k < Nf → parseFieldDescriptor (T k).2.2.1 = some (ty k)) (C : Ix Γ p s m args c own cc nL) (hI : Iw Γ A ws s.heap H locs) (k1 : Cond.classLink own index Cn ∈ Ub) (k2 : Cond.instantiable Cn Nf ∈ Ub) (k3 : Cond.initialized Cn ∈ Ub) (hfs : ∀ j, j < Nf → defaultValue (ty j) = vp_V fs j) (hcs : cells + 1 ≤ R.cells ∧ slots + Nf ≤ R.slots) (hdg : decode cc pc = .ok (.new index, 3))
    (kk : ∀ (q : Nat) (H1 : Heap), Iw Γ A (ws ++ [(q, .inr (ci, fs))]) s.heap H1 locs → W p l e R s m args below meth c H1 locs (cells + 1) (slots + Nf) Q (F0 m (pc + 3) ls (.ref q :: rest))) : W p l e R s m args below meth c H locs cells slots Q (F0 m pc ls rest) := by
  obtain ⟨⟨hx, hb, hml, hown, hts⟩, hY⟩ := C
  obtain ⟨⟨hP, hD, hS⟩, hA⟩ := hI
  exact va_new (ci := ci) (fs := fs) (C := Cn) (T := T) (N := Nf) hx hb hts hin ty hty hown (hts _ k1) (hts _ k2) (hts _ k3) hY.1.1 hP hD hS hA hc hfs hcs.1 hcs.2 hdg (fun q H1 hP1 hD1 hS1 => kk q H1 ⟨⟨hP1, hD1, hS1⟩, hA⟩)
theorem i_newA {atype : ArrayType} {n : Int32} {N' t0 : Nat} {a0 : vp_A} (C : Ix Γ p s m args c own cc nL) (hI : Iw Γ A ws s.heap H locs) (k : Cond.arrayClass (newarray.typeOf atype) ∈ Ub) (ht : (gty Γ)[t0]? = some (Γ.2.1 t0, newarray.typeOf atype)) (hra : ∀ (U : State) (cA : ClassId), va_RA U cA (newarray.typeOf atype) → U.vm.findClass ("[" ++ (newarray.typeOf atype).toString) = some cA) (ha : ∀ cA : ClassId, vp_cell cA a0 = arrV cA N' (fun _ => defaultValue (newarray.typeOf atype))) (hn : ¬ n < 0) (hN : n.toNatClampNeg = N') (hbytes : N' * componentBytes (newarray.typeOf atype) ≤ 536870912) (hcs : cells + 1 ≤ R.cells ∧ slots + N' ≤ R.slots) (hdg : decode cc pc = .ok (.newarray atype, 2))
    (kk : ∀ (q : Nat) (H1 : Heap), Iw Γ A (ws ++ [(q, .inl (Γ.2.1 t0, a0))]) s.heap H1 locs → W p l e R s m args below meth c H1 locs (cells + 1) (slots + N') Q (F0 m (pc + 2) ls (.ref q :: rest))) : W p l e R s m args below meth c H locs cells slots Q (F0 m pc ls (.int n :: rest)) := by
  obtain ⟨⟨hx, hb, hml, hown, hts⟩, hY⟩ := C
  obtain ⟨⟨hP, hD, hS⟩, hA⟩ := hI
  refine va_newa (a0 := a0) hx hb (hts _ k) rfl hY.1.1 hP hD hS hA ha hn hN hbytes hcs.1 hcs.2 hdg (fun q cA H1 hK1 hP1 hD1 hS1 => ?_)
  have e : cA = Γ.2.1 t0 := Option.some.inj ((hra _ _ (hK1.2 5 _ rfl).2).symm.trans (hra _ _ (hY.1.1.2 t0 _ ht).2))
  subst e
  exact kk q H1 ⟨⟨hP1, hD1, hS1⟩, hA⟩
theorem i_newQ {Cn : String} {index : Nat} {n : Int32} {N' t0 : Nat} (C : Ix Γ p s m args c own cc nL) (hI : Iw Γ A ws s.heap H locs) (k : Cond.classLink own index Cn ∈ Ub) (ho : va_AO Cn s) (ht : (gty Γ)[t0]? = some (Γ.2.1 t0, .object Cn)) (hn : ¬ n < 0) (hN : n.toNatClampNeg = N') (hbytes : N' * 4 ≤ 536870912) (hcs : cells + 1 ≤ R.cells ∧ slots + N' ≤ R.slots) (hdg : decode cc pc = .ok (.anewarray index, 3))
    (kk : ∀ (q : Nat) (H1 : Heap), Iw Γ A (ws ++ [(q, .inl (Γ.2.1 t0, N', .inr (.inr (.inr (.inr (fun _ => none))))))]) s.heap H1 locs → W p l e R s m args below meth c H1 locs (cells + 1) (slots + N') Q (F0 m (pc + 3) ls (.ref q :: rest))) : W p l e R s m args below meth c H locs cells slots Q (F0 m pc ls (.int n :: rest)) := by
  obtain ⟨⟨hx, hb, hml, hown, hts⟩, hY⟩ := C
  obtain ⟨⟨hP, hD, hS⟩, hA⟩ := hI
  refine va_newq hx hb hown (hts _ k) ho hY.1.1 hP hD hS hA hn hN hbytes hcs.1 hcs.2 hdg (fun q cA H1 hK1 hP1 hD1 hS1 => ?_)
  obtain ⟨_, _, _, _, _, e1⟩ := (hK1.2 5 _ rfl).2
  obtain ⟨_, _, _, _, _, e2⟩ := (hY.1.1.2 t0 _ ht).2
  have e : cA = Γ.2.1 t0 := Option.some.inj (e1.symm.trans e2)
  subst e
  exact kk q H1 ⟨⟨hP1, hD1, hS1⟩, hA⟩
theorem i_put {Cn : String} {T : u_T} {ty0 : Nat → FieldType} {Nf ci index a : Nat} {fs : List Value} {v : Value} (hin : ∀ w ∈ u_ws Cn T Nf, w ∈ Ub) (hc : vwCl[ci]? = some (Cn, T, Nf)) (hty : ∀ k, k < Nf → parseFieldDescriptor (T k).2.2.1 = some (ty0 k)) (hnm : ∀ a, a < Nf → ∀ b, b < Nf → a ≠ b → (T a).2.1 ≠ (T b).2.1) (C : Ix Γ p s m args c own cc nL) (hI : Iw Γ A ws s.heap H locs) (q0 k : Nat) (he : ws[q0]? = some (a, .inr (ci, fs))) (hk : k < Nf) (hlink : Cond.fieldLink own index (T k).1 (T k).2.1 (T k).2.2.1 ∈ Ub) (hfin : (T k).2.2.2 = false) (hn : narrow (ty0 k) v = v) (hfit : fits (ty0 k) v = true) (hl : k < fs.length) (hdg : decode cc pc = .ok (.putfield index, 3))
    (kk : ∀ (H1 : Heap) (locs1 : List Loc), Iw Γ A (ws.set q0 (a, .inr (ci, fs.set k v))) s.heap H1 locs1 → W p l e R s m args below meth c H1 locs1 cells slots Q (F0 m (pc + 3) ls rest)) : W p l e R s m args below meth c H locs cells slots Q (F0 m pc ls (v :: .ref a :: rest)) := by
  obtain ⟨⟨hx, hb, hml, hown, hts⟩, hY⟩ := C
  obtain ⟨⟨hP, hD, hS⟩, hA⟩ := hI
  exact va_put (D := Γ.1) (ci := ci) (v := v) (ty := ty0 k) (C := Cn) (T := T) (N := Nf) hx hb hts hin ty0 hty hnm hown hY.1.1 hP hD hS q0 he hc k hk (hts _ hlink) (fun _ h => h) hfin (hty k hk) hn hfit hl hdg (fun H1 locs1 hP1 hD1 hS1 => kk H1 locs1 ⟨⟨hP1, hD1, hS1⟩, hA⟩)
theorem i_putF {Cn : String} {T : u_T} {ty0 : Nat → FieldType} {Nf ci index a : Nat} {fs : List Value} {v : Value} (hin : ∀ w ∈ u_ws Cn T Nf, w ∈ Ub) (hc : vwCl[ci]? = some (Cn, T, Nf)) (hty : ∀ k, k < Nf → parseFieldDescriptor (T k).2.2.1 = some (ty0 k)) (hnm : ∀ a, a < Nf → ∀ b, b < Nf → a ≠ b → (T a).2.1 ≠ (T b).2.1) (C : Ix Γ p s m args c own cc nL) (hI : Iw Γ A ws s.heap H locs) (hi : meth.name = "<init>") (q0 k : Nat) (he : ws[q0]? = some (a, .inr (ci, fs))) (hk : k < Nf) (hlink : Cond.fieldLink own index (T k).1 (T k).2.1 (T k).2.2.1 ∈ Ub) (hfin : (T k).2.2.2 = true) (hdecl : (T k).1 = own) (hn : narrow (ty0 k) v = v) (hfit : fits (ty0 k) v = true) (hl : k < fs.length) (hdg : decode cc pc = .ok (.putfield index, 3))
    (kk : ∀ (H1 : Heap) (locs1 : List Loc), Iw Γ A (ws.set q0 (a, .inr (ci, fs.set k v))) s.heap H1 locs1 → W p l e R s m args below meth c H1 locs1 cells slots Q (F0 m (pc + 3) ls rest)) : W p l e R s m args below meth c H locs cells slots Q (F0 m pc ls (v :: .ref a :: rest)) := by
  obtain ⟨⟨hx, hb, hml, hown, hts⟩, hY⟩ := C
  obtain ⟨⟨hP, hD, hS⟩, hA⟩ := hI
  exact va_putF (D := Γ.1) (ci := ci) (v := v) (ty := ty0 k) (C := Cn) (T := T) (N := Nf) hx hb hts hin ty0 hty hnm hown hY.1.1 hP hD hS q0 he hc k hk (hts _ hlink) (fun _ h => h) hfin hi hdecl (hty k hk) hn hfit hl hdg (fun H1 locs1 hP1 hD1 hS1 => kk H1 locs1 ⟨⟨hP1, hD1, hS1⟩, hA⟩)
theorem i_get {Cn : String} {T : u_T} {Nf ci index a : Nat} {fs : List Value} {v : Value} (hin : ∀ w ∈ u_ws Cn T Nf, w ∈ Ub) (hc : vwCl[ci]? = some (Cn, T, Nf)) (C : Ix Γ p s m args c own cc nL) (hI : Iw Γ A ws s.heap H locs) (q0 k : Nat) (he : ws[q0]? = some (a, .inr (ci, fs))) (hk : k < Nf) (hlink : Cond.fieldLink own index (T k).1 (T k).2.1 (T k).2.2.1 ∈ Ub) (hv : fs[k]? = some v) (hdg : decode cc pc = .ok (.getfield index, 3))
    (kk : W p l e R s m args below meth c H locs cells slots Q (F0 m (pc + 3) ls (v :: rest))) : W p l e R s m args below meth c H locs cells slots Q (F0 m pc ls (.ref a :: rest)) := by
  obtain ⟨⟨hx, hb, hml, hown, hts⟩, hY⟩ := C
  exact va_get (D := Γ.1) (ci := ci) (v := v) (C := Cn) (T := T) (N := Nf) hx hb hts hin hown hY.1.1 hI.1.1 q0 he hc k hk (hts _ hlink) (fun _ h => h) hv hdg kk
theorem i_ast {a t0 qk ci n v : Nat} {r : vw_C} {vs : List Value} {f : Nat → Option Nat} {i : Int32} (C : Ix Γ p s m args c own cc nL) (hI : Iw Γ A ws s.heap H locs) (q0 : Nat) (ha : ws[q0]? = some (a, .inl (Γ.2.1 t0, n, .inr (.inr (.inr (.inr f)))))) (ht : (gty Γ)[t0]? = some (Γ.2.1 t0, .object r.1)) (hv : ws[qk]? = some (v, .inr (ci, vs))) (hc : vwCl[ci]? = some r) (hin : vp_in i n) (hdg : decode cc pc = .ok (.aastore, 1))
    (kk : ∀ (H1 : Heap) (locs1 : List Loc), Iw Γ A (ws.set q0 (a, .inl (Γ.2.1 t0, n, .inr (.inr (.inr (.inr (va_up f i.toNatClampNeg (some v)))))))) s.heap H1 locs1 → W p l e R s m args below meth c H1 locs1 cells slots Q (F0 m (pc + 1) ls rest)) : W p l e R s m args below meth c H locs cells slots Q (F0 m pc ls (.ref v :: .int i :: .ref a :: rest)) := by
  obtain ⟨⟨hx, hb, hml, hown, hts⟩, hY⟩ := C
  obtain ⟨⟨hP, hD, hS⟩, hA⟩ := hI
  exact va_astq hx hb hY.1.1 hP hD hS q0 t0 qk ci ha ht hv hc hin hdg (fun H1 locs1 hP1 hD1 hS1 => kk H1 locs1 ⟨⟨hP1, hD1, hS1⟩, hA⟩)
theorem i_obj {index a : Nat} (C : Ix Γ p s m args c own cc nL) (hls : ls.size = nL) (k1 : Cond.methodLink own index (⟨"java/lang/Object", "<init>", "()V"⟩ : MethodName) ∈ Ub) (hR : 1 ≤ R.frames ∧ 12 ≤ R.locals) (hdg : decode cc pc = .ok (.invokespecial index, 3))
    (kk : W p l e R s m args below meth c H locs cells slots Q (F0 m (pc + 3) ls [])) : W p l e R s m args below meth c H locs cells slots Q (F0 m pc ls [.ref a]) := by
  obtain ⟨⟨hx, hb, hml, hown, hts⟩, hY⟩ := C
  refine W.objInit hx hb hown (hts _ k1) (hts _ k1_22) (hts _ k1_23) rfl (by rw [hml]; exact hls) rfl hdg hR.1 hR.2 ?_
  exact W.eq (g2 := F0 m (pc + 3) ls []) rfl kk
theorem i_end {σ : Type} {h0 ci mc ms : Nat} {fs : List Value} {px : σ → Prop} {w1 : σ → va_W} (C : Ix Γ p s m args c own cc nL) (hr : meth.sig.returnType = none) (hlk : meth.locks = false) (u : σ) (hpx : px u) (hI : Iw Γ (iA h0 ci fs s.heap.size) (w1 u) s.heap H locs) (hdg : decode cc pc = .ok (.return_, 1)) : W p l e R s m args below meth c H locs mc ms (MQ below (iQ Γ h0 ci fs s.heap.size px w1) args s mc ms (iA h0 ci fs s.heap.size)) (F0 m pc ls []) := by
  obtain ⟨⟨hx, hb, hml, hown, hts⟩, hY⟩ := C
  obtain ⟨⟨hP, hD, hS⟩, hA⟩ := hI
  exact W.vret hx hb hr (fun t ht hW => ⟨⟨u, rfl, hpx, by rw [ht]; exact hP, hD⟩, hS.F ht⟩) hS.2.2 hdg hlk
theorem i_swap {H0 : Heap} {k x n : Nat} {cA : ClassId} {f g : Nat → Option Nat} (hI : Iw Γ A ws H0 H locs) (he : ws[k]? = some (x, .inl (cA, n, .inr (.inr (.inr (.inr f)))))) (h : ∀ i, i < n → f i = g i) : Iw Γ A (ws.set k (x, .inl (cA, n, .inr (.inr (.inr (.inr g)))))) H0 H locs := by
  obtain ⟨⟨hP, hD, hS⟩, hA⟩ := hI
  refine ⟨⟨hP.set hD he ?_ (fun _ _ => rfl), hD.set he, hS⟩, hA⟩
  have h1 : H[x]? = some (vp_cell cA (n, .inr (.inr (.inr (.inr f))))) := hP k _ he
  show H[x]? = some (vp_cell cA (n, .inr (.inr (.inr (.inr g)))))
  rw [h1, vp_cell_q, vp_cell_q]
  unfold arrV
  have e : (fun j : Fin n => va_rf (f j.val)) = (fun j : Fin n => va_rf (g j.val)) := by
    funext j
    rw [h j.val j.isLt]
  rw [e]
end In
