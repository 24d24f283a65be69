/-! ===== the ground of a world: numbers of the tables, array classes, where each place lies; a world is a list of places, in order ===== -/
abbrev gG : Type := va_G × (Nat → ClassId) × (Nat → Nat)
abbrev gty (Γ : gG) : List (ClassId × FieldType) := [(Γ.2.1 0, .int), (Γ.2.1 1, .object "LaneAtBorder$Queue"), (Γ.2.1 2, .object "LaneAtBorder$Shelf"), (Γ.2.1 3, .long), (Γ.2.1 4, .boolean)]
def wl (Γ : gG) (N : Nat) (E : Nat → va_E) : va_W := (List.range N).map (fun p => (Γ.2.2 p, E p))
theorem wl_at {Γ : gG} {N p : Nat} {E : Nat → va_E} (h : p < N) : (wl Γ N E)[p]? = some (Γ.2.2 p, E p) := by simp [wl, h]
theorem wl_as {Γ : gG} {N p : Nat} {E : Nat → va_E} {v : va_E} (h : p < N) (e : E p = v) : (wl Γ N E)[p]? = some (Γ.2.2 p, v) := by rw [wl_at h, e]
theorem wl_len {Γ : gG} {N : Nat} {E : Nat → va_E} : (wl Γ N E).length = N := by simp [wl]
theorem wl_set {Γ : gG} {N p : Nat} {E E' : Nat → va_E} {v : va_E} (h : p < N) (hv : E' p = v) (ho : ∀ q, q < N → q ≠ p → E' q = E q) : (wl Γ N E).set p (Γ.2.2 p, v) = wl Γ N E' := by
  apply List.ext_getElem?
  intro i
  by_cases hi : i < N
  · rw [wl_at hi, List.getElem?_set]
    by_cases hp : p = i
    · subst hp
      rw [if_pos rfl, if_pos (by rw [wl_len]; exact h), hv]
    · rw [if_neg hp, wl_at hi, ho i hi (fun e => hp e.symm)]
  · rw [List.getElem?_eq_none (by simp [wl]; omega), List.getElem?_eq_none (by simp [wl]; omega)]
def wA (Γ : gG) (N : Nat) : Nat → Prop := fun q => ∃ p, p < N ∧ q = Γ.2.2 p
def wI (Γ : gG) (N : Nat) : Prop := ∀ i j, i < N → j < N → Γ.2.2 i = Γ.2.2 j → i = j
theorem wl_get {Γ : gG} {N k : Nat} {E : Nat → va_E} {q : Nat × va_E} (h : (wl Γ N E)[k]? = some q) : k < N ∧ q = (Γ.2.2 k, E k) := by
  have hk : k < N := by
    have := (List.getElem?_eq_some_iff.mp h).1
    rwa [wl_len] at this
  rw [wl_at hk] at h
  exact ⟨hk, (Option.some.inj h).symm⟩
theorem wl_D {Γ : gG} {N : Nat} {E : Nat → va_E} (h : wI Γ N) : va_D (wA Γ N) (wl Γ N E) := by
  refine ⟨fun i j a b hi hj hab => ?_, fun k q hk => ?_⟩
  · obtain ⟨h1, rfl⟩ := wl_get hi
    obtain ⟨h2, rfl⟩ := wl_get hj
    exact h i j h1 h2 hab
  · obtain ⟨h1, rfl⟩ := wl_get hk
    exact ⟨k, h1, rfl⟩
/-- what the state's tables say, in every state of a run -/
def wX (Γ : gG) (U : State) : Prop := va_K Γ.1 vwCl (gty Γ) U ∧ va_Nw (.methodLinkNest RX0 66 yX5_isSort "LaneAtBorder") U
theorem wX.warm {Γ : gG} {s U : State} (hW : s.WarmedH U.vm) (h : wX Γ s) : wX Γ U := ⟨va_K.moved hW.alike h.1, va_Nw.warmM hW h.2⟩
theorem wX.same {Γ : gG} {s U : State} (hv : s.vm = U.vm) (h : wX Γ s) : wX Γ U := ⟨va_K.moved (hv ▸ Vm.Alike.refl s.vm) h.1, va_Nw.same rfl hv h.2⟩
/-- a method's start in a world; its ends -/
def gPc (Γ : gG) (N : Nat) (E : Nat → va_E) (av : List Value) : Array Value → State → Prop := va_Pc av (fun U => va_P Γ.1 vwCl (wl Γ N E) U.heap ∧ wX Γ U ∧ wI Γ N)
def gQi (Γ : gG) (N : Nat) (r : Int32) (E : Nat → va_E) : Array Value → State → Outcome → State → Prop := va_Qi (fun r' (_ : Unit) => r' = r) (fun _ t => va_P Γ.1 vwCl (wl Γ N E) t.heap) (wA Γ N)
def gQl (Γ : gG) (N : Nat) (r : Int64) (E : Nat → va_E) : Array Value → State → Outcome → State → Prop := va_Ql (fun r' (_ : Unit) => r' = r) (fun _ t => va_P Γ.1 vwCl (wl Γ N E) t.heap) (wA Γ N)
def gQv (Γ : gG) (N : Nat) (E : Nat → va_E) : Array Value → State → Outcome → State → Prop := va_Qv (fun (_ : Unit) => True) (fun _ t => va_P Γ.1 vwCl (wl Γ N E) t.heap) (wA Γ N)
abbrev gW (y : MethodName) (cc : ByteArray) (nL : Nat) (ret : Option FieldType) : List Cond := Cond.code y cc nL ret :: Ub
/-- THE CONTRACTS: a method in a world of N places, from E to E' -/
def CtI (l : Launch) (Γ : gG) (N : Nat) (y : MethodName) (cc : ByteArray) (nL : Nat) (rt : FieldType) (fr lo : Nat) (av : List Value) (E : Nat → va_E) (r : Int32) (E' : Nat → va_E) : Prop :=
  Met l y (gW y cc nL (some rt)) { frames := fr, cells := 0, slots := 0, locals := lo } (gPc Γ N E av) (gQi Γ N r E') 0 0 (wA Γ N)
def CtL (l : Launch) (Γ : gG) (N : Nat) (y : MethodName) (cc : ByteArray) (nL : Nat) (fr lo : Nat) (av : List Value) (E : Nat → va_E) (r : Int64) (E' : Nat → va_E) : Prop :=
  Met l y (gW y cc nL (some .long)) { frames := fr, cells := 0, slots := 0, locals := lo } (gPc Γ N E av) (gQl Γ N r E') 0 0 (wA Γ N)
def CtV (l : Launch) (Γ : gG) (N : Nat) (y : MethodName) (cc : ByteArray) (nL : Nat) (fr lo : Nat) (av : List Value) (E : Nat → va_E) (E' : Nat → va_E) : Prop :=
  Met l y (gW y cc nL none) { frames := fr, cells := 0, slots := 0, locals := lo } (gPc Γ N E av) (gQv Γ N E') 0 0 (wA Γ N)
theorem gPc_blind {Γ : gG} {N : Nat} {E : Nat → va_E} {av : List Value} : FrameBlind (gPc Γ N E av) := fun _ _ _ _ q => ⟨q.1, q.2.1, q.2.2.1.same rfl, q.2.2.2⟩
/-- what a method's body stands on -/
def Cx (Γ : gG) (N : Nat) (p : Program) (s : State) (m : MethodId) (args : Array Value) (meth : Method) (c : Code) (own : String) (cc : ByteArray) (nL : Nat) (ret : Option FieldType) : Prop :=
  p.tables.exec = Jvm.exec ∧ c.code = cc ∧ meth.sig.returnType = ret ∧ c.maxLocals = nL ∧ s.vm.findClass own = some m.cls ∧ (∀ w ∈ Ub, w.before args s = true) ∧ meth.locks = false ∧ wX Γ s ∧ wI Γ N
/-- the heap now: it holds the world E; outside the world nothing has changed -/
def St (Γ : gG) (N : Nat) (E : Nat → va_E) (H0 H : Heap) (locs : List Loc) : Prop := va_P Γ.1 vwCl (wl Γ N E) H ∧ va_S (wA Γ N) H0 H locs
theorem met_body {l : Launch} {Γ : gG} {N : Nat} {y : MethodName} {cc : ByteArray} {nL : Nat} {ret : Option FieldType} {fr lo : Nat} {av : List Value} {E : Nat → va_E} {Qc : Array Value → State → Outcome → State → Prop} {lv : List (Nat × Value)} (own : String) (hy : plainName y.cls = true) (ho : y.cls = own) (hs : Nat.ble (lg_sl av).length nL = true) (hv : lv_args 0 av = lv)
    (body : ∀ (p : Program) (e : Env) (s : State) (m : MethodId) (below : List Frame) (meth : Method) (c : Code) (H : Heap) (locs : List Loc) (ls : Array Slot), Cx Γ N p s m av.toArray meth c own cc nL ret → St Γ N E s.heap H locs → lv_has ls nL lv →
      W p l e { frames := fr, cells := 0, slots := 0, locals := lo } s m av.toArray below meth c H locs 0 0 (MQ below Qc av.toArray s 0 0 (wA Γ N)) (F0 m 0 ls [])) :
    Met l y (gW y cc nL ret) { frames := fr, cells := 0, slots := 0, locals := lo } (gPc Γ N E av) Qc 0 0 (wA Γ N) := by
  refine Met.ofW (cc := cc) (maxL := nL) (ret := ret) hy rfl ?_
  intro p e s m args below meth c s₁ B hml hv'
  obtain ⟨rfl, hP, hX, hI⟩ := hv'
  have hts := atoms_spec (ws := gW y cc nL ret) B.pre
  have hown : s.vm.findClass y.cls = some m.cls := findClass_of_methodNamed B.named
  have hl := lv_entry av (n := nL) (Nat.le_of_ble_eq_true hs)
  rw [lg_entry_eq]
  rw [hv] at hl
  rw [ho] at hown
  exact body p e s m below meth c s.heap [] _ ⟨B.exec, B.bytes, B.returns, hml, hown, fun w h => hts w (List.mem_cons_of_mem _ h), B.notSynchronized, hX, hI⟩ ⟨hP, va_S.rf⟩ hl
section Gr
variable {p : Program} {l : Launch} {e : Env} {R : Room} {s : State} {m : MethodId} {args : Array Value} {below : List Frame} {meth : Method} {c : Code} {H : Heap} {locs : List Loc} {cells slots : Nat} {Q : State → Prop}
variable {Γ : gG} {N : Nat} {E : Nat → va_E} {own : String} {cc : ByteArray} {nL : Nat} {ret : Option FieldType} {pc : Nat} {ls : Array Slot} {rest : List Value}
theorem r_get {Cn : String} {T : u_T} {Nf ci q index : Nat} {ref : String} {fs : List Value} {v : Value} (hin : ∀ w ∈ u_ws Cn T Nf, w ∈ Ub) (hc : vwCl[ci]? = some (Cn, T, Nf)) (C : Cx Γ N p s m args meth c own cc nL ret) (hP : St Γ N E s.heap H locs) (hq : q < N) (he : E q = .inr (ci, fs)) (k : Nat) (hk : k < Nf) (hlink : Cond.fieldLink own index ref (T k).2.1 (T k).2.2.1 ∈ Ub) (hr : (T k).1 = ref) (hv : fs[k]? = some v) (hdg : decode cc pc = .ok (.getfield index, 3))
    (kk : W p l e R s m args below meth c H locs cells slots Q (F0 m (pc + 3) ls (v :: rest))) : W p l e R s m args below meth c H locs cells slots Q (F0 m pc ls (.ref (Γ.2.2 q) :: rest)) := by
  obtain ⟨hx, hb, -, -, hown, hts, -, hX, -⟩ := C
  subst hr
  exact va_get (D := Γ.1) (ci := ci) (v := v) (C := Cn) (T := T) (N := Nf) hx hb hts hin hown hX.1 hP.1 q (wl_as hq he) hc k hk (hts _ hlink) (fun _ h => h) hv hdg kk
theorem r_put {Cn : String} {T : u_T} {ty0 : Nat → FieldType} {Nf ci q index : Nat} {ref : String} {fs fs' : List Value} {v : Value} {E' : Nat → va_E} (hin : ∀ w ∈ u_ws Cn T Nf, w ∈ Ub) (hc : vwCl[ci]? = some (Cn, T, Nf)) (hty : ∀ k, k < Nf → parseFieldDescriptor (T k).2.2.1 = some (ty0 k)) (hnm : ∀ a, a < Nf → ∀ b, b < Nf → a ≠ b → (T a).2.1 ≠ (T b).2.1) (C : Cx Γ N p s m args meth c own cc nL ret) (hP : St Γ N E s.heap H locs) (hq : q < N) (he : E q = .inr (ci, fs)) (k : Nat) (hk : k < Nf) (hlink : Cond.fieldLink own index ref (T k).2.1 (T k).2.2.1 ∈ Ub) (hr : (T k).1 = ref) (hfin : (T k).2.2.2 = false) (hn : narrow (ty0 k) v = v) (hfit : fits (ty0 k) v = true) (hfs : fs.set k v = fs') (hlen : k < fs.length) (he' : E' q = .inr (ci, fs')) (ho : ∀ q', q' < N → q' ≠ q → E' q' = E q') (hdg : decode cc pc = .ok (.putfield index, 3))
    (kk : ∀ (H1 : Heap) (locs1 : List Loc), St Γ N E' s.heap H1 locs1 → W p l e R s m args below meth c H1 locs1 cells slots Q (F0 m (pc + 3) ls rest)) : W p l e R s m args below meth c H locs cells slots Q (F0 m pc ls (v :: .ref (Γ.2.2 q) :: rest)) := by
  obtain ⟨hx, hb, -, -, hown, hts, -, hX, hI⟩ := C
  subst hr
  refine va_put (D := Γ.1) (ci := ci) (v := v) (ty := ty0 k) (C := Cn) (T := T) (N := Nf) hx hb hts hin ty0 hty hnm hown hX.1 hP.1 (wl_D hI) hP.2 q (wl_as hq he) hc k hk (hts _ hlink) (fun _ h => h) hfin (hty k hk) hn hfit hlen hdg (fun H1 locs1 hP1 hD1 hS1 => kk H1 locs1 ⟨?_, hS1⟩)
  rw [hfs, wl_set hq he' ho] at hP1
  exact hP1
theorem r_ild {q n : Nat} {f : Nat → Int32} {i : Int32} (C : Cx Γ N p s m args meth c own cc nL ret) (hP : St Γ N E s.heap H locs) (hq : q < N) (he : E q = .inl (Γ.2.1 0, n, .inl f)) (hin : vp_in i n) (hdg : decode cc pc = .ok (.iaload, 1))
    (kk : W p l e R s m args below meth c H locs cells slots Q (F0 m (pc + 1) ls (.int (f i.toNatClampNeg) :: rest))) : W p l e R s m args below meth c H locs cells slots Q (F0 m pc ls (.int i :: .ref (Γ.2.2 q) :: rest)) := by
  obtain ⟨hx, hb, -, -, hown, hts, -, hX, -⟩ := C
  exact va_iald hx hb hX.1 hP.1 q 0 (wl_as hq he) rfl hin hdg kk
theorem r_ist {q n : Nat} {f : Nat → Int32} {i x : Int32} {E' : Nat → va_E} (C : Cx Γ N p s m args meth c own cc nL ret) (hP : St Γ N E s.heap H locs) (hq : q < N) (he : E q = .inl (Γ.2.1 0, n, .inl f)) (hin : vp_in i n) (he' : E' q = .inl (Γ.2.1 0, n, .inl (upd f i.toNatClampNeg x))) (ho : ∀ q', q' < N → q' ≠ q → E' q' = E q') (hdg : decode cc pc = .ok (.iastore, 1))
    (kk : ∀ (H1 : Heap) (locs1 : List Loc), St Γ N E' s.heap H1 locs1 → W p l e R s m args below meth c H1 locs1 cells slots Q (F0 m (pc + 1) ls rest)) : W p l e R s m args below meth c H locs cells slots Q (F0 m pc ls (.int x :: .int i :: .ref (Γ.2.2 q) :: rest)) := by
  obtain ⟨hx, hb, -, -, hown, hts, -, hX, hI⟩ := C
  refine va_iast hx hb hX.1 hP.1 (wl_D hI) hP.2 q 0 (wl_as hq he) rfl hin hdg (fun H1 locs1 hP1 hD1 hS1 => kk H1 locs1 ⟨?_, hS1⟩)
  rw [wl_set hq he' ho] at hP1
  exact hP1
theorem r_lld {q n : Nat} {f : Nat → Int64} {i : Int32} (C : Cx Γ N p s m args meth c own cc nL ret) (hP : St Γ N E s.heap H locs) (hq : q < N) (he : E q = .inl (Γ.2.1 3, n, .inr (.inl f))) (hin : vp_in i n) (hdg : decode cc pc = .ok (.laload, 1))
    (kk : W p l e R s m args below meth c H locs cells slots Q (F0 m (pc + 1) ls (.long (f i.toNatClampNeg) :: rest))) : W p l e R s m args below meth c H locs cells slots Q (F0 m pc ls (.int i :: .ref (Γ.2.2 q) :: rest)) := by
  obtain ⟨hx, hb, -, -, hown, hts, -, hX, -⟩ := C
  exact va_lald hx hb hX.1 hP.1 q 3 (wl_as hq he) rfl hin hdg kk
theorem r_lst {q n : Nat} {f : Nat → Int64} {i : Int32} {x : Int64} {E' : Nat → va_E} (C : Cx Γ N p s m args meth c own cc nL ret) (hP : St Γ N E s.heap H locs) (hq : q < N) (he : E q = .inl (Γ.2.1 3, n, .inr (.inl f))) (hin : vp_in i n) (he' : E' q = .inl (Γ.2.1 3, n, .inr (.inl (vp_updL f i.toNatClampNeg x)))) (ho : ∀ q', q' < N → q' ≠ q → E' q' = E q') (hdg : decode cc pc = .ok (.lastore, 1))
    (kk : ∀ (H1 : Heap) (locs1 : List Loc), St Γ N E' s.heap H1 locs1 → W p l e R s m args below meth c H1 locs1 cells slots Q (F0 m (pc + 1) ls rest)) : W p l e R s m args below meth c H locs cells slots Q (F0 m pc ls (.long x :: .int i :: .ref (Γ.2.2 q) :: rest)) := by
  obtain ⟨hx, hb, -, -, hown, hts, -, hX, hI⟩ := C
  refine va_last hx hb hX.1 hP.1 (wl_D hI) hP.2 q 3 (wl_as hq he) rfl hin hdg (fun H1 locs1 hP1 hD1 hS1 => kk H1 locs1 ⟨?_, hS1⟩)
  rw [wl_set hq he' ho] at hP1
  exact hP1
theorem r_ald {q n t : Nat} {Cn : String} {f : Nat → Option Nat} {i : Int32} {b : Nat} (C : Cx Γ N p s m args meth c own cc nL ret) (hP : St Γ N E s.heap H locs) (hq : q < N) (ht : (gty Γ)[t]? = some (Γ.2.1 t, .object Cn)) (he : E q = .inl (Γ.2.1 t, n, .inr (.inr (.inr (.inr f))))) (hin : vp_in i n) (hb1 : f i.toNatClampNeg = some b) (hdg : decode cc pc = .ok (.aaload, 1))
    (kk : W p l e R s m args below meth c H locs cells slots Q (F0 m (pc + 1) ls (.ref b :: rest))) : W p l e R s m args below meth c H locs cells slots Q (F0 m pc ls (.int i :: .ref (Γ.2.2 q) :: rest)) := by
  obtain ⟨hx, hb, -, -, hown, hts, -, hX, -⟩ := C
  refine va_aldq hx hb hX.1 hP.1 q t (wl_as hq he) ht hin hdg ?_
  rw [hb1]
  exact kk
theorem r_copy {q0 q1 n0 n1 index : Nat} {f g : Nat → Int32} {sp dp n : Int32} {E' : Nat → va_E} (C : Cx Γ N p s m args meth c own cc nL ret) (hP : St Γ N E s.heap H locs) (hls : ls.size = nL) (hlink : Cond.methodLink own index arraycopyName ∈ Ub) (hnat : Cond.native arraycopyName ∈ Ub) (hstat : Cond.static arraycopyName ∈ Ub) (hini : Cond.initialized "java/lang/System" ∈ Ub) (hq0 : q0 < N) (he0 : E q0 = .inl (Γ.2.1 0, n0, .inl f)) (hq1 : q1 < N) (he1 : E q1 = .inl (Γ.2.1 0, n1, .inl g)) (h1 : ¬ sp < 0) (h2 : ¬ dp < 0) (h3 : ¬ n < 0) (h4 : sp.toNatClampNeg + n.toNatClampNeg ≤ n0) (h5 : dp.toNatClampNeg + n.toNatClampNeg ≤ n1) (he' : E' q1 = .inl (Γ.2.1 0, n1, .inl (va_cpy f g sp.toNatClampNeg dp.toNatClampNeg n.toNatClampNeg))) (ho : ∀ q', q' < N → q' ≠ q1 → E' q' = E q') (hfr : 1 ≤ R.frames) (hlo : (rest.map fun v => v.category).sum + (nativeFrameWords "java/lang/System" "arraycopy" 5 + 11) ≤ R.locals) (hdg : decode cc pc = .ok (.invokestatic index, 3))
    (kk : ∀ (H1 : Heap) (locs1 : List Loc), St Γ N E' s.heap H1 locs1 → W p l e R s m args below meth c H1 locs1 cells slots Q (F0 m (pc + 3) ls rest)) : W p l e R s m args below meth c H locs cells slots Q (F0 m pc ls (.int n :: .int dp :: .ref (Γ.2.2 q1) :: .int sp :: .ref (Γ.2.2 q0) :: rest)) := by
  obtain ⟨hx, hb, -, hml, hown, hts, -, hX, hI⟩ := C
  refine va_copyi hx hb (hml.trans hls.symm) hown (hts _ hlink) (hts _ hnat) (hts _ hstat) (hts _ hini) hX.1 hP.1 (wl_D hI) hP.2 q0 q1 0 0 (ty := .int) (wl_as hq0 he0) (wl_as hq1 he1) rfl rfl rfl h1 h2 h3 h4 h5 (fun _ _ => rfl) hfr hlo hdg (fun H1 locs1 hP1 hD1 hS1 => kk H1 locs1 ⟨?_, hS1⟩)
  rw [wl_set hq1 he' ho] at hP1
  exact hP1
theorem r_iret {σ : Type} {X : σ → Nat → va_E} {v r : Int32} {S S' : σ} (C : Cx Γ N p s m args meth c own cc nL (some .int)) (hP : St Γ N (X S) s.heap H locs) (hf : some (v, S) = some (r, S')) (hdg : decode cc pc = .ok (.ireturn, 1)) : W p l e R s m args below meth c H locs 0 0 (MQ below (gQi Γ N r (X S')) args s 0 0 (wA Γ N)) (F0 m pc ls [.int v]) := by
  cases hf
  obtain ⟨hx, hb, hr, -, -, -, hlk, -, -⟩ := C
  exact W.iret hx hb hr (fun t ht hW => ⟨⟨v, (), rfl, rfl, show va_P Γ.1 vwCl (wl Γ N (X S)) t.heap by rw [ht]; exact hP.1⟩, hP.2.F ht⟩) hP.2.2.2 hdg hlk
theorem r_zret {σ : Type} {X : σ → Nat → va_E} {v r : Int32} {S S' : σ} (C : Cx Γ N p s m args meth c own cc nL (some .boolean)) (hP : St Γ N (X S) s.heap H locs) (h01 : v = 0 ∨ v = 1) (hf : some (v, S) = some (r, S')) (hdg : decode cc pc = .ok (.ireturn, 1)) : W p l e R s m args below meth c H locs 0 0 (MQ below (gQi Γ N r (X S')) args s 0 0 (wA Γ N)) (F0 m pc ls [.int v]) := by
  cases hf
  obtain ⟨hx, hb, hr, -, -, -, hlk, -, -⟩ := C
  exact W.zret hx hb hr (by rcases h01 with rfl | rfl <;> rfl) (fun t ht hW => ⟨⟨v, (), rfl, rfl, show va_P Γ.1 vwCl (wl Γ N (X S)) t.heap by rw [ht]; exact hP.1⟩, hP.2.F ht⟩) hP.2.2.2 hdg hlk
theorem r_lret {σ : Type} {X : σ → Nat → va_E} {v r : Int64} {S S' : σ} (C : Cx Γ N p s m args meth c own cc nL (some .long)) (hP : St Γ N (X S) s.heap H locs) (hf : some (v, S) = some (r, S')) (hdg : decode cc pc = .ok (.lreturn, 1)) : W p l e R s m args below meth c H locs 0 0 (MQ below (gQl Γ N r (X S')) args s 0 0 (wA Γ N)) (F0 m pc ls [.long v]) := by
  cases hf
  obtain ⟨hx, hb, hr, -, -, -, hlk, -, -⟩ := C
  exact W.lret hx hb hr (fun t ht hW => ⟨⟨v, (), rfl, rfl, show va_P Γ.1 vwCl (wl Γ N (X S)) t.heap by rw [ht]; exact hP.1⟩, hP.2.F ht⟩) hP.2.2.2 hdg hlk
theorem r_vret {σ : Type} {X : σ → Nat → va_E} {S S' : σ} (C : Cx Γ N p s m args meth c own cc nL none) (hP : St Γ N (X S) s.heap H locs) (hf : some S = some S') (hdg : decode cc pc = .ok (.return_, 1)) : W p l e R s m args below meth c H locs 0 0 (MQ below (gQv Γ N (X S')) args s 0 0 (wA Γ N)) (F0 m pc ls []) := by
  cases hf
  obtain ⟨hx, hb, hr, -, -, -, hlk, -, -⟩ := C
  exact W.vret hx hb hr (fun t ht hW => ⟨⟨(), rfl, trivial, show va_P Γ.1 vwCl (wl Γ N (X S)) t.heap by rw [ht]; exact hP.1⟩, hP.2.F ht⟩) hP.2.2.2 hdg hlk
theorem gU {ws : List Cond} {w0 : Cond} (hc : w0 ∈ Ub) (h : ∀ w ∈ ws, w ∈ Ub) : GoodIn Ub (ws ++ (w0 :: Ub)) := fun w hw => Ub_good w ((List.mem_append.mp hw).elim (h w) (fun h => (List.mem_cons.mp h).elim (fun e => e ▸ hc) id))
/-- calls of methods by their contracts -/
theorem runV {y : MethodName} {bc : ByteArray} {mL fr lo index n : Nat} {rt : Option FieldType} {av : List Value} {Qc : Array Value → State → Outcome → State → Prop} {Cn : String} {b ci : Nat} {fs : List Value} {T : u_T} {Nf : Nat} (hM : Met l y (gW y bc mL rt) { frames := fr, cells := 0, slots := 0, locals := lo } (gPc Γ N E (.ref (Γ.2.2 b) :: av)) Qc 0 0 (wA Γ N)) (C : Cx Γ N p s m args meth c own cc nL ret) (hP : St Γ N E s.heap H locs) (hls : ls.size = nL) (hb1 : b < N) (he : E b = .inr (ci, fs)) (hc : vwCl[ci]? = some (Cn, T, Nf)) (k1 : Cond.methodLink own index y ∈ Ub) (k2 : Cond.instanceMethod y ∈ Ub) (k3 : Cond.selects Cn y y ∈ Ub) (k4 : Cond.initialized Cn ∈ Ub) (k5 : Cond.code y bc mL rt ∈ Ub) (hn : av.length = n) (hd : y.cls = Cn ∧ y.cls ≠ "java/lang/invoke/MethodHandle" ∧ y.cls ≠ "java/lang/invoke/VarHandle" ∧ (parseMethodDescriptor y.desc).map (fun d => d.parameters.length) = some n) (hR : fr + 1 ≤ R.frames ∧ 8 + (mL + 11) + lo ≤ R.locals) (hcs : cells ≤ R.cells ∧ slots ≤ R.slots) (hst : (rest.map fun v => v.category).sum ≤ 8) (hdg : decode cc pc = .ok (.invokevirtual index, 3)) :
    va_Run p l e R s m args below meth c H locs cells slots 0 0 (F0 m pc ls (av.reverse ++ .ref (Γ.2.2 b) :: rest)) rest (Qc (Value.ref (Γ.2.2 b) :: av).toArray) (wA Γ N) := by
  obtain ⟨hx, hb, -, hml, hown, hts, -, hX, hI⟩ := C
  have g : GoodIn Ub (wsV own index Cn y (gW y bc mL rt)) := gU (ws := [.methodLink own index y, .instanceMethod y, .selects Cn y y, .initialized Cn]) k5 (by intro w hw; simp only [List.mem_cons, List.not_mem_nil, or_false] at hw; rcases hw with rfl | rfl | rfl | rfl <;> assumption)
  exact va_runV (nL := nL) (Ts := Ub) (own := own) ⟨hx, hb, hml, hown, hts⟩ hM (cwV n hts g rfl rfl rfl hd hR) ⟨gPc_blind, va_recv hX.1 hP.1 hc (wl_as hb1 he), fun U hU hW => ⟨rfl, by rw [hU]; exact hP.1, hX.warm hW, hI⟩⟩ rfl hn hls rfl (lv_room hst) hdg hcs
theorem runS {y : MethodName} {bc : ByteArray} {mL fr lo index n : Nat} {rt : Option FieldType} {av : List Value} {Qc : Array Value → State → Outcome → State → Prop} {Cn : String} (hM : Met l y (gW y bc mL rt) { frames := fr, cells := 0, slots := 0, locals := lo } (gPc Γ N E av) Qc 0 0 (wA Γ N)) (C : Cx Γ N p s m args meth c own cc nL ret) (hP : St Γ N E s.heap H locs) (hls : ls.size = nL) (k1 : Cond.methodLink own index y ∈ Ub) (k2 : Cond.static y ∈ Ub) (k4 : Cond.initialized Cn ∈ Ub) (k5 : Cond.code y bc mL rt ∈ Ub) (hn : av.length = n) (hd : y.cls = Cn ∧ y.cls ≠ "java/lang/invoke/MethodHandle" ∧ y.cls ≠ "java/lang/invoke/VarHandle" ∧ (parseMethodDescriptor y.desc).map (fun d => d.parameters.length) = some n) (hR : fr + 1 ≤ R.frames ∧ 8 + (mL + 11) + lo ≤ R.locals) (hcs : cells ≤ R.cells ∧ slots ≤ R.slots) (hst : (rest.map fun v => v.category).sum ≤ 8) (hdg : decode cc pc = .ok (.invokestatic index, 3)) :
    va_Run p l e R s m args below meth c H locs cells slots 0 0 (F0 m pc ls (av.reverse ++ rest)) rest (Qc av.toArray) (wA Γ N) := by
  obtain ⟨hx, hb, -, hml, hown, hts, -, hX, hI⟩ := C
  obtain ⟨hC, hd⟩ := hd
  subst hC
  have g : GoodIn Ub (gW y bc mL rt) := gU (ws := []) k5 (by intro w hw; simp at hw)
  exact va_runS (nL := nL) (Ts := Ub) (own := own) ⟨hx, hb, hml, hown, hts⟩ hM ⟨callB_of n hts g rfl rfl rfl (hts _ k4) (hts _ k1) hd hR, hts _ k2⟩ ⟨gPc_blind, fun U hU hW => ⟨rfl, by rw [hU]; exact hP.1, hX.warm hW, hI⟩⟩ rfl hn hls rfl (lv_room hst) hdg hcs
theorem runSN {y : MethodName} {bc : ByteArray} {mL fr lo index n : Nat} {rt : Option FieldType} {av : List Value} {Qc : Array Value → State → Outcome → State → Prop} {Cn host : String} (hM : Met l y (gW y bc mL rt) { frames := fr, cells := 0, slots := 0, locals := lo } (gPc Γ N E av) Qc 0 0 (wA Γ N)) (C : Cx Γ N p s m args meth c own cc nL ret) (hP : St Γ N E s.heap H locs) (hls : ls.size = nL) (k1 : va_Nw (.methodLinkNest own index y host) s) (k2 : Cond.static y ∈ Ub) (k4 : Cond.initialized Cn ∈ Ub) (k5 : Cond.code y bc mL rt ∈ Ub) (hn : av.length = n) (hd : y.cls = Cn ∧ y.cls ≠ "java/lang/invoke/MethodHandle" ∧ y.cls ≠ "java/lang/invoke/VarHandle" ∧ (parseMethodDescriptor y.desc).map (fun d => d.parameters.length) = some n) (hR : fr + 1 ≤ R.frames ∧ 8 + (mL + 11) + lo ≤ R.locals) (hcs : cells ≤ R.cells ∧ slots ≤ R.slots) (hst : (rest.map fun v => v.category).sum ≤ 8) (hdg : decode cc pc = .ok (.invokestatic index, 3)) :
    va_Run p l e R s m args below meth c H locs cells slots 0 0 (F0 m pc ls (av.reverse ++ rest)) rest (Qc av.toArray) (wA Γ N) := by
  obtain ⟨hx, hb, -, hml, hown, hts, -, hX, hI⟩ := C
  obtain ⟨hC, hd⟩ := hd
  subst hC
  have g : GoodIn Ub (gW y bc mL rt) := gU (ws := []) k5 (by intro w hw; simp at hw)
  exact va_runSN (nL := nL) (Ts := Ub) (own := own) ⟨hx, hb, hml, hown, hts⟩ hM ⟨va_cnB n hts g rfl rfl rfl k1 (hts _ k4) hd hR, hts _ k2, trivial⟩ ⟨gPc_blind, fun U hU hW => ⟨rfl, by rw [hU]; exact hP.1, hX.warm hW, hI⟩⟩ rfl hn hls rfl (lv_room hst) hdg hcs
theorem goI {r : Int32} {E' : Nat → va_E} {st0 : List Value} {a : Array Value} (hr : va_Run p l e R s m args below meth c H locs cells slots 0 0 (F0 m pc ls st0) rest (gQi Γ N r E' a) (wA Γ N)) (hP : St Γ N E s.heap H locs) (kk : ∀ (H1 : Heap) (locs1 : List Loc), St Γ N E' s.heap H1 locs1 → W p l e R s m args below meth c H1 locs1 cells slots Q (F0 m (pc + 3) ls (.int r :: rest))) : W p l e R s m args below meth c H locs cells slots Q (F0 m pc ls st0) := by
  refine va_calli (A0 := wA Γ N) (A1 := wA Γ N) hr hP.2 (fun q _ h => h) (fun q h => h) (fun r1 u t H1 locs1 ht hvm hw hB hz1 hk1 hS1 => ?_)
  subst hw
  exact kk H1 locs1 ⟨by rw [← ht]; exact hB, hS1⟩
theorem goL {r : Int64} {E' : Nat → va_E} {st0 : List Value} {a : Array Value} (hr : va_Run p l e R s m args below meth c H locs cells slots 0 0 (F0 m pc ls st0) rest (gQl Γ N r E' a) (wA Γ N)) (hP : St Γ N E s.heap H locs) (kk : ∀ (H1 : Heap) (locs1 : List Loc), St Γ N E' s.heap H1 locs1 → W p l e R s m args below meth c H1 locs1 cells slots Q (F0 m (pc + 3) ls (.long r :: rest))) : W p l e R s m args below meth c H locs cells slots Q (F0 m pc ls st0) := by
  refine va_calll (A0 := wA Γ N) (A1 := wA Γ N) hr hP.2 (fun q _ h => h) (fun q h => h) (fun r1 u t H1 locs1 ht hvm hw hB hz1 hk1 hS1 => ?_)
  subst hw
  exact kk H1 locs1 ⟨by rw [← ht]; exact hB, hS1⟩
theorem goV {E' : Nat → va_E} {st0 : List Value} {a : Array Value} (hr : va_Run p l e R s m args below meth c H locs cells slots 0 0 (F0 m pc ls st0) rest (gQv Γ N E' a) (wA Γ N)) (hP : St Γ N E s.heap H locs) (kk : ∀ (H1 : Heap) (locs1 : List Loc), St Γ N E' s.heap H1 locs1 → W p l e R s m args below meth c H1 locs1 cells slots Q (F0 m (pc + 3) ls rest)) : W p l e R s m args below meth c H locs cells slots Q (F0 m pc ls st0) := by
  refine va_callv (A0 := wA Γ N) (A1 := wA Γ N) hr hP.2 (fun q _ h => h) (fun q h => h) (fun u t H1 locs1 ht hvm hw hB hz1 hk1 hS1 => ?_)
  exact kk H1 locs1 ⟨by rw [← ht]; exact hB, hS1⟩
end Gr
/-! ===== pure: what a walk computes; a guard that falls gives none ===== -/
def gi {α : Type} (i : Int32) (n : Nat) (k : Option α) : Option α := if i < 0 ∨ n ≤ i.toNatClampNeg then none else k
def gz {α : Type} (y : Int32) (k : Option α) : Option α := if y = 0 then none else k
def gb {α : Type} (v : Int32) (k : Option α) : Option α := if v = 0 ∨ v = 1 then k else none
def gn {α : Type} (q lo hi : Nat) (k : Option α) : Option α := if lo ≤ q ∧ q ≤ hi then k else none
def gc {α : Type} (sp dp n : Int32) (n0 n1 : Nat) (k : Option α) : Option α := if ¬ sp < 0 ∧ ¬ dp < 0 ∧ ¬ n < 0 ∧ sp.toNatClampNeg + n.toNatClampNeg ≤ n0 ∧ dp.toNatClampNeg + n.toNatClampNeg ≤ n1 then k else none
def bd {α β σ : Type} (x : Option (α × σ)) (k : α → σ → Option β) : Option β := match x with
  | none => none
  | some q => k q.1 q.2
def bv {β σ : Type} (x : Option σ) (k : σ → Option β) : Option β := match x with
  | none => none
  | some q => k q
theorem gi_i {α : Type} {i : Int32} {n : Nat} {k : Option α} {y : α} {P : Prop} (h : gi i n k = some y) (f : vp_in i n → i.toNatClampNeg < n → k = some y → P) : P := by
  unfold gi at h
  split at h
  · cases h
  · rename_i hc
    exact f hc (Nat.not_le.mp fun q => hc (Or.inr q)) h
theorem gz_i {α : Type} {v : Int32} {k : Option α} {y : α} {P : Prop} (h : gz v k = some y) (f : ¬ v = 0 → k = some y → P) : P := by
  unfold gz at h
  split at h
  · cases h
  · rename_i hc
    exact f hc h
theorem gb_i {α : Type} {v : Int32} {k : Option α} {y : α} {P : Prop} (h : gb v k = some y) (f : v = 0 ∨ v = 1 → k = some y → P) : P := by
  unfold gb at h
  split at h
  · rename_i hc
    exact f hc h
  · cases h
theorem gn_i {α : Type} {q lo hi : Nat} {k : Option α} {y : α} {P : Prop} (h : gn q lo hi k = some y) (f : lo ≤ q ∧ q ≤ hi → k = some y → P) : P := by
  unfold gn at h
  split at h
  · rename_i hc
    exact f hc h
  · cases h
theorem gc_i {α : Type} {sp dp n : Int32} {n0 n1 : Nat} {k : Option α} {y : α} {P : Prop} (h : gc sp dp n n0 n1 k = some y) (f : (¬ sp < 0 ∧ ¬ dp < 0 ∧ ¬ n < 0 ∧ sp.toNatClampNeg + n.toNatClampNeg ≤ n0 ∧ dp.toNatClampNeg + n.toNatClampNeg ≤ n1) → k = some y → P) : P := by
  unfold gc at h
  split at h
  · rename_i hc
    exact f hc h
  · cases h
theorem bd_i {α β σ : Type} {x : Option (α × σ)} {k : α → σ → Option β} {y : β} {P : Prop} (h : bd x k = some y) (f : ∀ r S, x = some (r, S) → k r S = some y → P) : P := by
  cases x with
  | none => cases h
  | some q => exact f q.1 q.2 rfl h
theorem bv_i {β σ : Type} {x : Option σ} {k : σ → Option β} {y : β} {P : Prop} (h : bv x k = some y) (f : ∀ S, x = some S → k S = some y → P) : P := by
  cases x with
  | none => cases h
  | some q => exact f q rfl h
def sv {β σ : Type} (x : σ) (k : σ → Option β) : Option β := k x
theorem sv_i {β σ : Type} {x : σ} {k : σ → Option β} {y : β} {P : Prop} (h : sv x k = some y) (f : ∀ S, S = x → k S = some y → P) : P := f x rfl h
/-- how often a loop may go round: far above what any run needs -/
def lF : Nat := 100000
theorem ne_toInt {x y : Int32} (h : ¬ x = y) : x.toInt ≠ y.toInt := fun e => h (Int32.toInt_inj.mp e)
theorem if_t {c : Prop} [Decidable c] {α : Type} {a b y : α} (hc : c) (h : (if c then a else b) = y) : a = y := by rwa [if_pos hc] at h
theorem if_f {c : Prop} [Decidable c] {α : Type} {a b y : α} (hc : ¬ c) (h : (if c then a else b) = y) : b = y := by rwa [if_neg hc] at h
