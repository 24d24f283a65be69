/-! ===== methods that throw ===== -/
abbrev nU : String := "java/lang/UnsupportedOperationException"
abbrev nA : String := "java/lang/IllegalArgumentException"
abbrev nS : String := "java/lang/IllegalStateException"
abbrev nms : List String := ["java/lang/RuntimeException", "java/lang/Exception"]
abbrev dcR : Cond := .declares ⟨"java/lang/RuntimeException", "<init>", "(Ljava/lang/String;)V"⟩
abbrev dcE : Cond := .declares ⟨"java/lang/Exception", "<init>", "(Ljava/lang/String;)V"⟩
abbrev dcT : Cond := .declares ⟨"java/lang/Throwable", "<init>", "(Ljava/lang/String;)V"⟩
/-- what throws stand on: texts, and words that the tables alone decide -/
def wT (U : State) : Prop := ((∃ a, vk_R RX2 26 "held" a U) ∧ (∃ a, vk_R RX2 33 "new" a U) ∧ (∃ a, vk_R RX2 38 "lane" a U) ∧ (∃ a, vk_R RX5 286 "no such shelf" a U) ∧ (∃ a, vk_R RX5 293 "no row, or no such place in it" a U)) ∧ (va_Nw dcR U ∧ va_Nw dcE U ∧ va_Nw dcT U) ∧ (va_Nw (.castable nU nU) U ∧ va_Nw (.castable nA nA) U ∧ va_Nw (.castable nS nS) U) ∧ va_Nc nA nU U ∧ va_Nc nS nU U ∧ va_Nc nS nA U
theorem wT.warm {s U : State} (hW : s.WarmedH U.vm) (h : wT s) : wT U := by
  obtain ⟨⟨⟨a1, h1⟩, ⟨a2, h2⟩, ⟨a3, h3⟩, ⟨a4, h4⟩, ⟨a5, h5⟩⟩, ⟨d1, d2, d3⟩, ⟨c1, c2, c3⟩, n1, n2, n3⟩ := h
  exact ⟨⟨⟨a1, h1.warm hW⟩, ⟨a2, h2.warm hW⟩, ⟨a3, h3.warm hW⟩, ⟨a4, h4.warm hW⟩, ⟨a5, h5.warm hW⟩⟩, ⟨d1.warmD hW, d2.warmD hW, d3.warmD hW⟩, ⟨c1.warmC hW, c2.warmC hW, c3.warmC hW⟩, n1.moved hW.alike, n2.moved hW.alike, n3.moved hW.alike⟩
theorem wT.same {s U : State} (hv : s.vm = U.vm) (h : wT s) : wT U := by
  obtain ⟨⟨⟨a1, h1⟩, ⟨a2, h2⟩, ⟨a3, h3⟩, ⟨a4, h4⟩, ⟨a5, h5⟩⟩, ⟨d1, d2, d3⟩, ⟨c1, c2, c3⟩, n1, n2, n3⟩ := h
  have al : s.vm.Alike U.vm := hv ▸ Vm.Alike.refl s.vm
  exact ⟨⟨⟨a1, h1.same hv.symm⟩, ⟨a2, h2.same hv.symm⟩, ⟨a3, h3.same hv.symm⟩, ⟨a4, h4.same hv.symm⟩, ⟨a5, h5.same hv.symm⟩⟩, ⟨d1.same rfl hv, d2.same rfl hv, d3.same rfl hv⟩, ⟨c1.same rfl hv, c2.same rfl hv, c3.same rfl hv⟩, n1.moved al, n2.moved al, n3.moved al⟩
def wZ (A : Nat → Prop) (U : State) (H : Heap) : Prop := vx_Zq Bundle.tN "UNASSIGNED_STACK" Bundle.steD A U H ∧ vx_Zq Bundle.tN "SUPPRESSED_SENTINEL" Bundle.listD A U H
theorem wZ.moved {A : Nat → Prop} {u U : State} {H : Heap} (hvm : u.vm.Alike U.vm) (h : wZ A u H) : wZ A U H := ⟨h.1.moved hvm, h.2.moved hvm⟩
theorem wZ.kept {A : Nat → Prop} {U : State} {H H1 : Heap} (h : wZ A U H) (hq : ∀ a : Nat, a < H.size → ¬ A a → H1[a]? = H[a]?) : wZ A U H1 := ⟨h.1.kept hq, h.2.kept hq⟩
theorem wZ.narrow {A B : Nat → Prop} {U : State} {H : Heap} (h : wZ A U H) (hAB : ∀ q, B q → A q) : wZ B U H := ⟨h.1.narrow hAB, h.2.narrow hAB⟩
theorem at_U : ∀ w ∈ (vx_atS RX2 28 nU nms).filter goodWord, w ∈ Ub := fun w h => Ub_mem ((show ∀ w ∈ (vx_atS RX2 28 nU nms).filter goodWord, w ∈ lw_tbl by decide +kernel) w h) (List.mem_filter.mp h).2
theorem at_A : ∀ w ∈ (vx_atS RX2 35 nA nms).filter goodWord, w ∈ Ub := fun w h => Ub_mem ((show ∀ w ∈ (vx_atS RX2 35 nA nms).filter goodWord, w ∈ lw_tbl by decide +kernel) w h) (List.mem_filter.mp h).2
theorem at_S : ∀ w ∈ (vx_atS RX2 40 nS nms).filter goodWord, w ∈ Ub := fun w h => Ub_mem ((show ∀ w ∈ (vx_atS RX2 40 nS nms).filter goodWord, w ∈ lw_tbl by decide +kernel) w h) (List.mem_filter.mp h).2
theorem at_eA : ∀ w ∈ (vx_atS RX5 288 nA nms).filter goodWord, w ∈ Ub := fun w h => Ub_mem ((show ∀ w ∈ (vx_atS RX5 288 nA nms).filter goodWord, w ∈ lw_tbl by decide +kernel) w h) (List.mem_filter.mp h).2
theorem at_eS : ∀ w ∈ (vx_atS RX5 295 nS nms).filter goodWord, w ∈ Ub := fun w h => Ub_mem ((show ∀ w ∈ (vx_atS RX5 295 nS nms).filter goodWord, w ∈ lw_tbl by decide +kernel) w h) (List.mem_filter.mp h).2
theorem bt_U : ∀ w ∈ (vx_atS RX2 28 nU nms).filter (fun w => !goodWord w), w ∈ [dcR, dcE, dcT, .castable nU nU] := by decide +kernel
theorem bt_A : ∀ w ∈ (vx_atS RX2 35 nA nms).filter (fun w => !goodWord w), w ∈ [dcR, dcE, dcT, .castable nA nA] := by decide +kernel
theorem bt_S : ∀ w ∈ (vx_atS RX2 40 nS nms).filter (fun w => !goodWord w), w ∈ [dcR, dcE, dcT, .castable nS nS] := by decide +kernel
theorem bt_eA : ∀ w ∈ (vx_atS RX5 288 nA nms).filter (fun w => !goodWord w), w ∈ [dcR, dcE, dcT, .castable nA nA] := by decide +kernel
theorem bt_eS : ∀ w ∈ (vx_atS RX5 295 nS nms).filter (fun w => !goodWord w), w ∈ [dcR, dcE, dcT, .castable nS nS] := by decide +kernel
theorem gd_U : ∀ w ∈ Cond.classLink RX2 24 nU :: Cond.initialized nU :: vx_atS RX2 28 nU nms, vx_ot w = true := by decide +kernel
theorem gd_A : ∀ w ∈ Cond.classLink RX2 31 nA :: Cond.initialized nA :: vx_atS RX2 35 nA nms, vx_ot w = true := by decide +kernel
theorem gd_S : ∀ w ∈ Cond.classLink RX2 36 nS :: Cond.initialized nS :: vx_atS RX2 40 nS nms, vx_ot w = true := by decide +kernel
theorem gd_eA : ∀ w ∈ Cond.classLink RX5 284 nA :: Cond.initialized nA :: vx_atS RX5 288 nA nms, vx_ot w = true := by decide +kernel
theorem gd_eS : ∀ w ∈ Cond.classLink RX5 291 nS :: Cond.initialized nS :: vx_atS RX5 295 nS nms, vx_ot w = true := by decide +kernel
theorem ft_n : ∀ n ∈ nms, Bundle.fit n = true := by decide +kernel
/-- a method's start, where it may throw -/
def gPt (Γ : gG) (N : Nat) (E : Nat → va_E) (av : List Value) : Array Value → State → Prop := va_Pc av (fun U => va_P Γ.1 vwCl (wl Γ N E) U.heap ∧ wX Γ U ∧ wI Γ N ∧ wT U ∧ wZ (wA Γ N) U U.heap)
theorem gPt_blind {Γ : gG} {N : Nat} {E : Nat → va_E} {av : List Value} : FrameBlind (gPt Γ N E av) := fun _ _ _ _ q => ⟨q.1, q.2.1, q.2.2.1.same rfl, q.2.2.2.1, q.2.2.2.2.1.same rfl, wZ.moved (Vm.Alike.refl _) q.2.2.2.2.2⟩
/-- the world that a throw leaves -/
def gTh (Γ : gG) (N : Nat) (E : Nat → va_E) (thr : String → Prop) : String → State → State → Prop := vx_X (fun (_ : Unit) => True) (fun X _ t => thr X ∧ va_P Γ.1 vwCl (wl Γ N E) t.heap) (wA Γ N)
theorem met_bodyX {l : Launch} {Γ : gG} {N : Nat} {y : MethodName} {cc : ByteArray} {nL : Nat} {ret : Option FieldType} {fr lo : Nat} {av : List Value} {E : Nat → va_E} {Qc : Array Value → State → Outcome → State → Prop} {XC : String → State → State → Prop} {lv : List (Nat × Value)} (own : String) (hy : plainName y.cls = true) (ho : y.cls = own) (hs : Nat.ble (lg_sl av).length nL = true) (hv : lv_args 0 av = lv)
    (body : ∀ (p : Program) (e : Env) (s : State) (m : MethodId) (below : List Frame) (meth : Method) (c : Code) (H : Heap) (locs : List Loc) (ls : Array Slot), Cx Γ N p s m av.toArray meth c own cc nL ret → St Γ N E s.heap H locs → wT s → wZ (wA Γ N) s s.heap → (∀ x ∈ c.exceptionTable.toList, False) → lv_has ls nL lv →
      W p l e { frames := fr, cells := 1, slots := 6, locals := lo } s m av.toArray below meth c H locs 0 0 (vx_MQ below Qc XC av.toArray s 1 6 (wA Γ N)) (F0 m 0 ls [])) :
    vx_Met l y (gW y cc nL ret) { frames := fr, cells := 1, slots := 6, locals := lo } (gPt Γ N E av) Qc XC 1 6 (wA Γ N) := by
  refine vx_ofW (cc := cc) (maxL := nL) (ret := ret) hy rfl ?_
  intro p e s m args below meth c s₁ B hml ht hv'
  obtain ⟨rfl, hP, hX, hI, hT, hZ⟩ := hv'
  have hts := atoms_spec (ws := gW y cc nL ret) B.pre
  have hown : s.vm.findClass y.cls = some m.cls := findClass_of_methodNamed B.named
  have hl := lv_entry av (n := nL) (Nat.le_of_ble_eq_true hs)
  rw [lg_entry_eq]
  rw [hv] at hl
  rw [ho] at hown
  exact body p e s m below meth c s.heap [] _ ⟨B.exec, B.bytes, B.returns, hml, hown, fun w h => hts w (List.mem_cons_of_mem _ h), B.notSynchronized, hX, hI⟩ ⟨hP, va_S.rf⟩ hT hZ ht hl
theorem met_bodyW {l : Launch} {Γ : gG} {N : Nat} {y : MethodName} {cc : ByteArray} {nL : Nat} {ret : Option FieldType} {hh : List (Nat × Nat × Nat × Nat)} {fr lo : Nat} {av : List Value} {E : Nat → va_E} {Qc : Array Value → State → Outcome → State → Prop} {lv : List (Nat × Value)} (own : String) (hy : plainName y.cls = true) (ho : y.cls = own) (hs : Nat.ble (lg_sl av).length nL = true) (hv : lv_args 0 av = lv)
    (body : ∀ (p : Program) (e : Env) (s : State) (m : MethodId) (below : List Frame) (meth : Method) (c : Code) (H : Heap) (locs : List Loc) (ls : Array Slot), Cx Γ N p s m av.toArray meth c own cc nL ret → St Γ N E s.heap H locs → wT s → wZ (wA Γ N) s s.heap → c.exceptionTable.toList = tableOf hh → lv_has ls nL lv →
      W p l e { frames := fr, cells := 1, slots := 6, locals := lo } s m av.toArray below meth c H locs 0 0 (MQ below Qc av.toArray s 1 6 (wA Γ N)) (F0 m 0 ls [])) :
    Met l y (Cond.codeWith y cc nL ret hh :: Ub) { frames := fr, cells := 1, slots := 6, locals := lo } (gPt Γ N E av) Qc 1 6 (wA Γ N) := by
  refine va_MetW (cc := cc) (maxL := nL) (ret := ret) (hh := hh) hy rfl ?_
  intro p e s m args below meth c s₁ B hml hv'
  obtain ⟨rfl, hP, hX, hI, hT, hZ⟩ := hv'
  have hts := atoms_spec (ws := Cond.codeWith y cc nL ret hh :: Ub) B.pre
  have hown : s.vm.findClass y.cls = some m.cls := findClass_of_methodNamed B.named
  have hl := lv_entry av (n := nL) (Nat.le_of_ble_eq_true hs)
  rw [lg_entry_eq]
  rw [hv] at hl
  rw [ho] at hown
  exact body p e s m below meth c s.heap [] _ ⟨B.exec, B.bytes, B.returns, hml, hown, fun w h => hts w (List.mem_cons_of_mem _ h), B.notSynchronized, hX, hI⟩ ⟨hP, va_S.rf⟩ hT hZ (vx_table (x := y) B (hts _ List.mem_cons_self)) hl
section Th
variable {p : Program} {l : Launch} {e : Env} {R : Room} {s : State} {m : MethodId} {args : Array Value} {below : List Frame} {meth : Method} {c : Code} {H : Heap} {locs : List Loc} {Q : State → Prop}
variable {Γ : gG} {N : Nat} {E : Nat → va_E} {own : String} {cc : ByteArray} {nL : Nat} {ret : Option FieldType} {pc : Nat} {ls : Array Slot} {rest : List Value}
/-- what a throw's own end owes -/
theorem gTh_end {thr : String → Prop} {X : String} (hP : St Γ N E s.heap H locs) (ht : thr X) (t : State) (h1 : H.size ≤ t.heap.size) (h2 : ∀ q : Nat, q < H.size → t.heap[q]? = H[q]?) : gTh Γ N E thr X s t := by
  refine ⟨(), trivial, ⟨ht, fun k q hk => (hP.1 k q hk).kept (h2 q.1 ((hP.1 k q hk).lt))⟩, Nat.le_trans hP.2.1 h1, fun q hq hA => ?_⟩
  rw [h2 q (Nat.lt_of_lt_of_le hq hP.2.1), hP.2.2.1 q hq hA]
theorem th_S {cls text : String} {ik is ic : Nat} {thr : String → Prop} {Qc : Array Value → State → Outcome → State → Prop} (hl : l.stackTraces = false) (C : Cx Γ N p s m args meth c own cc nL ret) (hP : St Γ N E s.heap H locs) (hZ : wZ (wA Γ N) s s.heap) (hls : ls.size = nL) (htab : ∀ x ∈ c.exceptionTable.toList, False) (hcls : Bundle.fit cls = true) (k1 : Cond.classLink own ik cls ∈ Ub) (k2 : Cond.initialized cls ∈ Ub) (hstr : ∃ a, vk_R own is text a s) (a1 : ∀ w ∈ (vx_atS own ic cls nms).filter goodWord, w ∈ Ub) (a2 : ∀ w ∈ (vx_atS own ic cls nms).filter (fun w => !goodWord w), w ∈ [dcR, dcE, dcT, .castable cls cls]) (hd : va_Nw dcR s ∧ va_Nw dcE s ∧ va_Nw dcT s) (hc : va_Nw (.castable cls cls) s) (hgood : ∀ w ∈ Cond.classLink own ik cls :: Cond.initialized cls :: vx_atS own ic cls nms, vx_ot w = true) (ht : thr cls)
    (d0 : decode cc pc = .ok (.new ik, 3)) (d3 : decode cc (pc + 3) = .ok (.dup, 1)) (d4 : decode cc (pc + 4) = .ok (.ldc is, 2)) (d6 : decode cc (pc + 6) = .ok (.invokespecial ic, 3)) (d9 : decode cc (pc + 9) = .ok (.athrow, 1)) (hfr : 5 < R.frames) (hlo : 82 ≤ R.locals) (hce : 1 ≤ R.cells) (hsl : 6 ≤ R.slots) :
    W p l e R s m args below meth c H locs 0 0 (vx_MQ below Qc (gTh Γ N E thr) args s 1 6 (wA Γ N)) (F0 m pc ls []) := by
  obtain ⟨hx, hb, -, hml, hown, hts, hlk, hX, hI⟩ := C
  obtain ⟨sa, hsa⟩ := hstr
  refine vx_throwS (A := wA Γ N) (mc := 1) (ms := 6) (names := nms) hx hb hl hown hcls ft_n (hts _ k1) (hts _ k2) hsa (vx_hat (fun w hw => hts w (a1 w hw)) a2 (vx_c (va_Nw.use rfl hd.1) (vx_c (va_Nw.use rfl hd.2.1) (vx_c (va_Nw.use rfl hd.2.2) (vx_c (va_Nw.use rfl hc) vx_n))))) hgood hZ.1 hZ.2 hP.2 (hls.trans hml.symm) d0 d3 d4 d6 d9 (fun x hx => (htab x hx).elim) hfr (by simpa using hlo) (by omega) (by omega) hlk (fun t _ h1 h2 => gTh_end hP ht t h1 h2) hP.2.2.2 (by omega) (by omega)
theorem th_SW {cls text : String} {ik is ic : Nat} {thr : String → Prop} {Qc : Array Value → State → Outcome → State → Prop} (hl : l.stackTraces = false) (C : Cx Γ N p s m args meth c own cc nL ret) (hP : St Γ N E s.heap H locs) (hZ : wZ (wA Γ N) s s.heap) (hls : ls.size = nL) (htab : ∀ x ∈ c.exceptionTable.toList, False) (hcls : Bundle.fit cls = true) (k1 : Cond.classLink own ik cls ∈ Ub) (k2 : Cond.initialized cls ∈ Ub) (hstr : ∃ a, vk_R own is text a s) (a1 : ∀ w ∈ (vx_atS own ic cls nms).filter goodWord, w ∈ Ub) (a2 : ∀ w ∈ (vx_atS own ic cls nms).filter (fun w => !goodWord w), w ∈ [dcR, dcE, dcT, .castable cls cls]) (hd : va_Nw dcR s ∧ va_Nw dcE s ∧ va_Nw dcT s) (hc : va_Nw (.castable cls cls) s) (hgood : ∀ w ∈ Cond.classLink own ik cls :: Cond.initialized cls :: vx_atS own ic cls nms, vx_ot w = true) (ht : thr cls)
    (d0 : decode cc pc = .ok (.new ik, 3)) (d3 : decode cc (pc + 3) = .ok (.dup, 1)) (d4 : decode cc (pc + 4) = .ok (.ldc_w is, 3)) (d7 : decode cc (pc + 7) = .ok (.invokespecial ic, 3)) (d10 : decode cc (pc + 10) = .ok (.athrow, 1)) (hfr : 5 < R.frames) (hlo : 82 ≤ R.locals) (hce : 1 ≤ R.cells) (hsl : 6 ≤ R.slots) :
    W p l e R s m args below meth c H locs 0 0 (vx_MQ below Qc (gTh Γ N E thr) args s 1 6 (wA Γ N)) (F0 m pc ls []) := by
  obtain ⟨hx, hb, -, hml, hown, hts, hlk, hX, hI⟩ := C
  obtain ⟨sa, hsa⟩ := hstr
  refine vx_throwSW (A := wA Γ N) (mc := 1) (ms := 6) (names := nms) hx hb hl hown hcls ft_n (hts _ k1) (hts _ k2) hsa (vx_hat (fun w hw => hts w (a1 w hw)) a2 (vx_c (va_Nw.use rfl hd.1) (vx_c (va_Nw.use rfl hd.2.1) (vx_c (va_Nw.use rfl hd.2.2) (vx_c (va_Nw.use rfl hc) vx_n))))) hgood hZ.1 hZ.2 hP.2 (hls.trans hml.symm) d0 d3 d4 d7 d10 (fun x hx => (htab x hx).elim) hfr (by simpa using hlo) (by omega) (by omega) hlk (fun t _ h1 h2 => gTh_end hP ht t h1 h2) hP.2.2.2 (by omega) (by omega)
theorem iret16 {σ : Type} {X : σ → Nat → va_E} {v r : Int32} {S S' : σ} (C : Cx Γ N p s m args meth c own cc nL (some .int)) (hP : St Γ N (X S) s.heap H locs) (hf : some (v, S) = some (r, S')) (hdg : decode cc pc = .ok (.ireturn, 1)) : W p l e R s m args below meth c H locs 1 6 (MQ below (gQi Γ N r (X S')) args s 1 6 (wA Γ N)) (F0 m pc ls [.int v]) := by
  cases hf
  obtain ⟨hx, hb, hr, -, -, -, hlk, -, -⟩ := C
  exact W.iret hx hb hr (fun t ht hW => ⟨⟨v, (), rfl, rfl, show va_P Γ.1 vwCl (wl Γ N (X S)) t.heap by rw [ht]; exact hP.1⟩, hP.2.F ht⟩) hP.2.2.2 hdg hlk
end Th
/-- what FAIL throws -/
def flE (kd : Int32) : String := if kd = nI 3 then nU else if kd = nI 6 then nA else nS
theorem x_fail (l : Launch) (hl0 : l.stackTraces = false) (Γ : gG) {N : Nat} {E : Nat → va_E} {x0 x1 : Int32} : vx_Met l yX2_fail (gW yX2_fail cX2_fail 2 none) { frames := 6, cells := 1, slots := 6, locals := 90 } (gPt Γ N E [.int x0, .int x1]) (va_Qv (fun (_ : Unit) => x0 = nI 7 ∨ x1 = 0) (fun _ t => va_P Γ.1 vwCl (wl Γ N E) t.heap) (wA Γ N)) (gTh Γ N E (fun X => ¬ (x0 = nI 7 ∨ x1 = 0) ∧ X = flE x0)) 1 6 (wA Γ N) := by
  refine met_bodyX (Γ := Γ) (lv := [(0, .int x0), (1, .int x1)]) RX2 (by decide) rfl rfl rfl ?_
  intro p e s m below meth c H locs ls C hP hT hZ htab hl
  obtain ⟨hx, hb, hr, -, hown, hts, hlk, hwx, -⟩ := id C
  obtain ⟨⟨t1, t2, t3, t4, t5⟩, td, ⟨c1, c2, c3⟩, -⟩ := hT
  have ret : ∀ {pc : Nat}, decode cX2_fail pc = .ok (.return_, 1) → (x0 = nI 7 ∨ x1 = 0) → W p l e { frames := 6, cells := 1, slots := 6, locals := 90 } s m [.int x0, .int x1].toArray below meth c H locs 0 0 (vx_MQ below (va_Qv (fun (_ : Unit) => x0 = nI 7 ∨ x1 = 0) (fun _ t => va_P Γ.1 vwCl (wl Γ N E) t.heap) (wA Γ N)) (gTh Γ N E (fun X => ¬ (x0 = nI 7 ∨ x1 = 0) ∧ X = flE x0)) [.int x0, .int x1].toArray s 1 6 (wA Γ N)) (F0 m pc ls []) := by
    intro pc hdg hq
    refine W.widen (k := 1) (n := 6) (by omega) (by omega) (vx_ret ?_)
    exact W.vret hx hb hr (fun t ht hW => ⟨⟨(), rfl, hq, show va_P Γ.1 vwCl (wl Γ N E) t.heap by rw [ht]; exact hP.1⟩, hP.2.F ht⟩) hP.2.2.2 hdg hlk
  refine lv_iload_n hx hb dX2_fail_0 rfl (lv_at hl 0 rfl) ?_
  refine lv_bipush (v := nI 7) hx hb dX2_fail_1 rfl ?_
  refine lv_icmp_eq (tgt := 10) hx hb dX2_fail_3 (by decide) (fun h7 => ?_) (fun h7 => ?_)
  · exact ret dX2_fail_10 (Or.inl h7)
  · refine lv_iload_n hx hb dX2_fail_6 rfl (lv_at hl 1 rfl) ?_
    refine lv_if_ne (tgt := 11) hx hb dX2_fail_7 (by decide) (fun h0 => ?_) (fun h0 => ?_)
    · have hno : ¬ (x0 = nI 7 ∨ x1 = 0) := fun q => q.elim h7 h0
      refine lv_iload_n hx hb dX2_fail_11 rfl (lv_at hl 0 rfl) ?_
      refine lv_iconst (v := nI 3) hx hb dX2_fail_12 rfl ?_
      refine lv_icmp_ne (tgt := 26) hx hb dX2_fail_13 (by decide) (fun h3 => ?_) (fun h3 => ?_)
      · refine lv_iload_n hx hb dX2_fail_26 rfl (lv_at hl 0 rfl) ?_
        refine lv_bipush (v := nI 6) hx hb dX2_fail_27 rfl ?_
        refine lv_icmp_ne (tgt := 42) hx hb dX2_fail_29 (by decide) (fun h6 => ?_) (fun h6 => ?_)
        · exact th_S hl0 C hP hZ hl.1 htab (by decide +kernel) k4_18 k1_14 t3 at_S bt_S td c3 gd_S ⟨hno, by unfold flE; rw [if_neg h3, if_neg h6]⟩ dX2_fail_42 dX2_fail_45 dX2_fail_46 dX2_fail_48 dX2_fail_51 (Nat.le_of_ble_eq_true rfl) (Nat.le_of_ble_eq_true rfl) (Nat.le_refl _) (Nat.le_refl _)
        · exact th_S hl0 C hP hZ hl.1 htab (by decide +kernel) k4_2 k1_13 t2 at_A bt_A td c2 gd_A ⟨hno, by unfold flE; rw [if_neg h3, if_pos h6]⟩ dX2_fail_32 dX2_fail_35 dX2_fail_36 dX2_fail_38 dX2_fail_41 (Nat.le_of_ble_eq_true rfl) (Nat.le_of_ble_eq_true rfl) (Nat.le_refl _) (Nat.le_refl _)
      · exact th_S hl0 C hP hZ hl.1 htab (by decide +kernel) k3_174 k1_15 t1 at_U bt_U td c1 gd_U ⟨hno, by unfold flE; rw [if_pos h3]⟩ dX2_fail_16 dX2_fail_19 dX2_fail_20 dX2_fail_22 dX2_fail_25 (Nat.le_of_ble_eq_true rfl) (Nat.le_of_ble_eq_true rfl) (Nat.le_refl _) (Nat.le_refl _)
    · exact ret dX2_fail_10 (Or.inr h0)
