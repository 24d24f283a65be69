/-! ===== how a throw finds its handler, row by row of a table ===== -/
/-- what a table does with an object of class cls, thrown at pc: the handler h takes it -/
def hn_T (s : State) (pl : Platform) (d : ClassId) (pc : Nat) (cls : ClassId) (h : Nat) : List ExceptionTableEntry → Prop
  | [] => False
  | x :: t => (covers x pc = false ∧ hn_T s pl d pc cls h t) ∨ (covers x pc = true ∧ x.catchType ≠ 0 ∧ ∃ k, s.vm.ClassLinks pl d x.catchType k ∧ ((s.vm.assignable cls k = true ∧ h = x.handlerPc) ∨ (s.vm.assignable cls k = false ∧ hn_T s pl d pc cls h t)))
theorem hn_row {Q : Handler → Pre} {E : CtlPost} {e : Env} {d : Bool} {acts : List Action} {S : State} {f : JFrame} {a : Addr} {x : ExceptionTableEntry} {t : List ExceptionTableEntry} {k : ClassId} {cell : Cell} (hx : covers x f.pc = true) (h0 : x.catchType ≠ 0) (hl : S.vm.ClassLinks e.platform f.method.cls x.catchType k) (hcell : S.heap[a]? = some cell) (hobj : cell.vm = .none) (hc : ∃ z, S.vm.classes[cell.cls]? = some z) (hk : ∃ z, S.vm.classes[k]? = some z) :
    wp (findHandler.go f a (x :: t)) Q E e d acts S ↔ if S.vm.assignable cell.cls k = true then Q (.found x.handlerPc) d acts (S.setVm (S.vm.noted f.method.cls x.catchType (.cls k))) else wp (findHandler.go f a t) Q E e d acts (S.setVm (S.vm.noted f.method.cls x.catchType (.cls k))) := by
  simp only [covers] at hx
  obtain ⟨ha, ht⟩ := (resolveClass_links e.toSetting hl).op (op := VmOp.resolveClass f.method.cls x.catchType) rfl
  have al : S.vm.Alike (S.vm.noted f.method.cls x.catchType (.cls k)) := (Vm.Alike.refl S.vm).noted _ _ _
  obtain ⟨z1, q1⟩ := hc
  obtain ⟨z2, q2⟩ := hk
  obtain ⟨z1', q1', -⟩ := al.2.2 _ _ q1
  obtain ⟨z2', q2', -⟩ := al.2.2 _ _ q2
  have hne : ∀ j, cell.vm ≠ .statics j := fun j q => by rw [hobj] at q; cases q
  have as : (S.vm.noted f.method.cls x.catchType (.cls k)).assignable cell.cls k = S.vm.assignable cell.cls k := al.assignable _ _
  cases hfit : S.vm.assignable cell.cls k <;> rw [hfit] at as <;> simp [findHandler.go, hx, h0, ha, ht, hcell, hne, q1', q2', as, VmOp.dirties, VmOp.acts]
theorem hn_go {e : Env} {s : State} {f : JFrame} {a : Addr} {cell : Cell} {h : Nat} (hobj : cell.vm = .none) (hc : ∃ z, s.vm.classes[cell.cls]? = some z) : ∀ (tab : List ExceptionTableEntry) (S : State), s.WarmedH S.vm → S.heap[a]? = some cell → hn_T s e.platform f.method.cls f.pc cell.cls h tab →
    ∃ vm', s.WarmedH vm' ∧ ∀ (Q : Handler → Pre) (E : CtlPost) (d : Bool) (acts : List Action), wp (findHandler.go f a tab) Q E e d acts S ↔ Q (.found h) d acts (S.setVm vm') := by
  intro tab
  induction tab with
  | nil => intro S _ _ q; exact q.elim
  | cons x t ih =>
    intro S hW hcell q
    obtain ⟨z, hz⟩ := hc
    obtain ⟨z', hz', -⟩ := hW.alike.2.2 _ _ hz
    rcases q with ⟨q1, q2⟩ | ⟨q1, q2, k, q3, q4⟩
    · obtain ⟨vm', w1, w2⟩ := ih S hW hcell q2
      exact ⟨vm', w1, fun Q E d acts => by rw [W.findHandler_go_skip q1]; exact w2 Q E d acts⟩
    · obtain ⟨dk, _, _, kt, hd, _, _, _, _, hkt, _, hopen⟩ := q3.here
      obtain ⟨kt', hkt', -⟩ := hW.alike.2.2 _ _ hkt
      have hW1 := hW.noted hd hopen (State.rightAt_cls q3)
      have row := fun (Q : Handler → Pre) (E : CtlPost) (d : Bool) (acts : List Action) => hn_row (Q := Q) (E := E) (e := e) (d := d) (acts := acts) (S := S) (f := f) (a := a) (x := x) (t := t) q1 q2 (hW.classLinks q3) hcell hobj ⟨z', hz'⟩ ⟨kt', hkt'⟩
      rcases q4 with ⟨q5, q6⟩ | ⟨q5, q6⟩
      · exact ⟨_, hW1, fun Q E d acts => by rw [row Q E d acts, hW.alike.assignable, if_pos q5, q6]⟩
      · obtain ⟨vm', w1, w2⟩ := ih (S.setVm (S.vm.noted f.method.cls x.catchType (.cls k))) hW1 hcell q6
        exact ⟨vm', w1, fun Q E d acts => by rw [row Q E d acts, hW.alike.assignable, if_neg (by rw [q5]; decide)]; exact w2 Q E d acts⟩
section HN
variable {p : Program} {l : Launch} {e : Env} {R : Room} {s : State} {m : MethodId} {args : Array Value} {below : List Frame} {meth : Method} {c : Code} {H : Heap} {locs : List Loc} {cells slots : Nat} {Q : State → Prop}
/-- into the handler -/
theorem hn_in {pc h : Nat} {ls : Array Slot} {rest : List Value} {E : String} {ce : Cell} {q : Addr} (ht : ∀ pl : Platform, pl.magicAccessors = ({} : Platform).magicAccessors → hn_T s pl m.cls pc ce.cls h c.exceptionTable.toList) (hcell : H[q]? = some ce) (hv : ce.vm = .none) (hcl : s.vm.findClass E = some ce.cls)
    (kk : W p l e R s m args below meth c H locs cells slots Q (F0 m h ls [.ref q])) : vx_W p l e R s m args below meth c H locs cells slots Q (F0 m pc ls rest) q := by
  intro T hT X
  have hpl : e.platform.magicAccessors = ({} : Platform).magicAccessors := by rw [X.admits.platform]
  obtain ⟨vm', w1, w2⟩ := hn_go (e := e) (s := s) (f := F0 m pc ls rest) (a := q) (cell := ce) (h := h) hv (Vm.classAt_of_findClass hcl) c.exceptionTable.toList ((T.setTop (F0 m pc ls rest)).pushFrame (.throwing q)) X.warmed (by rw [Stand.throwing_heap, hT]; exact hcell) (ht e.platform hpl)
  have X' := X.noted w1
  obtain ⟨t, a1, b1⟩ := kk (T.setVm vm') hT X'
  refine ⟨t, ?_, b1⟩
  have hA : At T m c below := X.here
  obtain ⟨hgo, hw⟩ := (show At T (F0 m pc ls rest).method c below from hA).throwing q
  refine Steps.head hgo hw ?_
  have hm : ((T.setTop (F0 m pc ls rest)).pushFrame (.throwing q)).vm.method? m = some meth := X.method'
  have find : ∀ (Q : Handler → Pre) (E : CtlPost) (d : Bool) (acts : List Action), wp (findHandler (F0 m pc ls rest) q) Q E e d acts ((T.setTop (F0 m pc ls rest)).pushFrame (.throwing q)) ↔ Q (.found h) d acts (((T.setTop (F0 m pc ls rest)).pushFrame (.throwing q)).setVm vm') := fun Q E d acts => by
    rw [W.findHandler_eq hm X.code]; exact w2 Q E d acts
  have step : (stepThrowing e ((T.setTop (F0 m pc ls rest)).pushFrame (.throwing q)) q (.java (F0 m pc ls rest) :: T.frames.tail)).Is ((((T.setTop (F0 m pc ls rest)).pushFrame (.throwing q)).setVm vm').setFrames (.java (F0 m h ls [.ref q]) :: T.frames.tail)) [] := by
    simp only [stepThrowing, searchFrame, vmDo]
    generalize hr : Sem.go _ e false [] _ = res
    obtain ⟨as, rfl, ha⟩ := Sem.eq_ok_of hr (a := Handler.found h) (s' := ((T.setTop (F0 m pc ls rest)).pushFrame (.throwing q)).setVm vm') (acts' := []) (by simp [find _ _ _ _])
    exact ⟨rfl, ha⟩
  rw [stepThread_throwing (frames_entered hA.top _), step.1]
  obtain ⟨g₀, hg⟩ := Option.isSome_iff_exists.mp hA.top
  obtain ⟨r, hr⟩ := State.topJava?_eq_some.mp hg
  have hr' : (T.setVm vm').frames = .java g₀ :: r := hr
  rw [State.setTop_of_frames _ hr'] at a1
  rw [hr, List.tail_cons, State.pushFrame, State.setTop_of_frames _ hr]
  have e1 : (((T.setFrames (.java (F0 m pc ls rest) :: r)).setFrames (.throwing q :: (T.setFrames (.java (F0 m pc ls rest) :: r)).frames)).setVm vm').setFrames (.java (F0 m h ls [.ref q]) :: r) = (T.setVm vm').setFrames (.java (F0 m h ls [.ref q]) :: r) := by
    rw [State.setFrames_setFrames]
    have h1 : (T.setFrames (.throwing q :: (T.setFrames (.java (F0 m pc ls rest) :: r)).frames)).setVm vm' = (T.setVm vm').setFrames (.throwing q :: (T.setFrames (.java (F0 m pc ls rest) :: r)).frames) := rfl
    rw [h1, State.setFrames_setFrames]
  rw [e1]
  exact a1
end HN
/-- a table's row out of words -/
theorem hn_yes {s : State} {args : Array Value} {pl : Platform} (hpl : pl.magicAccessors = ({} : Platform).magicAccessors) {own nm E : String} {d : ClassId} {pc : Nat} {ce : Cell} {x : ExceptionTableEntry} {t : List ExceptionTableEntry} (hown : s.vm.findClass own = some d) (hx : covers x pc = true) (h0 : x.catchType ≠ 0) (hl : (Cond.classLink own x.catchType nm).before args s = true) (hcl : s.vm.findClass E = some ce.cls) (hc : va_Nw (.castable E nm) s) : hn_T s pl d pc ce.cls x.handlerPc (x :: t) := by
  obtain ⟨c5, hc5, hcl5⟩ := Cond.classLink_spec hown hl pl hpl
  obtain ⟨c3, c4, hc3, hc4, hasg⟩ := Cond.castable_spec (va_Nw.use (A := args) rfl hc)
  cases Option.some.inj (hc3.symm.trans hcl)
  cases Option.some.inj (hc4.symm.trans hc5)
  exact Or.inr ⟨hx, h0, _, hcl5, Or.inl ⟨hasg, rfl⟩⟩
theorem hn_no {s : State} {args : Array Value} {pl : Platform} (hpl : pl.magicAccessors = ({} : Platform).magicAccessors) {own nm E : String} {d : ClassId} {pc h : Nat} {ce : Cell} {x : ExceptionTableEntry} {t : List ExceptionTableEntry} (hown : s.vm.findClass own = some d) (hx : covers x pc = true) (h0 : x.catchType ≠ 0) (hl : (Cond.classLink own x.catchType nm).before args s = true) (hcl : s.vm.findClass E = some ce.cls) (hc : va_Nc E nm s) (k : hn_T s pl d pc ce.cls h t) : hn_T s pl d pc ce.cls h (x :: t) := by
  obtain ⟨c5, hc5, hcl5⟩ := Cond.classLink_spec hown hl pl hpl
  obtain ⟨c3, c4, hc3, hc4, hasg⟩ := hc
  cases Option.some.inj (hc3.symm.trans hcl)
  cases Option.some.inj (hc4.symm.trans hc5)
  exact Or.inr ⟨hx, h0, _, hcl5, Or.inr ⟨hasg, k⟩⟩
