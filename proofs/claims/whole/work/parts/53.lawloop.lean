/-! THE CLAIM OUT OF ONE WALK OF THE LAW'S BODY. Your part is whole_start (and what it stands on); all else here is the same for every law, but numbers. -/
def R_law : String := "LaneAtBorderLaw"
def lw_P (b : Addr) (xs : List Int32) (args : Array Value) (s : State) : Prop := args = #[.ref b] ∧ s.IntsAt b xs ∧ xs.length ≤ 384 ∧ (Jvm.Cond.and given_1 narrow_1).before args s = true
def lw_Q (_ : Array Value) (s : State) (o : Outcome) (t : State) : Prop := o = .returned (some (.int 1)) ∧ Framed s o t [] 600128 7301098
def lw_Z (below : List Frame) (a : Array Value) (s : State) : State → Prop := fun t => ∃ o, t.status = .running ∧ Ended t below o ∧ lw_Q a s o t
/-- the law's own end, with 1 on the stack, nothing written that was there before, its room as the claim has it -/
theorem lw_ret {p : Program} {l : Launch} {e : Env} {s : State} {m : MethodId} {below : List Frame} {meth : Method} {c : Code} {b : Nat} (hx : p.tables.exec = Jvm.exec) (hb : c.code = code) (hr : meth.sig.returnType = ret) (hlocks : meth.locks = false) {pc : Nat} {H : Heap} {ls : Array Slot} (hdg : decode code pc = .ok (.ireturn, 1)) : W p l e room_1 s m #[Value.ref b] below meth c H [] 600128 7301098 (lw_Z below #[Value.ref b] s) (F0 m pc ls [.int 1]) := by
  intro T hT X
  obtain ⟨fs, hret, hrun, hended, hW, hframe⟩ := X.leave (v := some (.int 1)) (hlocks := hlocks) (fun h => by rw [hr] at h; cases h)
  have hmeth' : T.vm.method? m = some meth := X.method'
  refine ⟨T.setFrames fs, ?_, .returned (some (.int 1)), hrun, hended, rfl, ⟨_, rfl⟩, hW, hframe⟩
  jvm_step X.here [X.here.top, hx, hb, hdg, hmeth', hr, ret, narrow_b1]
  (try refine ⟨rfl, ?_⟩); (try refine ⟨rfl, ?_⟩)
  first | (intro acts; rw [hret _ acts rfl rfl rfl]) | rw [hret _ _ rfl rfl rfl]
  exact Steps.refl _
/-- what holds at the law's entry: the machine, the code, the tables' words (any of lw_tbl by 'hts w (by decide +kernel)'), the script of L ints xs at the cell b, what the Statement gives of the start (any of its parts by flat_of_before) -/
def lw_At (p : Program) (s : State) (m : MethodId) (meth : Method) (c : Code) (b L : Nat) (xs : Nat → Int32) : Prop :=
  p.tables.exec = Jvm.exec ∧ c.code = code ∧ meth.sig.returnType = ret ∧ c.maxLocals = 8 ∧ s.vm.findClass R_law = some m.cls ∧ (∀ w ∈ lw_tbl, w.before #[Value.ref b] s = true) ∧ va_X b L xs s s.heap ∧ b < s.heap.size ∧ meth.locks = false ∧ (Jvm.Cond.and given_1 narrow_1).before #[Value.ref b] s = true
/-! ===== the law: its loop ===== -/
theorem L_six {L n : Nat} (hL : L ≤ 384) (hn : n ≤ 64) (h : ¬ nI L - 6 < nI (6 * n)) : 6 * n + 5 < L := by
  have h6 : (6 : Int32) = nI 6 := rfl
  by_cases h1 : 6 ≤ L
  · rw [h6, su_n h1] at h
    rcases Nat.lt_or_ge (L - 6) (6 * n) with q | q
    · exact absurd (nI_lt q (by omega)) h
    · omega
  · refine absurd ?_ h
    rw [Int32.lt_iff_toInt_lt, nI_toInt (show 6 * n < 2 ^ 31 by omega)]
    have hneg : (nI L - 6).toInt < 0 := by
      rcases (show L = 0 ∨ L = 1 ∨ L = 2 ∨ L = 3 ∨ L = 4 ∨ L = 5 by omega) with rfl | rfl | rfl | rfl | rfl | rfl <;> decide
    omega
section Ll
variable {p : Program} {l : Launch} {e : Env} {s : State} {m : MethodId} {below : List Frame} {meth : Method} {c : Code}
variable {Γ : gG} {ac am : Nat → Nat} {ao b L : Nat} {xs : Nat → Int32}
set_option maxHeartbeats 4000000 in
set_option maxRecDepth 100000 in
theorem law_loop (hl0 : l.stackTraces = false) (F : Lf Γ p s m meth c b L xs) (P : Lp Γ s ac am ao) (hL : L ≤ 384) : ∀ (k n : Nat), L < 6 * (n + k) → 6 * n ≤ L → ∀ (Sc : cM) (Sm : mM) (x : Xx) (im : Option Xx) (sh : Nat → Sh) (o : Nat → Int64) (H : Heap) (locs : List Loc) (ls : Array Slot), Rl Sc Sm x im sh → Lh Γ s ac am ao Sc Sm o H locs → lv_has ls 8 (lws b ac am ao n) → W p l e room_1 s m #[Value.ref b] below meth c H locs (103 + n) (2915 + 6 * n) (lw_Z below #[Value.ref b] s) (F0 m 23 ls []) := by
  intro k
  induction k with
  | zero =>
    intro n hk hn
    exact absurd hk (by omega)
  | succ k ih =>
    intro n hk hn Sc Sm x im sh o H locs ls R hH hl
    obtain ⟨⟨hx, hb, hml, hown, hts⟩, hr, hlk, hX, hT, hZ, hS0, hbl⟩ := id F
    refine lv_iload hx hb dL_law_23 (lv_at hl 4 rfl) ?_
    refine lv_aload_n hx hb dL_law_25 rfl (lv_at hl 0 rfl) ?_
    refine va_slen hx hb hS0 hbl (Nat.not_le.mpr hbl) hH.2.2.2 dL_law_26 ?_
    refine lv_bipush (v := 6) hx hb dL_law_27 rfl ?_
    refine lv_isub hx hb dL_law_29 ?_
    refine lv_icmp_gt (tgt := 1597) hx hb dL_law_30 (by decide) (fun _ => ?_) (fun hc => ?_)
    · refine lv_iconst (v := 1) hx hb dL_law_1597 rfl ?_
      refine W.widen (k := 600128) (n := 7301098) (by omega) (by omega) ?_
      exact va_forget hH.2.2.2.2.2 (lw_ret hx hb hr hlk dL_law_1598)
    · have h6 := L_six hL (by omega) hc
      refine lv_aload_n hx hb dL_law_33 rfl (lv_at hl 0 rfl) ?_
      refine lv_iload hx hb dL_law_34 (lv_at hl 4 rfl) ?_
      refine va_sld hx hb hS0 hbl (Nat.not_le.mpr hbl) hH.2.2.2 (nI_in (show 6 * n < L by omega) (by omega)) dL_law_36 ?_
      refine lv_bipush (v := 63) hx hb dL_law_37 rfl ?_
      refine lv_iand hx hb dL_law_39 ?_
      refine L_switch hl0 F P hH R hL h6 hl ⟨show 103 + n + 1 ≤ 600128 by omega, show 2915 + 6 * n + 6 ≤ 7301098 by omega⟩ ?_ _
      intro Sc Sm x im sh o H locs ls R hH hl
      refine lv_iinc (v := nI (6 * (n + 1))) (lv' := [(4, .int (nI (6 * (n + 1)))), (0, .ref b), (1, .ref (ac 0)), (2, .ref (am 0)), (3, .ref ao)]) hx hb dL_law_1591 hl (k := 4) rfl (show nI (6 * n) + nI 6 = _ by rw [nI_add]; rfl) (by decide) rfl (fun ls hl => ?_)
      refine lv_goto (tgt := 23) hx hb dL_law_1594 (by decide) ?_
      have h := ih (n + 1) (by omega) (by omega) Sc Sm x im sh o H locs ls R hH (lv_sub hl [1, 2, 3, 4, 0] rfl)
      rw [show 2915 + 6 * (n + 1) = 2915 + 6 * n + 6 by omega] at h
      exact h
end Ll
