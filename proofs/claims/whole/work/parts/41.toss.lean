/-! ===== toss, element: at the machine ===== -/
section Tx
variable {p : Program} {l : Launch} {e : Env} {R : Room} {s : State} {m : MethodId} {args : Array Value} {below : List Frame} {meth : Method} {c : Code} {H : Heap} {locs : List Loc} {cells slots : Nat} {Q : State → Prop}
variable {Γ : gG} {N : Nat} {E : Nat → va_E} {own : String} {cc : ByteArray} {nL : Nat} {ret : Option FieldType} {pc : Nat} {ls : Array Slot} {rest : List Value}
theorem gPt_at {av : List Value} {U : State} (hP : St Γ N E s.heap H locs) (hX : wX Γ s) (hI : wI Γ N) (hT : wT s) (hZ : wZ (wA Γ N) s s.heap) (hU : U.heap = H) (hW : s.WarmedH U.vm) : gPt Γ N E av av.toArray U :=
  ⟨rfl, by rw [hU]; exact hP.1, hX.warm hW, hI, hT.warm hW, by rw [hU]; exact (hZ.kept hP.2.2.1).moved hW.alike⟩
theorem runSx {y : MethodName} {bc : ByteArray} {mL fr lo index n : Nat} {rt : Option FieldType} {av : List Value} {Qc : Array Value → State → Outcome → State → Prop} {XC : String → State → State → Prop} {Cn : String} (hM : vx_Met l y (gW y bc mL rt) { frames := fr, cells := 1, slots := 6, locals := lo } (gPt Γ N E av) Qc XC 1 6 (wA Γ N)) (C : Cx Γ N p s m args meth c own cc nL ret) (hP : St Γ N E s.heap H locs) (hT : wT s) (hZ : wZ (wA Γ N) s s.heap) (hls : ls.size = nL) (k1 : Cond.methodLink own index y ∈ Ub) (k2 : Cond.static y ∈ Ub) (k4 : Cond.initialized Cn ∈ Ub) (k5 : Cond.code y bc mL rt ∈ Ub) (hn : av.length = n) (hd : y.cls = Cn ∧ y.cls ≠ "java/lang/invoke/MethodHandle" ∧ y.cls ≠ "java/lang/invoke/VarHandle" ∧ (parseMethodDescriptor y.desc).map (fun d => d.parameters.length) = some n) (hR : fr + 1 ≤ R.frames ∧ 8 + (mL + 11) + lo ≤ R.locals) (hcs : cells + 1 ≤ R.cells ∧ slots + 6 ≤ R.slots) (hst : (rest.map fun v => v.category).sum ≤ 8) (hdg : decode cc pc = .ok (.invokestatic index, 3)) :
    vx_Run p l e R s m args below meth c H locs cells slots 1 6 (F0 m pc ls (av.reverse ++ rest)) rest (Qc av.toArray) XC (wA Γ N) := by
  obtain ⟨hx, hb, -, hml, hown, hts, -, hX, hI⟩ := C
  obtain ⟨hC, hd⟩ := hd
  subst hC
  have g : GoodIn Ub (gW y bc mL rt) := gU (ws := []) k5 (by intro w hw; simp at hw)
  exact vx_runS (nL := nL) (Ts := Ub) (own := own) ⟨hx, hb, hml, hown, hts⟩ hM ⟨callB_of n hts g rfl rfl rfl (hts _ k4) (hts _ k1) hd hR, hts _ k2⟩ ⟨gPt_blind, fun U hU hW => gPt_at hP hX hI hT hZ hU hW⟩ rfl hn hls rfl (lv_room hst) hdg hcs
theorem runVx {y : MethodName} {bc : ByteArray} {mL fr lo index n : Nat} {rt : Option FieldType} {av : List Value} {Qc : Array Value → State → Outcome → State → Prop} {XC : String → State → State → Prop} {Cn : String} {b ci : Nat} {fs : List Value} {T : u_T} {Nf : Nat} (hM : vx_Met l y (gW y bc mL rt) { frames := fr, cells := 1, slots := 6, locals := lo } (gPt Γ N E (.ref (Γ.2.2 b) :: av)) Qc XC 1 6 (wA Γ N)) (C : Cx Γ N p s m args meth c own cc nL ret) (hP : St Γ N E s.heap H locs) (hT : wT s) (hZ : wZ (wA Γ N) s s.heap) (hls : ls.size = nL) (hb1 : b < N) (he : E b = .inr (ci, fs)) (hc : vwCl[ci]? = some (Cn, T, Nf)) (k1 : Cond.methodLink own index y ∈ Ub) (k2 : Cond.instanceMethod y ∈ Ub) (k3 : Cond.selects Cn y y ∈ Ub) (k4 : Cond.initialized Cn ∈ Ub) (k5 : Cond.code y bc mL rt ∈ Ub) (hn : av.length = n) (hd : y.cls = Cn ∧ y.cls ≠ "java/lang/invoke/MethodHandle" ∧ y.cls ≠ "java/lang/invoke/VarHandle" ∧ (parseMethodDescriptor y.desc).map (fun d => d.parameters.length) = some n) (hR : fr + 1 ≤ R.frames ∧ 8 + (mL + 11) + lo ≤ R.locals) (hcs : cells + 1 ≤ R.cells ∧ slots + 6 ≤ R.slots) (hst : (rest.map fun v => v.category).sum ≤ 8) (hdg : decode cc pc = .ok (.invokevirtual index, 3)) :
    vx_Run p l e R s m args below meth c H locs cells slots 1 6 (F0 m pc ls (av.reverse ++ .ref (Γ.2.2 b) :: rest)) rest (Qc (Value.ref (Γ.2.2 b) :: av).toArray) XC (wA Γ N) := by
  obtain ⟨hx, hb, -, hml, hown, hts, -, hX, hI⟩ := C
  have g : GoodIn Ub (wsV own index Cn y (gW y bc mL rt)) := gU (ws := [.methodLink own index y, .instanceMethod y, .selects Cn y y, .initialized Cn]) k5 (by intro w hw; simp only [List.mem_cons, List.not_mem_nil, or_false] at hw; rcases hw with rfl | rfl | rfl | rfl <;> assumption)
  exact vx_runV (nL := nL) (Ts := Ub) (own := own) ⟨hx, hb, hml, hown, hts⟩ hM (cwV n hts g rfl rfl rfl hd hR) ⟨gPt_blind, va_recv hX.1 hP.1 hc (wl_as hb1 he), fun U hU hW => gPt_at hP hX hI hT hZ hU hW⟩ rfl hn hls rfl (lv_room hst) hdg hcs
end Tx
theorem qX2_fail : yX2_fail.cls = RX2 ∧ yX2_fail.cls ≠ "java/lang/invoke/MethodHandle" ∧ yX2_fail.cls ≠ "java/lang/invoke/VarHandle" ∧ (parseMethodDescriptor yX2_fail.desc).map (fun d => d.parameters.length) = some 2 := by decide +kernel
def fX5_toss (S : cM) (x1 : Int32) : Option (Int32 × cM) :=
  bd (fX5_keptLaneRefusal S x1) fun v1 S1 => ( if v1 = 0 then gi x1 8 (if (S1.1 (53 + (x1).toNatClampNeg) 2) = nI 7 ∨ (S1.1 (53 + (x1).toNatClampNeg) 3) = 0 then some ((-15), S1) else if (S1.1 (53 + (x1).toNatClampNeg) 2) = nI 3 then some ((S1.1 (53 + (x1).toNatClampNeg) 1) + nI 100, S1) else if (S1.1 (53 + (x1).toNatClampNeg) 2) = nI 6 then bd (fX2_toPay S1 (S1.1 (53 + (x1).toNatClampNeg) 2) (S1.1 (53 + (x1).toNatClampNeg) 3)) fun v7 S7 => ( some (nI 200 + v7, S7)) else some ((S1.1 (53 + (x1).toNatClampNeg) 1), S1)) else some (v1, S1))
abbrev tsH : List (Nat × Nat × Nat × Nat) := [(19, 30, 33, 324), (19, 30, 43, 284), (19, 30, 61, 291)]
set_option maxHeartbeats 4000000 in
set_option maxRecDepth 100000 in
theorem x_toss (l : Launch) (hl0 : l.stackTraces = false) (Γ : gG) {S : cM} {x1 : Int32} {rz : Int32} {Sz : cM} (hf : fX5_toss S x1 = some (rz, Sz)) : Met l yX5_toss (Cond.codeWith yX5_toss cX5_toss 5 (some .int) tsH :: Ub) { frames := 7, cells := 1, slots := 6, locals := 120 } (gPt Γ 74 (cE Γ S) [.ref (Γ.2.2 (0)), .int x1]) (gQi Γ 74 rz (cE Γ Sz)) 1 6 (wA Γ 74) := by
  refine met_bodyW (Γ := Γ) (lv := [(0, .ref (Γ.2.2 (0))), (1, .int x1)]) RX5 (by decide) rfl rfl rfl ?_
  intro p e s m below meth c H locs ls C hP hT hZ htab hl
  obtain ⟨hx, hb, -, -, hown, hts, -, hwx, -⟩ := id C
  obtain ⟨-, -, ⟨c1, c2, c3⟩, n1, n2, n3⟩ := id hT
  unfold fX5_toss at hf
  refine lv_aload_n hx hb dX5_toss_0 rfl (lv_at hl 0 rfl) ?_
  refine lv_iload_n hx hb dX5_toss_1 rfl (lv_at hl 1 rfl) ?_
  refine bd_i hf (fun v1 S1 hq1 hf => ?_)
  refine goI (runV (rest := []) (b := 0) (mX5_keptLaneRefusal l Γ  hq1) C hP hl.1 (by decide) cE0 rfl k3_157 qX5_keptLaneRefusal.1 qX5_keptLaneRefusal.2.1 qX5_keptLaneRefusal.2.2.1 qX5_keptLaneRefusal.2.2.2.1 rfl qX5_keptLaneRefusal.2.2.2.2 ⟨Nat.le_of_ble_eq_true rfl, Nat.le_of_ble_eq_true rfl⟩ ⟨Nat.zero_le _, Nat.zero_le _⟩ (Nat.le_of_ble_eq_true rfl) dX5_toss_2) hP (fun H locs hP => ?_)
  refine lv_istore_n (lv' := [(2, .int v1), (0, .ref (Γ.2.2 (0))), (1, .int x1)]) hx hb dX5_toss_5 rfl hl (by decide) rfl (fun ls hl => ?_)
  refine lv_iload_n hx hb dX5_toss_6 rfl (lv_at hl 0 rfl) ?_
  refine lv_if_eq (tgt := 12) hx hb dX5_toss_7 (by decide) (fun hc2 => ?_) (fun hc2 => ?_)
  · have hf := if_t hc2 hf
    refine lv_aload_n hx hb dX5_toss_12 rfl (lv_at hl 1 rfl) ?_
    refine c0_get C hP 4 (by decide) k1_131 rfl (v := .ref (Γ.2.2 (52))) rfl dX5_toss_13 ?_
    refine lv_iload_n hx hb dX5_toss_16 rfl (lv_at hl 2 rfl) ?_
    refine gi_i hf (fun hi3 hj4 hf => ?_)
    refine c_aldS C hP hi3 dX5_toss_17 ?_
    refine lv_astore_n (lv' := [(3, .ref (Γ.2.2 (53 + (x1).toNatClampNeg))), (2, .int v1), (0, .ref (Γ.2.2 (0))), (1, .int x1)]) hx hb dX5_toss_18 rfl hl (by decide) rfl (fun ls hl => ?_)
    refine lv_aload_n hx hb dX5_toss_19 rfl (lv_at hl 0 rfl) ?_
    refine c4_get C hP (by omega) 2 (by decide) k1_101 rfl (v := .int (S1.1 (53 + (x1).toNatClampNeg) 2)) rfl dX5_toss_20 ?_
    refine lv_aload_n hx hb dX5_toss_23 rfl (lv_at hl 0 rfl) ?_
    refine c4_get C hP (by omega) 3 (by decide) k1_103 rfl (v := .int (S1.1 (53 + (x1).toNatClampNeg) 3)) rfl dX5_toss_24 ?_
    refine vx_callv (A0 := wA Γ 74) (A1 := wA Γ 74) (runSx (rest := []) (x_fail l hl0 Γ) C hP hT hZ hl.1 k3_171 k3_172 k1_8 k3_173 rfl qX2_fail ⟨Nat.le_of_ble_eq_true rfl, Nat.le_of_ble_eq_true rfl⟩ ⟨Nat.le_refl 1, Nat.le_refl 6⟩ (Nat.le_of_ble_eq_true rfl) dX5_toss_27) hP.2 (fun q _ h => h) (fun q h => h) (fun q _ h => h) (fun X ce q9 u t H1 locs1 ht hvm _ hB hz1 hk1 hS1 hce hcv hcl => ?_) (fun u t H1 locs1 ht hvm hw hB hz1 hk1 hS1 => ?_)
    · obtain ⟨⟨hno, rfl⟩, hPt⟩ := hB
      have hP1 : St Γ 74 (cE Γ S1) s.heap H1 locs1 := ⟨by rw [← ht]; exact hPt, hS1⟩
      have hf := if_f hno hf
      by_cases h3 : S1.1 (53 + (x1).toNatClampNeg) 2 = nI 3
      · have hf := if_t h3 hf
        rw [show flE (S1.1 (53 + (x1).toNatClampNeg) 2) = nU by unfold flE; rw [if_pos h3]] at hcl
        refine hn_in (h := 33) (E := nU) (fun pl hpl => ?_) hce hcv hcl ?_
        · rw [htab]
          exact hn_yes (x := ⟨19, 30, 33, 324⟩) hpl hown (by decide) (by decide) (hts _ k3_168) hcl c1
        · refine lv_astore (lv' := [(4, .ref q9), (3, .ref (Γ.2.2 (53 + (x1).toNatClampNeg))), (2, .int v1), (0, .ref (Γ.2.2 (0))), (1, .int x1)]) hx hb dX5_toss_33 hl (by decide) rfl (fun ls hl => ?_)
          refine lv_aload_n hx hb dX5_toss_35 rfl (lv_at hl 1 rfl) ?_
          refine c4_get C hP1 (by omega) 1 (by decide) k1_99 rfl (v := .int (S1.1 (53 + (x1).toNatClampNeg) 1)) rfl dX5_toss_36 ?_
          refine lv_bipush (v := nI 100) hx hb dX5_toss_39 rfl ?_
          refine lv_iadd hx hb dX5_toss_41 ?_
          exact iret16 (X := cE Γ) C hP1 hf dX5_toss_42
      · have hf := if_f h3 hf
        by_cases h6 : S1.1 (53 + (x1).toNatClampNeg) 2 = nI 6
        · have hf := if_t h6 hf
          rw [show flE (S1.1 (53 + (x1).toNatClampNeg) 2) = nA by unfold flE; rw [if_neg h3, if_pos h6]] at hcl
          refine hn_in (h := 43) (E := nA) (fun pl hpl => ?_) hce hcv hcl ?_
          · rw [htab]
            exact hn_no (x := ⟨19, 30, 33, 324⟩) hpl hown (by decide) (by decide) (hts _ k3_168) hcl n1 (hn_yes (x := ⟨19, 30, 43, 284⟩) hpl hown (by decide) (by decide) (hts _ k3_169) hcl c2)
          · refine lv_astore (lv' := [(4, .ref q9), (3, .ref (Γ.2.2 (53 + (x1).toNatClampNeg))), (2, .int v1), (0, .ref (Γ.2.2 (0))), (1, .int x1)]) hx hb dX5_toss_43 hl (by decide) rfl (fun ls hl => ?_)
            refine lv_sipush (v := nI 200) hx hb dX5_toss_45 rfl ?_
            refine lv_aload_n hx hb dX5_toss_48 rfl (lv_at hl 1 rfl) ?_
            refine c4_get C hP1 (by omega) 2 (by decide) k1_101 rfl (v := .int (S1.1 (53 + (x1).toNatClampNeg) 2)) rfl dX5_toss_49 ?_
            refine lv_aload_n hx hb dX5_toss_52 rfl (lv_at hl 1 rfl) ?_
            refine c4_get C hP1 (by omega) 3 (by decide) k1_103 rfl (v := .int (S1.1 (53 + (x1).toNatClampNeg) 3)) rfl dX5_toss_53 ?_
            refine bd_i hf (fun v7 S7 hq7 hf => ?_)
            refine goI (runS (rest := [.int (nI 200)]) (mX2_toPay l Γ  hq7) C hP1 hl.1 k3_161 qX2_toPay.1 qX2_toPay.2.1 qX2_toPay.2.2.1 rfl qX2_toPay.2.2.2 ⟨Nat.le_of_ble_eq_true rfl, Nat.le_of_ble_eq_true rfl⟩ ⟨Nat.le_refl 1, Nat.le_refl 6⟩ (Nat.le_of_ble_eq_true rfl) dX5_toss_56) hP1 (fun H locs hP => ?_)
            refine lv_iadd hx hb dX5_toss_59 ?_
            exact iret16 (X := cE Γ) C hP hf dX5_toss_60
        · have hf := if_f h6 hf
          rw [show flE (S1.1 (53 + (x1).toNatClampNeg) 2) = nS by unfold flE; rw [if_neg h3, if_neg h6]] at hcl
          refine hn_in (h := 61) (E := nS) (fun pl hpl => ?_) hce hcv hcl ?_
          · rw [htab]
            exact hn_no (x := ⟨19, 30, 33, 324⟩) hpl hown (by decide) (by decide) (hts _ k3_168) hcl n2 (hn_no (x := ⟨19, 30, 43, 284⟩) hpl hown (by decide) (by decide) (hts _ k3_169) hcl n3 (hn_yes (x := ⟨19, 30, 61, 291⟩) hpl hown (by decide) (by decide) (hts _ k3_170) hcl c3))
          · refine lv_astore (lv' := [(4, .ref q9), (3, .ref (Γ.2.2 (53 + (x1).toNatClampNeg))), (2, .int v1), (0, .ref (Γ.2.2 (0))), (1, .int x1)]) hx hb dX5_toss_61 hl (by decide) rfl (fun ls hl => ?_)
            refine lv_aload_n hx hb dX5_toss_63 rfl (lv_at hl 1 rfl) ?_
            refine c4_get C hP1 (by omega) 1 (by decide) k1_99 rfl (v := .int (S1.1 (53 + (x1).toNatClampNeg) 1)) rfl dX5_toss_64 ?_
            exact iret16 (X := cE Γ) C hP1 hf dX5_toss_67
    · have hf := if_t hw hf
      have hP1 : St Γ 74 (cE Γ S1) s.heap H1 locs1 := ⟨by rw [← ht]; exact hB, hS1⟩
      refine lv_goto (tgt := 68) hx hb dX5_toss_30 (by decide) ?_
      refine lv_bipush (v := (-15)) hx hb dX5_toss_68 rfl ?_
      exact iret16 (X := cE Γ) C hP1 hf dX5_toss_70
  · have hf := if_f hc2 hf
    refine lv_iload_n hx hb dX5_toss_10 rfl (lv_at hl 0 rfl) ?_
    refine W.widen (k := 1) (n := 6) (by omega) (by omega) ?_
    exact iret16 (X := cE Γ) C hP hf dX5_toss_11
/-- what ELEMENT does: 0 and the number, or 1 or 2: which throw -/
def fX5_element (S : cM) (x1 x2 : Int32) : Option (Nat × Int64 × cM) :=
  bd (fX5_isShelf S x1) fun v1 S1 => ( if v1 = 0 then some (1, 0, S1) else gi x1 8 (bd (fX4_hasElement (53 + (x1).toNatClampNeg) S1 x2) fun v2 S2 => ( if v2 = 0 then some (2, 0, S2) else gi x1 8 (gi x2 100 (some (0, (S2.1 (53 + (x1).toNatClampNeg + 8) (x2).toNatClampNeg).toInt64, S2))))))
def elT (k : Nat) (X : String) : Prop := (k = 1 ∧ X = nA) ∨ (k = 2 ∧ X = nS)
set_option maxHeartbeats 4000000 in
set_option maxRecDepth 100000 in
theorem x_element (l : Launch) (hl0 : l.stackTraces = false) (Γ : gG) {S : cM} {x1 x2 : Int32} {k : Nat} {v : Int64} {Sz : cM} (hf : fX5_element S x1 x2 = some (k, v, Sz)) : vx_Met l yX5_element (gW yX5_element cX5_element 3 (some .long)) { frames := 6, cells := 1, slots := 6, locals := 90 } (gPt Γ 74 (cE Γ S) [.ref (Γ.2.2 (0)), .int x1, .int x2]) (va_Ql (fun r (_ : Unit) => k = 0 ∧ r = v) (fun _ t => va_P Γ.1 vwCl (wl Γ 74 (cE Γ Sz)) t.heap) (wA Γ 74)) (gTh Γ 74 (cE Γ Sz) (elT k)) 1 6 (wA Γ 74) := by
  refine met_bodyX (Γ := Γ) (lv := [(0, .ref (Γ.2.2 (0))), (1, .int x1), (2, .int x2)]) RX5 (by decide) rfl rfl rfl ?_
  intro p e s m below meth c H locs ls C hP hT hZ htab hl
  obtain ⟨hx, hb, hr, -, hown, hts, hlk, hwx, -⟩ := id C
  obtain ⟨⟨-, -, -, t4, t5⟩, td, ⟨c1, c2, c3⟩, -⟩ := id hT
  unfold fX5_element at hf
  refine lv_iload_n hx hb dX5_element_0 rfl (lv_at hl 1 rfl) ?_
  refine bd_i hf (fun v1 S1 hq1 hf => ?_)
  refine goI (runS (rest := []) (mX5_isShelf l Γ  hq1) C hP hl.1 k1_174 qX5_isShelf.1 qX5_isShelf.2.1 qX5_isShelf.2.2.1 rfl qX5_isShelf.2.2.2 ⟨Nat.le_of_ble_eq_true rfl, Nat.le_of_ble_eq_true rfl⟩ ⟨Nat.zero_le _, Nat.zero_le _⟩ (Nat.le_of_ble_eq_true rfl) dX5_element_1) hP (fun H locs hP => ?_)
  refine lv_if_ne (tgt := 18) hx hb dX5_element_4 (by decide) (fun hc2 => ?_) (fun hc2 => ?_)
  · have hf := if_f hc2 hf
    refine lv_aload_n hx hb dX5_element_18 rfl (lv_at hl 0 rfl) ?_
    refine c0_get C hP 4 (by decide) k1_131 rfl (v := .ref (Γ.2.2 (52))) rfl dX5_element_19 ?_
    refine lv_iload_n hx hb dX5_element_22 rfl (lv_at hl 1 rfl) ?_
    refine gi_i hf (fun hi3 hj4 hf => ?_)
    refine c_aldS C hP hi3 dX5_element_23 ?_
    refine lv_iload_n hx hb dX5_element_24 rfl (lv_at hl 2 rfl) ?_
    refine bd_i hf (fun v2 S2 hq2 hf => ?_)
    refine goI (runV (rest := []) (b := 53 + (x1).toNatClampNeg) (mX4_hasElement l Γ (by omega) hq2) C hP hl.1 (by omega) (cE4 (by omega)) rfl k3_139 qX4_hasElement.1 qX4_hasElement.2.1 qX4_hasElement.2.2.1 qX4_hasElement.2.2.2.1 rfl qX4_hasElement.2.2.2.2 ⟨Nat.le_of_ble_eq_true rfl, Nat.le_of_ble_eq_true rfl⟩ ⟨Nat.zero_le _, Nat.zero_le _⟩ (Nat.le_of_ble_eq_true rfl) dX5_element_25) hP (fun H locs hP => ?_)
    refine lv_if_ne (tgt := 42) hx hb dX5_element_28 (by decide) (fun hc5 => ?_) (fun hc5 => ?_)
    · have hf := if_f hc5 hf
      refine lv_aload_n hx hb dX5_element_42 rfl (lv_at hl 0 rfl) ?_
      refine c0_get C hP 4 (by decide) k1_131 rfl (v := .ref (Γ.2.2 (52))) rfl dX5_element_43 ?_
      refine lv_iload_n hx hb dX5_element_46 rfl (lv_at hl 1 rfl) ?_
      refine gi_i hf (fun hi6 hj7 hf => ?_)
      refine c_aldS C hP hi6 dX5_element_47 ?_
      refine c4_get C hP (by omega) 6 (by decide) k1_111 rfl (v := .ref (Γ.2.2 (53 + (x1).toNatClampNeg + 8))) rfl dX5_element_48 ?_
      refine lv_iload_n hx hb dX5_element_51 rfl (lv_at hl 2 rfl) ?_
      refine gi_i hf (fun hi8 hj9 hf => ?_)
      refine c_ild C hP (cA_va (by omega)) hi8 dX5_element_52 ?_
      refine lv_i2l (v := (S2.1 (53 + (x1).toNatClampNeg + 8) (x2).toNatClampNeg).toInt64) hx hb dX5_element_53 rfl ?_
      cases hf
      refine W.widen (k := 1) (n := 6) (by omega) (by omega) (vx_ret ?_)
      exact W.lret hx hb hr (fun t ht hW => ⟨⟨_, (), rfl, ⟨rfl, rfl⟩, show va_P Γ.1 vwCl (wl Γ 74 (cE Γ Sz)) t.heap by rw [ht]; exact hP.1⟩, hP.2.F ht⟩) hP.2.2.2 dX5_element_54 hlk
    · have hf := if_t hc5 hf
      cases hf
      exact th_SW hl0 C hP hZ hl.1 htab (by decide +kernel) k3_170 k1_14 t5 at_eS bt_eS td c3 gd_eS (Or.inr ⟨rfl, rfl⟩) dX5_element_31 dX5_element_34 dX5_element_35 dX5_element_38 dX5_element_41 (Nat.le_of_ble_eq_true rfl) (Nat.le_of_ble_eq_true rfl) (Nat.le_refl _) (Nat.le_refl _)
  · have hf := if_t hc2 hf
    cases hf
    exact th_SW hl0 C hP hZ hl.1 htab (by decide +kernel) k3_169 k1_13 t4 at_eA bt_eA td c2 gd_eA (Or.inl ⟨rfl, rfl⟩) dX5_element_7 dX5_element_10 dX5_element_11 dX5_element_14 dX5_element_17 (Nat.le_of_ble_eq_true rfl) (Nat.le_of_ble_eq_true rfl) (Nat.le_refl _) (Nat.le_refl _)
