/-! ===== the law's own method ELEMENT ===== -/
abbrev elH : List (Nat × Nat × Nat × Nat) := [(0, 9, 12, 13), (0, 9, 16, 15)]
def eA (Γ : gG) (ac : Nat → Nat) (ao : Nat) : Nat → Prop := fun q => wA (gA Γ ac) 74 q ∨ q = ao
def ePc (Γ : gG) (ac : Nat → Nat) (ao : Nat) (S : cM) (o : Nat → Int64) (av : List Value) : Array Value → State → Prop := va_Pc av (fun U => va_P Γ.1 vwCl (wl (gA Γ ac) 74 (cE (gA Γ ac) S)) U.heap ∧ va_P Γ.1 vwCl (oW Γ ao o) U.heap ∧ wX Γ U ∧ wI (gA Γ ac) 74 ∧ ¬ wA (gA Γ ac) 74 ao ∧ wT U ∧ wZ (eA Γ ac ao) U U.heap)
theorem ePc_blind {Γ : gG} {ac : Nat → Nat} {ao : Nat} {S : cM} {o : Nat → Int64} {av : List Value} : FrameBlind (ePc Γ ac ao S o av) := fun _ _ _ _ q => ⟨q.1, q.2.1, q.2.2.1, q.2.2.2.1.same rfl, q.2.2.2.2.1, q.2.2.2.2.2.1, q.2.2.2.2.2.2.1.same rfl, wZ.moved (Vm.Alike.refl _) q.2.2.2.2.2.2.2⟩
def eQ (Γ : gG) (ac : Nat → Nat) (ao : Nat) (S : cM) (k : Nat) (v : Int64) : Array Value → State → Outcome → State → Prop := va_Qi (fun r (u : Nat → Int64) => r = nI k ∧ (k = 0 → u 0 = v)) (fun u t => va_P Γ.1 vwCl (wl (gA Γ ac) 74 (cE (gA Γ ac) S)) t.heap ∧ va_P Γ.1 vwCl (oW Γ ao u) t.heap) (eA Γ ac ao)
theorem qX5_el : yX5_element.cls = RX5 ∧ yX5_element.cls ≠ "java/lang/invoke/MethodHandle" ∧ yX5_element.cls ≠ "java/lang/invoke/VarHandle" ∧ (parseMethodDescriptor yX5_element.desc).map (fun d => d.parameters.length) = some 2 := by decide +kernel
theorem qL_el : yL_element.cls ≠ "java/lang/invoke/MethodHandle" ∧ yL_element.cls ≠ "java/lang/invoke/VarHandle" ∧ (parseMethodDescriptor yL_element.desc).map (fun d => d.parameters.length) = some 4 := by decide +kernel
set_option maxHeartbeats 4000000 in
set_option maxRecDepth 100000 in
theorem x_lawel (l : Launch) (hl0 : l.stackTraces = false) (Γ : gG) {ac : Nat → Nat} {ao : Nat} {S : cM} {o : Nat → Int64} {x1 x2 : Int32} {k : Nat} {v : Int64} {Sz : cM} (hk : k ≤ 2) (hf : fX5_element S x1 x2 = some (k, v, Sz)) : Met l yL_element (Cond.codeWith yL_element cL_element 5 (some .int) elH :: Ub) { frames := 7, cells := 1, slots := 6, locals := 112 } (ePc Γ ac ao S o [.ref (ac 0), .int x1, .int x2, .ref ao]) (eQ Γ ac ao Sz k v) 1 6 (eA Γ ac ao) := by
  refine va_MetW (cc := cL_element) (maxL := 5) (ret := some .int) (hh := elH) (by decide) rfl ?_
  intro p e s m args below meth c s₁ B hml hv'
  obtain ⟨rfl, h1, h2, hX, hI, hao, hT, hZ⟩ := hv'
  have hts' := atoms_spec (ws := Cond.codeWith yL_element cL_element 5 (some .int) elH :: Ub) B.pre
  have hts : ∀ w ∈ Ub, w.before [Value.ref (ac 0), .int x1, .int x2, .ref ao].toArray s = true := fun w h => hts' w (List.mem_cons_of_mem _ h)
  have hown : s.vm.findClass RL = some m.cls := findClass_of_methodNamed B.named
  have hx := B.exec
  have hb := B.bytes
  have hr := B.returns
  have hlk := B.notSynchronized
  have htab : c.exceptionTable.toList = tableOf elH := vx_table (x := yL_element) B (hts' _ List.mem_cons_self)
  have hl := lv_entry [Value.ref (ac 0), .int x1, .int x2, .ref ao] (n := 5) (Nat.le_of_ble_eq_true rfl)
  rw [lg_entry_eq]
  generalize (lg_sl [Value.ref (ac 0), .int x1, .int x2, .ref ao] ++ List.replicate (5 - (lg_sl [Value.ref (ac 0), .int x1, .int x2, .ref ao]).length) Slot.unset).toArray = ls at hl ⊢
  have hl : lv_has ls 5 [(0, .ref (ac 0)), (1, .int x1), (2, .int x2), (3, .ref ao)] := hl
  have hX' : wX (gA Γ ac) s := hX
  obtain ⟨-, -, ⟨c1, c2, c3⟩, n1, n2, n3⟩ := id hT
  have hZ' : wZ (wA (gA Γ ac) 74) s s.heap := hZ.narrow (fun z h => Or.inl h)
  have hS : va_S (eA Γ ac ao) s.heap s.heap [] := va_S.rf
  refine lv_aload_n hx hb dL_element_0 rfl (lv_at hl 3 rfl) ?_
  refine lv_iconst (v := 0) hx hb dL_element_1 rfl ?_
  refine lv_aload_n hx hb dL_element_2 rfl (lv_at hl 0 rfl) ?_
  refine lv_iload_n hx hb dL_element_3 rfl (lv_at hl 1 rfl) ?_
  refine lv_iload_n hx hb dL_element_4 rfl (lv_at hl 2 rfl) ?_
  have g : GoodIn Ub (wsV RL 7 RX5 yX5_element (gW yX5_element cX5_element 3 (some .long))) := gU (ws := [.methodLink RL 7 yX5_element, .instanceMethod yX5_element, .selects RX5 yX5_element yX5_element, .initialized RX5]) k4_42 (by intro w hw; simp only [List.mem_cons, List.not_mem_nil, or_false] at hw; rcases hw with rfl | rfl | rfl | rfl; exact k4_39; exact k4_40; exact k4_41; exact k1_1)
  refine vx_calll (A0 := eA Γ ac ao) (A1 := wA (gA Γ ac) 74) (vx_runV (nL := 5) (Ts := Ub) (own := RL) (As := [.int x1, .int x2]) (rest := [.int 0, .ref ao]) ⟨hx, hb, hml, hown, hts⟩ (x_element l hl0 (gA Γ ac) hf) (cwV 2 hts g rfl rfl rfl qX5_el ⟨Nat.le_of_ble_eq_true rfl, Nat.le_of_ble_eq_true rfl⟩) ⟨gPt_blind, va_recv hX'.1 h1 (ci := 3) (q0 := 0) rfl (wl_as (p := 0) (by omega) cE0), fun U hU hW => ⟨rfl, by rw [hU]; exact h1, hX'.warm hW, hI, hT.warm hW, by rw [hU]; exact hZ'.moved hW.alike⟩⟩ rfl rfl hl.1 rfl (lv_room (Nat.le_of_ble_eq_true rfl)) dL_element_5 ⟨Nat.le_refl 1, Nat.le_refl 6⟩) hS (fun q _ h => Or.inl h) (fun q h => Or.inl h) (fun q _ h => Or.inl h) (fun X ce q9 u t H1 locs1 ht hvm _ hB hz1 hk1 hS1 hce hcv hcl => ?_) (fun r u t H1 locs1 ht hvm hw hB hz1 hk1 hS1 => ?_)
  · obtain ⟨hth, hPt⟩ := hB
    rw [ht] at hPt
    have h2' : va_P Γ.1 vwCl (oW Γ ao o) H1 := pk_w h2 hk1 (fun k z hz h => hao (by rw [← oW_n hz]; exact h))
    rcases hth with ⟨rfl, rfl⟩ | ⟨rfl, rfl⟩
    · refine hn_in (h := 12) (E := nA) (fun pl hpl => ?_) hce hcv hcl ?_
      · rw [htab]
        exact hn_yes (x := ⟨0, 9, 12, 13⟩) hpl hown (by decide) (by decide) (hts _ k4_37) hcl c2
      · refine lv_astore (lv' := [(4, .ref q9), (0, .ref (ac 0)), (1, .int x1), (2, .int x2), (3, .ref ao)]) hx hb dL_element_12 hl (by decide) rfl (fun ls hl => ?_)
        refine lv_iconst (v := nI 1) hx hb dL_element_14 rfl ?_
        exact W.iret hx hb hr (fun t ht hW => ⟨⟨nI 1, o, rfl, ⟨rfl, fun q => absurd q (by decide)⟩, by rw [ht]; exact hPt, by rw [ht]; exact h2'⟩, hS1.F ht⟩) hS1.2.2 dL_element_15 hlk
    · refine hn_in (h := 16) (E := nS) (fun pl hpl => ?_) hce hcv hcl ?_
      · rw [htab]
        exact hn_no (x := ⟨0, 9, 12, 13⟩) hpl hown (by decide) (by decide) (hts _ k4_37) hcl n3 (hn_yes (x := ⟨0, 9, 16, 15⟩) hpl hown (by decide) (by decide) (hts _ k4_38) hcl c3)
      · refine lv_astore (lv' := [(4, .ref q9), (0, .ref (ac 0)), (1, .int x1), (2, .int x2), (3, .ref ao)]) hx hb dL_element_16 hl (by decide) rfl (fun ls hl => ?_)
        refine lv_iconst (v := nI 2) hx hb dL_element_18 rfl ?_
        exact W.iret hx hb hr (fun t ht hW => ⟨⟨nI 2, o, rfl, ⟨rfl, fun q => absurd q (by decide)⟩, by rw [ht]; exact hPt, by rw [ht]; exact h2'⟩, hS1.F ht⟩) hS1.2.2 dL_element_19 hlk
  · obtain ⟨rfl, rfl⟩ := hw
    rw [ht] at hB
    have h2' : va_P Γ.1 vwCl (oW Γ ao o) H1 := pk_w h2 hk1 (fun k z hz h => hao (by rw [← oW_n hz]; exact h))
    have hD : va_D (eA Γ ac ao) (oW Γ ao o ++ wl (gA Γ ac) 74 (cE (gA Γ ac) Sz)) := va_D.app ⟨fun i j a b hi hj _ => by
      have e1 := (List.getElem?_eq_some_iff.mp hi).1
      have e2 := (List.getElem?_eq_some_iff.mp hj).1
      simp at e1 e2
      omega, fun k q hk => Or.inr (oW_n hk)⟩ ((wl_D hI).weaken (fun k q _ h => Or.inl h)) (fun i j a b hi hj hab => hao (by rw [← oW_n hi, hab]; exact wl_wA hj))
    refine va_last (ws := oW Γ ao o ++ wl (gA Γ ac) 74 (cE (gA Γ ac) Sz)) (D := Γ.1) (cl := vwCl) (tys := gty Γ) hx hb hX.1 (va_P.app h2' hB) hD hS1 0 3 rfl rfl (by unfold vp_in; decide) dL_element_8 (fun H2 locs2 hP2 hD2 hS2 => ?_)
    obtain ⟨g1, g2⟩ := P_cons hP2
    refine lv_goto (tgt := 20) hx hb dL_element_9 (by decide) ?_
    refine lv_iconst (v := nI 0) hx hb dL_element_20 rfl ?_
    exact W.iret hx hb hr (fun t ht hW => ⟨⟨nI 0, vp_updL o (0 : Int32).toNatClampNeg _, rfl, ⟨rfl, fun _ => rfl⟩, by rw [ht]; exact g2, by rw [ht]; exact g1⟩, hS2.F ht⟩) hS2.2.2 dL_element_21 hlk
section Le
variable {p : Program} {l : Launch} {e : Env} {R : Room} {s : State} {m : MethodId} {below : List Frame} {meth : Method} {c : Code} {H : Heap} {locs : List Loc} {cells slots : Nat} {Q : State → Prop}
variable {Γ : gG} {ac am : Nat → Nat} {ao b L : Nat} {xs : Nat → Int32} {pc : Nat} {ls : Array Slot} {rest : List Value} {Sc : cM} {Sm : mM} {o : Nat → Int64}
theorem L_e {index : Nat} {x1 x2 : Int32} {k : Nat} {v : Int64} {Sc' : cM} (hl0 : l.stackTraces = false) (F : Lf Γ p s m meth c b L xs) (P : Lp Γ s ac am ao) (hH : Lh Γ s ac am ao Sc Sm o H locs) (hk : k ≤ 2) (hf : fX5_element Sc x1 x2 = some (k, v, Sc')) (hls : ls.size = 8) (k1 : Cond.methodLink RL index yL_element ∈ Ub) (hR : 8 ≤ R.frames ∧ 136 ≤ R.locals) (hcs : cells + 1 ≤ R.cells ∧ slots + 6 ≤ R.slots) (hst : (rest.map fun v => v.category).sum ≤ 8) (hdg : decode code pc = .ok (.invokestatic index, 3))
    (kk : ∀ (u : Nat → Int64) (H1 : Heap) (locs1 : List Loc), (k = 0 → u 0 = v) → Lh Γ s ac am ao Sc' Sm u H1 locs1 → W p l e R s m #[Value.ref b] below meth c H1 locs1 (cells + 1) (slots + 6) Q (F0 m (pc + 3) ls (.int (nI k) :: rest))) : W p l e R s m #[Value.ref b] below meth c H locs cells slots Q (F0 m pc ls (.ref ao :: .int x2 :: .int x1 :: .ref (ac 0) :: rest)) := by
  obtain ⟨⟨hx, hb, hml, hown, hts⟩, -, -, hX, hT, hZ, -, -⟩ := F
  obtain ⟨p1, p2, p3, p4, p5⟩ := P
  obtain ⟨h1, h2, h3, h4⟩ := hH
  have hE : ∀ z, eA Γ ac ao z → LA s z := fun z h => h.elim (fun h => (p3 z h).1) (fun h => by rw [h]; exact p5)
  have hao : ¬ wA (gA Γ ac) 74 ao := fun h => (p3 _ h).2.2 rfl
  have g : GoodIn Ub (va_wsS RL index yL_element (Cond.codeWith yL_element cL_element 5 (some .int) elH :: Ub)) := gU (ws := [.methodLink RL index yL_element, .static yL_element, .initialized yL_element.cls]) k4_36 (by intro w hw; simp only [List.mem_cons, List.not_mem_nil, or_false] at hw; rcases hw with rfl | rfl | rfl; exact k1; exact k4_35; exact k1_0)
  have hZ' : wZ (eA Γ ac ao) s H := (hZ.kept h4.2.1).narrow hE
  refine va_calli (A0 := LA s) (A1 := eA Γ ac ao) (vx_runSW (nL := 8) (Ts := Ub) (own := RL) (As := [.ref (ac 0), .int x1, .int x2, .ref ao]) (rest := rest) ⟨hx, hb, hml, hown, hts⟩ (x_lawel l hl0 Γ (o := o) (ac := ac) (ao := ao) hk hf) (vx_cwSW 4 hts g rfl rfl rfl qL_el hR) ⟨ePc_blind, fun U hU hW => ⟨rfl, by rw [hU]; exact h1, by rw [hU]; exact h3, hX.warm hW, p1, hao, hT.warm hW, by rw [hU]; exact hZ'.moved hW.alike⟩⟩ rfl rfl hls rfl (lv_room hst) hdg hcs) h4 (fun z _ h => hE z h) hE (fun r1 u t H1 locs1 ht hvm hw hB hz1 hk1 hS1 => ?_)
  obtain ⟨rfl, hu⟩ := hw
  obtain ⟨hB1, hB2⟩ := hB
  exact kk u H1 locs1 hu ⟨by rw [← ht]; exact hB1, pk_w h2 hk1 (fun k z hz h => h.elim (fun h => (p3 _ h).2.1 (wl_wA hz)) (fun h => (p4 _ (wl_wA hz)).2 h)), by rw [← ht]; exact hB2, hS1⟩
end Le
