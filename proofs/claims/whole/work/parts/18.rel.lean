/-! ===== class and reference hold the same ===== -/
/-- a shelf: 0 nothing; 1 a lane (number, kind, figure); 2 a row (sort in the number's place) -/
abbrev Sh : Type := Nat × (Nat × Nat × Nat) × List Int32
def okS (h : Sh) : Prop := h.1 ≤ 2 ∧ (h.1 = 1 → h.2.1.1 < 5 ∧ h.2.1.2.1 ≤ 7 ∧ h.2.1.2.2 ≤ 9) ∧ (h.1 = 2 → h.2.1.1 ≤ 2 ∧ h.2.2.length ≤ 100 ∧ (h.2.1.1 = 0 → ∀ v ∈ h.2.2, -128 ≤ v.toInt ∧ v.toInt ≤ 127))
def rsC (S : cM) (d : Nat) (h : Sh) : Prop := S.1 (53 + d) 0 = nI h.1 ∧ (h.1 = 1 → S.1 (53 + d) 1 = nI h.2.1.1 ∧ S.1 (53 + d) 2 = nI h.2.1.2.1 ∧ S.1 (53 + d) 3 = nI h.2.1.2.2) ∧ (h.1 = 2 → S.1 (53 + d) 4 = nI h.2.1.1 ∧ S.1 (53 + d) 5 = nI h.2.2.length ∧ ∀ k v, h.2.2[k]? = some v → S.1 (61 + d) k = v)
def rsM (S : mM) (d : Nat) (h : Sh) : Prop := S.1 20 d = nI h.1 ∧ (h.1 = 1 → S.1 21 d = nI h.2.1.1 ∧ S.1 22 d = nI h.2.1.2.1 ∧ S.1 23 d = nI h.2.1.2.2) ∧ (h.1 = 2 → S.1 24 d = nI h.2.1.1 ∧ S.1 25 d = nI h.2.2.length ∧ ∀ k v, h.2.2[k]? = some v → S.2.1 26 (100 * d + k) = v.toInt64)
def imR (Sc : cM) (Sm : mM) (im : Option Xx) : Prop := match im with
  | none => Sc.1 0 3 = nI 0 ∧ Sm.1 0 13 = nI 0
  | some y => Sc.1 0 3 = nI 1 ∧ Sm.1 0 13 = nI 1 ∧ okX y ∧ rC Sc 3 y ∧ rI (Sm.1 9) y
def Rl (Sc : cM) (Sm : mM) (x : Xx) (im : Option Xx) (sh : Nat → Sh) : Prop := okX x ∧ rC Sc Sc.2.1 x ∧ rM Sm x ∧ (Sc.2 = (1, 2) ∨ Sc.2 = (2, 1)) ∧ imR Sc Sm im ∧ ∀ d, d < 8 → okS (sh d) ∧ rsC Sc d (sh d) ∧ rsM Sm d (sh d)
def Same (a : Option (Int32 × cM)) (b : Option (Int32 × mM)) : Prop := ∃ r Sc Sm x im sh, a = some (r, Sc) ∧ b = some (r, Sm) ∧ Rl Sc Sm x im sh
/-- what the class keeps: the image, the shelves -/
def cKp (S S' : cM) : Prop := S'.2 = S.2 ∧ ∀ r, (r = 0 ∨ inX 3 r ∨ (53 ≤ r ∧ r ≤ 68)) → S'.1 r = S.1 r
theorem cKp.rf {S : cM} : cKp S S := ⟨rfl, fun _ _ => rfl⟩
theorem cKp.tr {S S1 S2 : cM} (h1 : cKp S S1) (h2 : cKp S1 S2) : cKp S S2 := ⟨h2.1.trans h1.1, fun r a => (h2.2 r a).trans (h1.2 r a)⟩
theorem frx.kp {S S' : cM} {u : Nat} (h : frx S S' u) (hu : u = 1 ∨ u = 2) : cKp S S' := ⟨h.1, fun r hr => h.2 r (fun q => by unfold inX at *; omega)⟩
theorem rsC_keep {S S' : cM} {d : Nat} {h : Sh} (hd : d < 8) (hh : rsC S d h) (k : ∀ r, 53 ≤ r ∧ r ≤ 68 → S'.1 r = S.1 r) : rsC S' d h := by
  unfold rsC
  rw [k (53 + d) (by omega), k (61 + d) (by omega)]
  exact hh
theorem rsM_keep {S S' : mM} {d : Nat} {h : Sh} (hh : rsM S d h) (k : mkp S S') : rsM S' d h := by
  unfold rsM
  rw [k.2.2.2 20 (by omega), k.2.2.2 21 (by omega), k.2.2.2 22 (by omega), k.2.2.2 23 (by omega), k.2.2.2 24 (by omega), k.2.2.2 25 (by omega), k.1]
  exact hh
theorem rsM_keep2 {S S' : mM} {d : Nat} {h : Sh} (hh : rsM S d h) (k1 : S'.2.1 26 = S.2.1 26) (k2 : ∀ r, 20 ≤ r → S'.1 r = S.1 r) : rsM S' d h := by
  unfold rsM
  rw [k2 20 (by omega), k2 21 (by omega), k2 22 (by omega), k2 23 (by omega), k2 24 (by omega), k2 25 (by omega), k1]
  exact hh
theorem imR_keep {Sc Sc' : cM} {Sm Sm' : mM} {im : Option Xx} (h : imR Sc Sm im) (hc : cKp Sc Sc') (hm : mkp Sm Sm') : imR Sc' Sm' im := by
  cases im with
  | none =>
    show Sc'.1 0 3 = nI 0 ∧ Sm'.1 0 13 = nI 0
    rw [hc.2 0 (Or.inl rfl), hm.2.2.1]
    exact h
  | some y =>
    obtain ⟨h1, h2, h3, h4, h5⟩ := h
    show Sc'.1 0 3 = nI 1 ∧ Sm'.1 0 13 = nI 1 ∧ okX y ∧ rC Sc' 3 y ∧ rI (Sm'.1 9) y
    rw [hc.2 0 (Or.inl rfl), hm.2.2.1, hm.2.1]
    exact ⟨h1, h2, h3, rC_rows h3.1 h4 (fun r hr => hc.2 r (Or.inr (Or.inl hr))), h5⟩
theorem Rl.step {Sc Sc' : cM} {Sm Sm' : mM} {x x' : Xx} {im : Option Xx} {sh : Nat → Sh} (R : Rl Sc Sm x im sh) (hc : cKp Sc Sc') (hm : mkp Sm Sm') (ok : okX x') (h1 : rC Sc' Sc.2.1 x') (h2 : rM Sm' x') : Rl Sc' Sm' x' im sh := by
  obtain ⟨-, -, -, r4, r5, r6⟩ := R
  refine ⟨ok, by rw [hc.1]; exact h1, h2, by rw [hc.1]; exact r4, imR_keep r5 hc hm, fun d hd => ?_⟩
  obtain ⟨a, b, c⟩ := r6 d hd
  exact ⟨a, rsC_keep hd b (fun r hr => hc.2 r (Or.inr (Or.inr hr))), rsM_keep c hm⟩
theorem Rl.now {Sc : cM} {Sm : mM} {x : Xx} {im : Option Xx} {sh : Nat → Sh} (R : Rl Sc Sm x im sh) : (Sc.2.1 = 1 ∨ Sc.2.1 = 2) ∧ (Sc.2.2 = 1 ∨ Sc.2.2 = 2) ∧ Sc.2.1 ≠ Sc.2.2 := by
  rcases R.2.2.2.1 with h | h <;> rw [h] <;> decide
theorem m9 {S : mM} {x : Xx} (h : rM S x) : rM (mS S 0 9 (nI 0)) x := rM_core h (fun k hk => by rw [mS_s, upd_n (by omega)]) (fun r r1 r2 => by rw [mS_n (by omega)])
theorem k9 {S : mM} : mkp S (mS S 0 9 (nI 0)) := ⟨rfl, mS_n (by omega), by rw [mS_s, upd_n (by omega)], fun r hr => mS_n (by omega)⟩
theorem f9 {S : mM} : mfr S (mS S 0 9 (nI 0)) ∨ True := Or.inr trivial
/-- nothing changes but the reference's mark -/
theorem Rl.same {Sc : cM} {Sm : mM} {x : Xx} {im : Option Xx} {sh : Nat → Sh} (R : Rl Sc Sm x im sh) : Rl Sc (mS Sm 0 9 (nI 0)) x im sh := R.step cKp.rf k9 R.1 R.2.1 (m9 R.2.2.1)
theorem same_of {Sc : cM} {Sm : mM} {x : Xx} {im : Option Xx} {sh : Nat → Sh} {a : Option (Int32 × cM)} {b : Option (Int32 × mM)} {r : Int32} (R : Rl Sc Sm x im sh) (ha : a = some (r, Sc)) (hb : b = some (r, mS Sm 0 9 (nI 0))) : Same a b := ⟨r, Sc, _, x, im, sh, ha, hb, R.same⟩
theorem p_sort_no {S : cM} {z : Int32} (h : z < 0 ∨ nI 4 ≤ z) : fX5_isSort S z = some (nI 0, S) := by
  unfold fX5_isSort
  by_cases h1 : z < 0
  · rw [if_pos h1]
  · rw [if_neg h1, if_pos (h.resolve_left h1)]
theorem p_sort_yes {S : cM} {s : Nat} (h : s < 4) : fX5_isSort S (nI s) = some (nI 1, S) := by
  unfold fX5_isSort
  simp (disch := omega) only [ile_t, ile_f, ilt_t, ilt_f, ieq_t, ieq_f, i0n_f, i0p_t, i0e_t, i0e_f, i0l_t, i0l_f, i0g_t, i0g_f, b2_if, ↓reduceIte]
theorem lt_of_le {z : Int32} {n : Nat} (hn : n < 2147483647) (h : nI (n + 1) ≤ z) : nI n < z := by
  rw [Int32.lt_iff_toInt_lt, nI_toInt (by omega)]
  rw [Int32.le_iff_toInt_le, nI_toInt (by omega)] at h
  omega
theorem m_sort_no {S : mM} {z : Int32} (h : z < 0 ∨ nI 4 ≤ z) : fX6_isSort S z = some (nI 0, S) := by
  unfold fX6_isSort
  rw [q_0, q_3, in_no (h.imp (fun q => by rw [nI_0]; exact q) (fun q => lt_of_le (by omega) q)), bd_s, gb_0]
theorem m_sort_yes {S : mM} {s : Nat} (h : s < 4) : fX6_isSort S (nI s) = some (nI 1, S) := by
  unfold fX6_isSort
  rw [q_0, q_3, in_yes (nI_nlt (by omega) (by omega)) (nI_nlt (by omega) (by omega)), bd_s, gb_1]
/-- a number in a range or not -/
theorem inr_no {S : mM} {z : Int32} {n : Nat} (hn : n < 2147483647) (h : z < 0 ∨ nI (n + 1) ≤ z) : fX6_in S z.toInt64 (nI 0).toInt64 (nI n).toInt64 = some (nI 0, S) := in_no (h.imp (fun q => by rw [nI_0]; exact q) (fun q => lt_of_le hn q))
theorem inr_yes {S : mM} {j n : Nat} (hn : n < 2147483647) (h : j ≤ n) : fX6_in S (nI j).toInt64 (nI 0).toInt64 (nI n).toInt64 = some (nI 1, S) := in_yes (nI_nlt (by omega) (by omega)) (nI_nlt (by omega) (by omega))
theorem gN {α : Type} {c : Nat} {k : Option α} (h : c = 1 ∨ c = 2) : gn c 1 3 k = k := gn_o (by omega) (by omega)
theorem g5 {α : Type} {j : Nat} {k : Option α} (h : j < 5) : gi (nI j) 5 k = k := gi_n h (by omega)
theorem g8 {α : Type} {j : Nat} {k : Option α} (h : j < 8) : gi (nI j) 8 k = k := gi_n h (by omega)
/-! ===== the calls, one by one ===== -/
theorem t_lane {Sc : cM} {Sm : mM} {x : Xx} {im : Option Xx} {sh : Nat → Sh} (R : Rl Sc Sm x im sh) (x1 x2 : Int32) : Same (fX5_lane Sc x1 x2) (fX6_lane Sm x1 x2) := by
  have hn := R.now
  obtain ⟨ok, hC, hM, -⟩ := id R
  have hl := ok.1
  have hM9 := m9 hM
  rcases pk_ix x1 (n := x.2.2.length) (by omega) with h | h | ⟨j, hj, rfl⟩
  · refine same_of R (r := -1) ?_ ?_
    · unfold fX5_lane
      rw [gN hn.1, has_no hC (Or.inl h), bd_s]
      rfl
    · unfold fX6_lane
      simp only [sv_s, m_isLane_no hM9.1 hl (Or.inl h), bd_s]
      rfl
  · refine same_of R (r := -1) ?_ ?_
    · unfold fX5_lane
      rw [gN hn.1, has_no hC (Or.inr h), bd_s]
      rfl
    · unfold fX6_lane
      simp only [sv_s, m_isLane_no hM9.1 hl (Or.inr h), bd_s]
      rfl
  · have hq : x.2.2[j]? = some x.2.2[j] := List.getElem?_eq_getElem hj
    generalize x.2.2[j] = q at hq
    have okq := okX_at ok hq
    have hc := hC.2.2.2 j q hq
    have hm := hM9.2.2.2 j q hq
    have out : (x2 < 0 ∨ nI 9 ≤ x2) → Same (fX5_lane Sc (nI j) x2) (fX6_lane Sm (nI j) x2) := by
      intro h
      refine same_of R (r := -1) ?_ ?_
      · unfold fX5_lane
        rw [gN hn.1, has_yes hC ok hj, bd_s, i0e_f (by omega) (by omega), gN hn.1, g5 (by omega)]
        have ne : ∀ k, k < 9 → ¬ x2 = nI k := by
          intro k hk e
          subst e
          rcases h with h | h
          · exact nI_pos (by omega) h
          · exact nI_ge (show k < 9 by omega) (by omega) h
        simp only [ne 0 (by omega), ne 1 (by omega), ne 2 (by omega), ne 3 (by omega), ne 4 (by omega), ne 5 (by omega), ne 6 (by omega), ne 7 (by omega), ne 8 (by omega), if_false]
      · unfold fX6_lane
        rw [sv_s, m_isLane_yes hM9.1 hl hj, bd_s, q_0, q_8, inr_no (by omega) h, bd_s]
        rfl
    rcases pk_ix x2 (n := 9) (by omega) with h | h | ⟨k, hk, rfl⟩
    · exact out (Or.inl h)
    · exact out (Or.inr h)
    · unfold fX5_lane fX6_lane
      rw [sv_s, m_isLane_yes hM9.1 hl hj, bd_s, q_0, q_8, inr_yes (by omega) (by omega), bd_s, gN hn.1, has_yes hC ok hj, bd_s, i0e_f (by omega) (by omega), gN hn.1, g5 (by omega), i0e_f (by omega) (by omega), i0e_f (by omega) (by omega), cl_n (by omega)]
      have w1 := p_waitNow hc okq
      have w2 := m_waitIn hm okq (show j < 5 by omega)
      have w3 := p_seenCars hc okq
      have w4 := m_seenIn hm okq (show j < 5 by omega)
      have w5 := p_seemsNow hc okq
      have w6 := m_seemsIn hm okq (show j < 5 by omega)
      have w7 := p_isOpen hc okq
      have w8 := m_isOpen hm okq (show j < 5 by omega)
      obtain ⟨c0, c1, c2, c3, c4, -⟩ := hc
      obtain ⟨d0, d1, d2, d3, d4, -⟩ := hm
      have hlen := okq.2.2.2.1
      have fin : ∀ r : Int32, ∀ a b, a = some (r, Sc) → b = some (r, mS Sm 0 9 (nI 0)) → Same a b := fun r a b ha hb => same_of R ha hb
      rcases (show k = 0 ∨ k = 1 ∨ k = 2 ∨ k = 3 ∨ k = 4 ∨ k = 5 ∨ k = 6 ∨ k = 7 ∨ k = 8 by omega) with rfl | rfl | rfl | rfl | rfl | rfl | rfl | rfl | rfl <;> simp (disch := omega) only [ieq_t, ieq_f, ↓reduceIte, g5, cl_n]
      · exact fin (nI q.1) _ _ (by rw [c0]) (by rw [d0])
      · exact fin (nI q.2.1) _ _ (by rw [c1]) (by rw [d1])
      · exact fin (nI q.2.2.2.2.length) _ _ (by rw [c2]) (by rw [d2])
      · refine fin (nI q.2.2.1) _ _ (by rw [c3]) ?_
        rw [d2, d3]
        by_cases h0 : q.2.2.2.2 = []
        · rw [if_pos (by rw [h0]; decide), okq.2.2.2.2.2.1 h0]
        · have : 0 < q.2.2.2.2.length := List.length_pos_iff.mpr h0
          simp (disch := omega) only [ile_t, ile_f, ilt_t, ilt_f, ieq_t, ieq_f, i0n_f, i0p_t, i0e_t, i0e_f, i0l_t, i0l_f, i0g_t, i0g_f, b2_if, ↓reduceIte]
      · rw [w1, w2, bd_s, bd_s]; exact fin _ _ _ rfl rfl
      · rw [w3, w4, bd_s, bd_s]; exact fin _ _ _ rfl rfl
      · rw [w5, w6, bd_s, bd_s]; exact fin _ _ _ rfl rfl
      · rw [w7, w8, bd_s, bd_s, b2_if, b2_if]
        cases qO q
        · exact fin (nI 0) _ _ rfl rfl
        · exact fin (nI 1) _ _ rfl rfl
      · exact fin q.2.2.2.1 _ _ (by rw [c4]) (by rw [d4])
