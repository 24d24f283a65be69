/-- a lane's number is one of these: below 0, too large, or there -/
theorem lane_c (x : Xx) (hl : x.2.2.length ≤ 5) (z : Int32) : (z < 0 ∨ nI x.2.2.length ≤ z) ∨ ∃ j q, z = nI j ∧ x.2.2[j]? = some q ∧ j < x.2.2.length ∧ j < 5 := by
  rcases pk_ix z (n := x.2.2.length) (by omega) with h | h | ⟨j, hj, rfl⟩
  · exact Or.inl (Or.inl h)
  · exact Or.inl (Or.inr h)
  · exact Or.inr ⟨j, x.2.2[j], rfl, List.getElem?_eq_getElem hj, hj, by omega⟩
theorem num_c (z : Int32) (n : Nat) (hn : n < 1000000) : (z < 0 ∨ nI n ≤ z) ∨ ∃ j, z = nI j ∧ j < n := by
  rcases pk_ix z (n := n) (by omega) with h | h | ⟨j, hj, rfl⟩
  · exact Or.inl (Or.inl h)
  · exact Or.inl (Or.inr h)
  · exact Or.inr ⟨j, rfl, hj⟩
/-! cars by place -/
theorem m_isCar_no1 {S : mM} {x : Xx} (h : rM S x) (hl : x.2.2.length ≤ 5) {z w : Int32} (hz : z < 0 ∨ nI x.2.2.length ≤ z) : fX6_isCar S z w = some (nI 0, S) := by
  unfold fX6_isCar
  rw [m_isLane_no h.1 hl hz]
  rfl
theorem m_isCar_no2 {S : mM} {x : Xx} (h : rM S x) (ok : okX x) {j : Nat} {q : Qq} (hj : x.2.2[j]? = some q) {w : Int32} (hw : w < 0 ∨ nI q.2.2.2.2.length ≤ w) : fX6_isCar S (nI j) w = some (nI 0, S) := by
  have hj2 := (List.getElem?_eq_some_iff.mp hj).1
  have hl := ok.1
  have hlen := (okX_at ok hj).2.2.2.1
  unfold fX6_isCar
  rw [m_isLane_yes h.1 hl hj2, bd_s, i0e_f (by omega) (by omega), g5 (by omega), cl_n (by omega), (h.2.2.2 j q hj).2.2.1, q_0, in_no (hw.imp (fun q => by rw [nI_0]; exact q) (fun q => ge_pred (by omega) q)), bd_s]
  rfl
theorem m_isCar_yes {S : mM} {x : Xx} (h : rM S x) (ok : okX x) {j i : Nat} {q : Qq} (hj : x.2.2[j]? = some q) (hi : i < q.2.2.2.2.length) : fX6_isCar S (nI j) (nI i) = some (nI 1, S) := by
  have hj2 := (List.getElem?_eq_some_iff.mp hj).1
  have hl := ok.1
  have hlen := (okX_at ok hj).2.2.2.1
  unfold fX6_isCar
  rw [m_isLane_yes h.1 hl hj2, bd_s, i0e_f (by omega) (by omega), g5 (by omega), cl_n (by omega), (h.2.2.2 j q hj).2.2.1, q_0, in_yes (nI_nlt (by omega) (by omega)) (lt_pred (by omega) hi), bd_s, i0e_f (by omega) (by omega)]
theorem t_car {Sc : cM} {Sm : mM} {x : Xx} {im : Option Xx} {sh : Nat → Sh} (R : Rl Sc Sm x im sh) (x1 x2 : Int32) : Same (fX5_car Sc x1 x2) (fX6_car Sm x1 x2) := by
  have hn := R.now
  obtain ⟨ok, hC, hM, -⟩ := id R
  have hl := ok.1
  have hM9 := m9 hM
  rcases lane_c x hl x1 with h | ⟨j, q, rfl, hq, hj, hj5⟩
  · refine same_of R (r := -1) ?_ ?_
    · unfold fX5_car; rw [gN hn.1, hasCar_no1 hC h, bd_s]; rfl
    · unfold fX6_car; rw [sv_s, m_isCar_no1 hM9 hl h, bd_s]; rfl
  · have hlen := (okX_at ok hq).2.2.2.1
    rcases num_c x2 q.2.2.2.2.length (by omega) with h | ⟨i, rfl, hi⟩
    · refine same_of R (r := -1) ?_ ?_
      · unfold fX5_car; rw [gN hn.1, hasCar_no2 hC ok hq h, bd_s]; rfl
      · unfold fX6_car; rw [sv_s, m_isCar_no2 hM9 ok hq h, bd_s]; rfl
    · have hs : q.2.2.2.2[i]? = some q.2.2.2.2[i] := List.getElem?_eq_getElem hi
      refine same_of R (r := nI q.2.2.2.2[i]) ?_ ?_
      · unfold fX5_car
        rw [gN hn.1, hasCar_yes hC ok hq hi, bd_s, i0e_f (by omega) (by omega), gN hn.1, g5 hj5, g8 (by omega), cl_n (by omega), cl_n (by omega), (hC.2.2.2 j q hq).2.2.2.2.2.1 i _ hs]
      · unfold fX6_car
        rw [sv_s, m_isCar_yes hM9 ok hq hi, bd_s, i0e_f (by omega) (by omega), pk_mul, nI_add, gi_n (show 8 * j + i < 40 by omega) (by omega), cl_n (by omega), (hM9.2.2.2 j q hq).2.2.2.2.2 i _ hs]
theorem t_takes {Sc : cM} {Sm : mM} {x : Xx} {im : Option Xx} {sh : Nat → Sh} (R : Rl Sc Sm x im sh) (x1 x2 : Int32) : Same (fX5_takes Sc x1 x2) (fX6_takes Sm x1 x2) := by
  have hn := R.now
  obtain ⟨ok, hC, hM, -⟩ := id R
  have hl := ok.1
  have hM9 := m9 hM
  rcases lane_c x hl x1 with h | ⟨j, q, rfl, hq, hj, hj5⟩
  · refine same_of R (r := -1) ?_ ?_
    · unfold fX5_takes; rw [gN hn.1, has_no hC h, bd_s]; rfl
    · unfold fX6_takes; rw [sv_s, m_isLane_no hM9.1 hl h, bd_s]; rfl
  · rcases num_c x2 4 (by omega) with h | ⟨s, rfl, hs⟩
    · refine same_of R (r := -1) ?_ ?_
      · unfold fX5_takes; rw [gN hn.1, has_yes hC ok hj, bd_s, i0e_f (by omega) (by omega), p_sort_no h, bd_s]; rfl
      · unfold fX6_takes; rw [sv_s, m_isLane_yes hM9.1 hl hj, bd_s, i0e_f (by omega) (by omega), m_sort_no h, bd_s]; rfl
    · refine same_of R (r := nI (tk q.1 q.2.1 s)) ?_ ?_
      · unfold fX5_takes; rw [gN hn.1, has_yes hC ok hj, bd_s, i0e_f (by omega) (by omega), p_sort_yes hs, bd_s, i0e_f (by omega) (by omega), gN hn.1, g5 hj5, cl_n (by omega), p_needs (hC.2.2.2 j q hq) hs, bd_s]
      · unfold fX6_takes; rw [sv_s, m_isLane_yes hM9.1 hl hj, bd_s, i0e_f (by omega) (by omega), m_sort_yes hs, bd_s, i0e_f (by omega) (by omega), m_takesIn (hM9.2.2.2 j q hq) (okX_at ok hq) hj5 hs, bd_s]
theorem t_comes {Sc : cM} {Sm : mM} {x : Xx} {im : Option Xx} {sh : Nat → Sh} (R : Rl Sc Sm x im sh) (x1 x2 : Int32) : Same (fX5_comes Sc x1 x2) (fX6_comes Sm x1 x2) := by
  have hn := R.now
  obtain ⟨ok, hC, hM, -⟩ := id R
  have hl := ok.1
  have hM9 := m9 hM
  rcases lane_c x hl x1 with h | ⟨j, q, rfl, hq, hj, hj5⟩
  · refine same_of R (r := -1) ?_ ?_
    · unfold fX5_comes; rw [gN hn.1, has_no hC h, bd_s]; rfl
    · unfold fX6_comes; rw [sv_s, m_isLane_no hM9.1 hl h, bd_s]; rfl
  · rcases num_c x2 4 (by omega) with h | ⟨s, rfl, hs⟩
    · refine same_of R (r := -1) ?_ ?_
      · unfold fX5_comes; rw [gN hn.1, has_yes hC ok hj, bd_s, i0e_f (by omega) (by omega), p_sort_no h, bd_s]; rfl
      · unfold fX6_comes; rw [sv_s, m_isLane_yes hM9.1 hl hj, bd_s, i0e_f (by omega) (by omega), m_sort_no h, bd_s]; rfl
    · have okq := okX_at ok hq
      have hlen := okq.2.2.2.1
      have hc := hC.2.2.2 j q hq
      have hm := hM9.2.2.2 j q hq
      unfold fX5_comes fX6_comes
      rw [gN hn.1, has_yes hC ok hj, bd_s, i0e_f (by omega) (by omega), p_sort_yes hs, bd_s, i0e_f (by omega) (by omega), gN hn.1, g5 hj5, cl_n (by omega), p_isOpen hc okq, bd_s, b2_if, p_hasRoom hc okq, bd_s, b2_if, p_timeOfNext hc okq hs, bd_s]
      rw [sv_s, m_isLane_yes hM9.1 hl hj, bd_s, i0e_f (by omega) (by omega), m_sort_yes hs, bd_s, i0e_f (by omega) (by omega), m_isOpen hm okq hj5, bd_s, b2_if, g5 hj5, hm.2.2.1, m_timeIn hm okq hj5 hs, bd_s]
      cases hO : qO q with
      | false => exact same_of R (r := -3) rfl rfl
      | true =>
        simp only [if_true]
        by_cases h8 : q.2.2.2.2.length < 8
        · obtain ⟨S1, e1, r1, f1⟩ := p_comeIn hc okq (by omega) hs h8
          obtain ⟨S2, e2, r2, f2⟩ := m_comeIn hm okq hj5 hs h8
          rw [e1, e2, bv_s, bv_s, ieq_f (by omega) (by omega) (by omega)]
          simp only [h8, decide_true, if_true]
          have ok' := okX_set (a := x.1) (b := x.2.1) (i := j) ok (okC okq hs h8)
          exact ⟨_, S1, S2, _, im, sh, rfl, rfl, R.step ((frx.ofq f1 hj5).kp hn.1) (k9.tr (mfr.ofq f2).kp) ok' (rC_set (a := x.1) (b := x.2.1) hl hC hj f1 r1 (by omega)) (rM_set (a := x.1) (b := x.2.1) ok.2 hM9 hj f2 r2)⟩
        · rw [ieq_t (by omega)]
          simp only [h8, decide_false, Bool.false_eq_true, if_false]
          exact same_of R (r := -2) rfl rfl
theorem t_minutes {Sc : cM} {Sm : mM} {x : Xx} {im : Option Xx} {sh : Nat → Sh} (R : Rl Sc Sm x im sh) (x1 : Int32) : Same (fX5_minutes Sc x1) (fX6_minutes Sm x1) := by
  have hn := R.now
  obtain ⟨ok, hC, hM, -⟩ := id R
  have hM9 := m9 hM
  have no : (x1 < nI 1 ∨ nI 60 < x1) → Same (fX5_minutes Sc x1) (fX6_minutes Sm x1) := by
    intro h
    refine same_of R (r := -1) ?_ ?_
    · unfold fX5_minutes fX5_minutes_11
      by_cases h1 : x1 < nI 1
      · rw [if_pos h1]
      · rw [if_neg h1, if_neg (by
          have := h.resolve_left h1
          rw [Int32.lt_iff_toInt_lt] at this
          rw [Int32.le_iff_toInt_le]
          omega)]
    · unfold fX6_minutes
      rw [sv_s, q_1, q_60, in_no h, bd_s]
      rfl
  rcases num_c x1 61 (by omega) with h | ⟨t, rfl, ht⟩
  · refine no (h.imp (fun h => ?_) (fun h => lt_of_le (by omega) h))
    rw [Int32.lt_iff_toInt_lt] at h ⊢
    rw [nI_toInt (by omega)]
    have : (0 : Int32).toInt = 0 := by decide
    omega
  · by_cases h0 : t = 0
    · subst h0
      exact no (Or.inl (by decide))
    · obtain ⟨S1, e1, r1, f1⟩ := p_goBy (by omega) hC ok (t := t) (by omega)
      obtain ⟨S2, e2, r2, f2⟩ := m_goBy hM9 ok (t := t) (by omega)
      refine ⟨nI (gB t x.2.2).1, S1, S2, _, im, sh, ?_, ?_, R.step (f1.kp hn.1) (k9.tr f2.kp) (xB_ok ok) r1 r2⟩
      · unfold fX5_minutes
        rw [ilt_f (by omega) (by omega), ile_t (by omega) (by omega), gN hn.1, e1, bd_s]
      · unfold fX6_minutes
        rw [sv_s, q_1, q_60, in_yes (nI_nlt (by omega) (by omega)) (nI_nlt (by omega) (by omega)), bd_s, i0e_f (by omega) (by omega), e2, bd_s]
theorem t_which {Sc : cM} {Sm : mM} {x : Xx} {im : Option Xx} {sh : Nat → Sh} (R : Rl Sc Sm x im sh) (x1 : Int32) : Same (fX5_which Sc x1) (fX6_which Sm x1) := by
  have hn := R.now
  obtain ⟨ok, hC, hM, -⟩ := id R
  have hM9 := m9 hM
  rcases num_c x1 4 (by omega) with h | ⟨s, rfl, hs⟩
  · refine same_of R (r := -1) ?_ ?_
    · unfold fX5_which; rw [p_sort_no h, bd_s]; rfl
    · unfold fX6_which; rw [sv_s, m_sort_no h, bd_s]; rfl
  · refine same_of R (r := fI (wh qS x.2.2 0 none)) ?_ ?_
    · unfold fX5_which; rw [p_sort_yes hs, bd_s, i0e_f (by omega) (by omega), gN hn.1, p_which hC ok, bd_s]
    · unfold fX6_which; rw [sv_s, m_sort_yes hs, bd_s, i0e_f (by omega) (by omega), m_which hM9 ok, bd_s]
theorem t_best {Sc : cM} {Sm : mM} {x : Xx} {im : Option Xx} {sh : Nat → Sh} (R : Rl Sc Sm x im sh) (x1 : Int32) : Same (fX5_best Sc x1) (fX6_best Sm x1) := by
  have hn := R.now
  obtain ⟨ok, hC, hM, -⟩ := id R
  have hM9 := m9 hM
  rcases num_c x1 4 (by omega) with h | ⟨s, rfl, hs⟩
  · refine same_of R (r := -1) ?_ ?_
    · unfold fX5_best; rw [p_sort_no h, bd_s]; rfl
    · unfold fX6_best; rw [sv_s, m_sort_no h, bd_s]; rfl
  · refine same_of R (r := fI (wh (fun q => qN q s) x.2.2 0 none)) ?_ ?_
    · unfold fX5_best; rw [p_sort_yes hs, bd_s, i0e_f (by omega) (by omega), gN hn.1, p_best hC ok hs, bd_s]
    · unfold fX6_best; rw [sv_s, m_sort_yes hs, bd_s, i0e_f (by omega) (by omega), m_best hM9 ok hs, bd_s]
/-- the regret, if there is a lane to choose -/
def xR (x : Xx) (s : Nat) : Option Int32 := match wh qS x.2.2 0 none, wh (fun q => qN q s) x.2.2 0 none with
  | some (j, _), some (_, v) => some (match x.2.2[j]? with | some q => nI (qN q s) - nI v | none => 0)
  | _, _ => none
theorem xR_c {x : Xx} {s : Nat} : (wh qS x.2.2 0 none = none ∧ wh (fun q => qN q s) x.2.2 0 none = none ∧ xR x s = none) ∨ ∃ j v j2 v2 q q2, wh qS x.2.2 0 none = some (j, v) ∧ wh (fun q => qN q s) x.2.2 0 none = some (j2, v2) ∧ x.2.2[j]? = some q ∧ x.2.2[j2]? = some q2 ∧ qN q2 s = v2 ∧ xR x s = some (nI (qN q s) - nI v2) := by
  have h := wh_none (f := qS) (g := fun q => qN q s) x.2.2 0 none none Iff.rfl
  cases h1 : wh qS x.2.2 0 none with
  | none =>
    have h2 := h.mp h1
    exact Or.inl ⟨rfl, h2, by unfold xR; rw [h1]⟩
  | some jv =>
    cases h2 : wh (fun q => qN q s) x.2.2 0 none with
    | none => exact absurd (h.mpr h2) (by rw [h1]; simp)
    | some jv2 =>
      obtain ⟨j, v⟩ := jv
      obtain ⟨j2, v2⟩ := jv2
      obtain ⟨q, hq, -⟩ := wh_ok0 h1
      obtain ⟨q2, hq2, hv2⟩ := wh_ok0 h2
      exact Or.inr ⟨j, v, j2, v2, q, q2, rfl, rfl, hq, hq2, hv2, by unfold xR; rw [h1, h2]; dsimp only; rw [hq]⟩
theorem c_regret {Sc : cM} {Sm : mM} {x : Xx} {im : Option Xx} {sh : Nat → Sh} (R : Rl Sc Sm x im sh) {s : Nat} (hs : s < 4) (c : Int32) : fX5_regretTimes Sc (nI s) c = some (match xR x s with | some v => v * c | none => -4, Sc) := by
  have hn := R.now
  obtain ⟨ok, hC, hM, -⟩ := id R
  have hl := ok.1
  unfold fX5_regretTimes
  rw [gN hn.1, p_which hC ok, bd_s]
  rcases xR_c (x := x) (s := s) with ⟨h1, h2, h3⟩ | ⟨j, v, j2, v2, q, q2, h1, h2, hq, hq2, hv2, h3⟩
  · rw [h1, h3, if_neg (show ¬ (0 : Int32) ≤ fI none by decide)]
  · have hj := (List.getElem?_eq_some_iff.mp hq).1
    rw [h1, h3, if_pos (show (0 : Int32) ≤ fI (some (j, v)) from nI_pos' (by omega)), show fI (some (j, v)) = nI j from rfl, gN hn.1, g5 (by omega), cl_n (by omega), p_timeOfNext (hC.2.2.2 j q hq) (okX_at ok hq) hs, bd_s, gN hn.1, p_leastTime hC ok hs, bd_s, h2]
    rfl
theorem m_regret {S : mM} {x : Xx} (h : rM S x) (ok : okX x) {s : Nat} (hs : s < 4) : fX6_regretOf S (nI s) = some (match xR x s with | some v => v | none => -4, S) := by
  have hl := ok.1
  unfold fX6_regretOf
  rw [m_which h ok, bd_s]
  rcases xR_c (x := x) (s := s) with ⟨h1, h2, h3⟩ | ⟨j, v, j2, v2, q, q2, h1, h2, hq, hq2, hv2, h3⟩
  · rw [h1, h3, if_neg (show ¬ (0 : Int32) ≤ fI none by decide)]
  · have hj := (List.getElem?_eq_some_iff.mp hq).1
    have hj2 := (List.getElem?_eq_some_iff.mp hq2).1
    rw [h1, h3, if_pos (show (0 : Int32) ≤ fI (some (j, v)) from nI_pos' (by omega)), show fI (some (j, v)) = nI j from rfl, m_timeIn (h.2.2.2 j q hq) (okX_at ok hq) (by omega) hs, bd_s, m_best h ok hs, bd_s, h2, show fI (some (j2, v2)) = nI j2 from rfl, m_timeIn (h.2.2.2 j2 q2 hq2) (okX_at ok hq2) (by omega) hs, bd_s, hv2]
theorem wh_le {f : Qq → Nat} : ∀ (l : List Qq) (i : Nat) (b : Option (Nat × Nat)) (j v : Nat), wh f l i b = some (j, v) → (∀ a w, b = some (a, w) → v ≤ w) ∧ ∀ q ∈ l, qM q = true → v ≤ f q := by
  intro l
  induction l with
  | nil => intro i b j v h; exact ⟨fun a w e => by simp only [wh] at h; rw [h] at e; cases e; exact Nat.le_refl _, fun q hq => by simp at hq⟩
  | cons q l ih =>
    intro i b j v h
    simp only [wh] at h
    obtain ⟨h1, h2⟩ := ih _ _ j v h
    cases hM : qM q with
    | false =>
      rw [hM] at h1
      refine ⟨fun a w e => h1 a w (by simpa using e), fun z hz hz2 => ?_⟩
      rcases List.mem_cons.mp hz with rfl | hz
      · rw [hM] at hz2; cases hz2
      · exact h2 z hz hz2
    | true =>
      rw [hM] at h1
      simp only [if_true] at h1
      refine ⟨fun a w e => ?_, fun z hz hz2 => ?_⟩
      · subst e
        dsimp only at h1
        split at h1
        · have := h1 _ _ rfl; omega
        · exact h1 _ _ rfl
      · rcases List.mem_cons.mp hz with rfl | hz
        · cases b with
          | none => exact h1 _ _ rfl
          | some aw =>
            obtain ⟨a, w⟩ := aw
            dsimp only at h1
            split at h1
            · exact h1 _ _ rfl
            · have := h1 _ _ rfl; omega
        · exact h2 z hz hz2
theorem xR_nn {x : Xx} (ok : okX x) {s : Nat} {v : Int32} (h : xR x s = some v) : ¬ v < 0 := by
  rcases xR_c (x := x) (s := s) with ⟨-, -, h3⟩ | ⟨j, w, j2, v2, q, q2, h1, h2, hq, hq2, hv2, h3⟩
  · rw [h3] at h; cases h
  · rw [h3] at h
    cases h
    obtain ⟨q', hq', hM⟩ := wh_may0 h1
    rw [hq] at hq'
    cases hq'
    have := (wh_le _ _ _ _ _ h2).2 q (List.mem_of_getElem? hq) hM
    have hle := qN_le (okX_at ok hq) s
    rw [su_n this]
    exact nI_pos (by omega)
theorem t_regret {Sc : cM} {Sm : mM} {x : Xx} {im : Option Xx} {sh : Nat → Sh} (R : Rl Sc Sm x im sh) (x1 : Int32) : Same (fX5_regret Sc x1) (fX6_regret Sm x1) := by
  obtain ⟨ok, hC, hM, -⟩ := id R
  have hM9 := m9 hM
  rcases num_c x1 4 (by omega) with h | ⟨s, rfl, hs⟩
  · refine same_of R (r := -1) ?_ ?_
    · unfold fX5_regret; rw [p_sort_no h, bd_s]; rfl
    · unfold fX6_regret; rw [sv_s, m_sort_no h, bd_s]; rfl
  · refine same_of R (r := match xR x s with | some v => v | none => -4) ?_ ?_
    · unfold fX5_regret
      rw [p_sort_yes hs, bd_s, i0e_f (by omega) (by omega), c_regret R hs, bd_s]
      cases xR x s with
      | none => rfl
      | some v => dsimp only; rw [show nI 1 = 1 from rfl, Int32.mul_one]
    · unfold fX6_regret; rw [sv_s, m_sort_yes hs, bd_s, i0e_f (by omega) (by omega), m_regret hM9 ok hs, bd_s]
theorem t_advice {Sc : cM} {Sm : mM} {x : Xx} {im : Option Xx} {sh : Nat → Sh} (R : Rl Sc Sm x im sh) (x1 x2 : Int32) : Same (fX5_advice Sc x1 x2) (fX6_advice Sm x1 x2) := by
  obtain ⟨ok, hC, hM, -⟩ := id R
  have hM9 := m9 hM
  rcases num_c x1 4 (by omega) with h | ⟨s, rfl, hs⟩
  · refine same_of R (r := -1) ?_ ?_
    · unfold fX5_advice; rw [p_sort_no h, bd_s]; rfl
    · unfold fX6_advice; rw [sv_s, m_sort_no h, bd_s]; rfl
  · rcases num_c x2 100 (by omega) with h | ⟨c, rfl, hc⟩
    · refine same_of R (r := -1) ?_ ?_
      · unfold fX5_advice
        rw [p_sort_yes hs, bd_s, i0e_f (by omega) (by omega)]
        by_cases h1 : x2 < 0
        · rw [if_pos h1]
        · rw [if_neg h1, if_pos (lt_of_le (by omega) (h.resolve_left h1))]
      · unfold fX6_advice
        rw [sv_s, m_sort_yes hs, bd_s, i0e_f (by omega) (by omega), q_0, q_99, inr_no (by omega) h, bd_s]
        rfl
    · refine same_of R (r := match xR x s with | some v => v * nI c | none => -4) ?_ ?_
      · unfold fX5_advice
        rw [p_sort_yes hs, bd_s, i0e_f (by omega) (by omega), i0n_f (by omega), ilt_f (by omega) (by omega), c_regret R hs, bd_s]
      · unfold fX6_advice
        rw [sv_s, m_sort_yes hs, bd_s, i0e_f (by omega) (by omega), q_0, q_99, inr_yes (by omega) (by omega), bd_s, i0e_f (by omega) (by omega), m_regret hM9 ok hs, bd_s]
        cases hx : xR x s with
        | none => rfl
        | some v =>
          have := xR_nn ok hx
          dsimp only
          first | rw [if_neg this] | rw [if_pos (by rw [Int32.le_iff_toInt_le]; rw [Int32.lt_iff_toInt_lt] at this; omega)]
theorem t_time {Sc : cM} {Sm : mM} {x : Xx} {im : Option Xx} {sh : Nat → Sh} (R : Rl Sc Sm x im sh) (x1 x2 : Int32) : Same (fX5_time Sc x1 x2) (fX6_time Sm x1 x2) := by
  have hn := R.now
  obtain ⟨ok, hC, hM, -⟩ := id R
  have hl := ok.1
  have hM9 := m9 hM
  rcases lane_c x hl x1 with h | ⟨j, q, rfl, hq, hj, hj5⟩
  · refine same_of R (r := -1) ?_ ?_
    · unfold fX5_time; rw [gN hn.1, hasCar_no1 hC h, bd_s]; rfl
    · unfold fX6_time; rw [sv_s, m_isCar_no1 hM9 hl h, bd_s]; rfl
  · have hlen := (okX_at ok hq).2.2.2.1
    rcases num_c x2 q.2.2.2.2.length (by omega) with h | ⟨i, rfl, hi⟩
    · refine same_of R (r := -1) ?_ ?_
      · unfold fX5_time; rw [gN hn.1, hasCar_no2 hC ok hq h, bd_s]; rfl
      · unfold fX6_time; rw [sv_s, m_isCar_no2 hM9 ok hq h, bd_s]; rfl
    · refine same_of R (r := nI (qT q i)) ?_ ?_
      · unfold fX5_time
        rw [gN hn.1, hasCar_yes hC ok hq hi, bd_s, i0e_f (by omega) (by omega), gN hn.1, g5 hj5, cl_n (by omega), p_timeAt (hC.2.2.2 j q hq) (okX_at ok hq) (by omega), bd_s]
      · unfold fX6_time
        rw [sv_s, m_isCar_yes hM9 ok hq hi, bd_s, i0e_f (by omega) (by omega), m_timeAt (hM9.2.2.2 j q hq) (okX_at ok hq) hj5 hi, bd_s]
theorem t_all {Sc : cM} {Sm : mM} {x : Xx} {im : Option Xx} {sh : Nat → Sh} (R : Rl Sc Sm x im sh) : Same (fX5_all Sc) (fX6_all Sm) := by
  have hn := R.now
  obtain ⟨ok, hC, hM, -⟩ := id R
  refine same_of R (r := nI (sA x.2.2)) ?_ ?_
  · unfold fX5_all; rw [gN hn.1, p_all hC ok, bd_s]
  · unfold fX6_all; rw [sv_s, m_all (m9 hM) ok, bd_s]
theorem t_other {Sc : cM} {Sm : mM} {x : Xx} {im : Option Xx} {sh : Nat → Sh} (R : Rl Sc Sm x im sh) (x1 x2 x3 : Int32) : Same (fX5_other Sc x1 x2 x3) (fX6_other Sm x1 x2 x3) := by
  have hn := R.now
  obtain ⟨ok, hC, hM, -⟩ := id R
  have hl := ok.1
  have hM9 := m9 hM
  rcases num_c x1 4 (by omega) with h | ⟨s, rfl, hs⟩
  · refine same_of R (r := -1) ?_ ?_
    · unfold fX5_other; rw [p_sort_no h, bd_s]; rfl
    · unfold fX6_other; rw [sv_s, m_sort_no h, bd_s]; rfl
  · rcases num_c x2 1000 (by omega) with h | ⟨w, rfl, hw⟩
    · refine same_of R (r := -1) ?_ ?_
      · unfold fX5_other
        rw [p_sort_yes hs, bd_s, i0e_f (by omega) (by omega)]
        by_cases h1 : x2 < 0
        · rw [if_pos h1]
        · rw [if_neg h1, if_pos (lt_of_le (by omega) (h.resolve_left h1))]
      · unfold fX6_other
        rw [sv_s, m_sort_yes hs, bd_s, i0e_f (by omega) (by omega), q_0, q_999, inr_no (by omega) h, bd_s]
        rfl
    · rcases num_c x3 1000 (by omega) with h | ⟨t, rfl, ht⟩
      · refine same_of R (r := -1) ?_ ?_
        · unfold fX5_other
          rw [p_sort_yes hs, bd_s, i0e_f (by omega) (by omega), i0n_f (by omega), ilt_f (by omega) (by omega)]
          by_cases h1 : x3 < 0
          · rw [if_pos h1]
          · rw [if_neg h1, if_neg (by
              have := lt_of_le (by omega) (h.resolve_left h1)
              rw [Int32.lt_iff_toInt_lt] at this
              rw [Int32.le_iff_toInt_le]
              omega)]
        · unfold fX6_other
          rw [sv_s, m_sort_yes hs, bd_s, i0e_f (by omega) (by omega), q_0, q_999, inr_yes (by omega) (by omega), bd_s, i0e_f (by omega) (by omega), inr_no (by omega) h, bd_s]
          rfl
      · unfold fX5_other fX6_other
        rw [p_sort_yes hs, bd_s, i0e_f (by omega) (by omega), i0n_f (by omega), ilt_f (by omega) (by omega), i0n_f (by omega), ile_t (by omega) (by omega), gN hn.1, p_leastTime hC ok hs, bd_s, nI_add]
        rw [sv_s, m_sort_yes hs, bd_s, i0e_f (by omega) (by omega), q_0, q_999, inr_yes (by omega) (by omega), bd_s, i0e_f (by omega) (by omega), inr_yes (by omega) (by omega), bd_s, i0e_f (by omega) (by omega), m_best hM9 ok hs, bd_s]
        cases hb : wh (fun q => qN q s) x.2.2 0 none with
        | none =>
          rw [if_neg (show ¬ lI none ≤ nI (w + t) from nI_ge (by omega) (by omega))]
          exact same_of R (r := nI 1) rfl rfl
        | some jv =>
          obtain ⟨j, v⟩ := jv
          obtain ⟨q, hq, hv⟩ := wh_ok0 hb
          have hj := (List.getElem?_eq_some_iff.mp hq).1
          have hle := qN_le (okX_at ok hq) s
          rw [if_neg (show ¬ fI (some (j, v)) < 0 from nI_pos (by omega)), show fI (some (j, v)) = nI j from rfl, m_timeIn (hM9.2.2.2 j q hq) (okX_at ok hq) (by omega) hs, bd_s, show lI (some (j, v)) = nI v from rfl, hv]
          by_cases c : v ≤ w + t
          · simp (disch := omega) only [ile_t, ile_f, ilt_t, ilt_f, ieq_t, ieq_f, i0n_f, i0p_t, i0e_t, i0e_f, i0l_t, i0l_f, i0g_t, i0g_f, b2_if, ↓reduceIte]
            exact same_of R (r := nI 0) rfl rfl
          · simp (disch := omega) only [ile_t, ile_f, ilt_t, ilt_f, ieq_t, ieq_f, i0n_f, i0p_t, i0e_t, i0e_f, i0l_t, i0l_f, i0g_t, i0g_f, b2_if, ↓reduceIte]
            exact same_of R (r := nI 1) rfl rfl
