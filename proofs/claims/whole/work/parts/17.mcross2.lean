/-! ===== the reference: which lane, sums, changes ===== -/
theorem m_which_l {S : mM} {x : Xx} (h : rM S x) (ok : okX x) : ∀ (l : List Qq) (n i : Nat) (b : Option (Nat × Nat)), x.2.2.drop i = l → i ≤ 5 → bOk x.2.2 qS b → l.length < n →
    fX6_whichLane_5 n S (fI b) (nI i) = some (fI (wh qS l i b), S) := by
  have hl := ok.1
  intro l
  induction l with
  | nil =>
    intro n i b e hi hb hn
    have := dropN e
    obtain ⟨n, rfl⟩ : ∃ m, n = m + 1 := ⟨n - 1, by omega⟩
    unfold fX6_whichLane_5
    rw [h.1]
    simp (disch := omega) only [ile_t, ile_f, ilt_t, ilt_f, ieq_t, ieq_f, i0n_f, i0p_t, i0e_t, i0e_f, i0l_t, i0l_f, i0g_t, i0g_f, b2_if, ↓reduceIte, wh]
  | cons q l ih =>
    intro n i b e hi hb hn
    obtain ⟨e1, e2, e3⟩ := dropC e
    simp only [List.length_cons] at hn
    obtain ⟨n, rfl⟩ : ∃ m, n = m + 1 := ⟨n - 1, by omega⟩
    have hq := h.2.2.2 i q e1
    have okq := okX_at ok e1
    have hS := qS_le okq
    unfold fX6_whichLane_5 fX6_whichLane_42 fX6_whichLane_38 fX6_whichLane_43
    rw [h.1]
    simp (disch := omega) only [ile_t, ile_f, ilt_t, ilt_f, ieq_t, ieq_f, i0n_f, i0p_t, i0e_t, i0e_f, i0l_t, i0l_f, i0g_t, i0g_f, b2_if, ↓reduceIte, bd_s, bv_s, sv_s, gi_n, gz_n, gb_0, gb_1, gb_b, gn_o, cl_n, m_mayCome hq okq (show i < 5 by omega), nI_add]
    simp only [wh]
    cases hM : qM q with
    | false => exact ih n (i + 1) b e2 (by omega) hb (by omega)
    | true =>
      simp only [if_true]
      cases b with
      | none =>
        rw [if_pos (show fI none < 0 by decide)]
        exact ih n (i + 1) (some (i, qS q)) e2 (by omega) (fun j v hv => by cases hv; exact ⟨q, e1, rfl⟩) (by omega)
      | some jv =>
        obtain ⟨j, v⟩ := jv
        obtain ⟨q', hq', hv'⟩ := hb j v rfl
        have hj := (List.getElem?_eq_some_iff.mp hq').1
        have hS' := qS_le (okX_at ok hq')
        rw [if_neg (show ¬ fI (some (j, v)) < 0 from nI_pos (by omega)), m_seemsIn hq okq (by omega), bd_s, show fI (some (j, v)) = nI j from rfl, m_seemsIn (h.2.2.2 j q' hq') (okX_at ok hq') (by omega), bd_s, hv']
        by_cases c : qS q < v
        · rw [if_neg (nI_ge c (by omega))]
          dsimp only
          rw [if_pos c]
          exact ih n (i + 1) (some (i, qS q)) e2 (by omega) (fun j v hv => by cases hv; exact ⟨q, e1, rfl⟩) (by omega)
        · rw [if_pos (nI_le (by omega) (by omega))]
          dsimp only
          rw [if_neg c]
          exact ih n (i + 1) (some (j, v)) e2 (by omega) hb (by omega)
theorem m_which {S : mM} {x : Xx} (h : rM S x) (ok : okX x) : fX6_whichLane S = some (fI (wh qS x.2.2 0 none), S) := by
  unfold fX6_whichLane
  exact m_which_l h ok x.2.2 lF 0 none rfl (by omega) (fun j v hv => by cases hv) (by have := ok.1; simp [lF]; omega)
theorem m_best_l {S : mM} {x : Xx} (h : rM S x) (ok : okX x) {s : Nat} (hs : s < 4) : ∀ (l : List Qq) (n i : Nat) (b : Option (Nat × Nat)), x.2.2.drop i = l → i ≤ 5 → bOk x.2.2 (fun q => qN q s) b → l.length < n →
    fX6_bestLane_5 n S (nI s) (fI b) (nI i) = some (fI (wh (fun q => qN q s) l i b), S) := by
  have hl := ok.1
  intro l
  induction l with
  | nil =>
    intro n i b e hi hb hn
    have := dropN e
    obtain ⟨n, rfl⟩ : ∃ m, n = m + 1 := ⟨n - 1, by omega⟩
    unfold fX6_bestLane_5
    rw [h.1]
    simp (disch := omega) only [ile_t, ile_f, ilt_t, ilt_f, ieq_t, ieq_f, i0n_f, i0p_t, i0e_t, i0e_f, i0l_t, i0l_f, i0g_t, i0g_f, b2_if, ↓reduceIte, wh]
  | cons q l ih =>
    intro n i b e hi hb hn
    obtain ⟨e1, e2, e3⟩ := dropC e
    simp only [List.length_cons] at hn
    obtain ⟨n, rfl⟩ : ∃ m, n = m + 1 := ⟨n - 1, by omega⟩
    have hq := h.2.2.2 i q e1
    have okq := okX_at ok e1
    have hS := qN_le okq s
    unfold fX6_bestLane_5 fX6_bestLane_44 fX6_bestLane_40 fX6_bestLane_45
    rw [h.1]
    simp (disch := omega) only [ile_t, ile_f, ilt_t, ilt_f, ieq_t, ieq_f, i0n_f, i0p_t, i0e_t, i0e_f, i0l_t, i0l_f, i0g_t, i0g_f, b2_if, ↓reduceIte, bd_s, bv_s, sv_s, gi_n, gz_n, gb_0, gb_1, gb_b, gn_o, cl_n, m_mayCome hq okq (show i < 5 by omega), nI_add]
    simp only [wh]
    cases hM : qM q with
    | false => exact ih n (i + 1) b e2 (by omega) hb (by omega)
    | true =>
      simp only [if_true]
      cases b with
      | none =>
        rw [if_pos (show fI none < 0 by decide)]
        exact ih n (i + 1) (some (i, qN q s)) e2 (by omega) (fun j v hv => by cases hv; exact ⟨q, e1, rfl⟩) (by omega)
      | some jv =>
        obtain ⟨j, v⟩ := jv
        obtain ⟨q', hq', hv'⟩ := hb j v rfl
        have hj := (List.getElem?_eq_some_iff.mp hq').1
        have hS' := qN_le (okX_at ok hq') s
        dsimp only at hv'
        rw [if_neg (show ¬ fI (some (j, v)) < 0 from nI_pos (by omega)), m_timeIn hq okq (by omega) hs, bd_s, show fI (some (j, v)) = nI j from rfl, m_timeIn (h.2.2.2 j q' hq') (okX_at ok hq') (by omega) hs, bd_s, hv']
        by_cases c : qN q s < v
        · rw [if_neg (nI_ge c (by omega))]
          dsimp only
          rw [if_pos c]
          exact ih n (i + 1) (some (i, qN q s)) e2 (by omega) (fun j v hv => by cases hv; exact ⟨q, e1, rfl⟩) (by omega)
        · rw [if_pos (nI_le (by omega) (by omega))]
          dsimp only
          rw [if_neg c]
          exact ih n (i + 1) (some (j, v)) e2 (by omega) hb (by omega)
theorem m_best {S : mM} {x : Xx} (h : rM S x) (ok : okX x) {s : Nat} (hs : s < 4) : fX6_bestLane S (nI s) = some (fI (wh (fun q => qN q s) x.2.2 0 none), S) := by
  unfold fX6_bestLane
  exact m_best_l h ok hs x.2.2 lF 0 none rfl (by omega) (fun j v hv => by cases hv) (by have := ok.1; simp [lF]; omega)
def tS (q : Qq) : Nat → Nat → Nat
  | 0, _ => 0
  | d + 1, i => qT q i + tS q d (i + 1)
theorem tks_app {kd fg : Nat} : ∀ a b : List Nat, tks kd fg (a ++ b) = tks kd fg a + tks kd fg b
  | [], b => by simp [tks]
  | s :: a, b => by simp only [List.cons_append, tks, tks_app a b, Nat.add_assoc]
theorem tS_l {q : Qq} : ∀ (suf pre : List Nat) (e : Nat), q.2.2.2.2.drop 1 = pre ++ suf → e = q.2.2.1 + tks q.1 q.2.1 pre → tS q suf.length (pre.length + 1) = aT q.1 q.2.1 e suf := by
  intro suf
  induction suf with
  | nil => intro pre e _ _; rfl
  | cons s suf ih =>
    intro pre e h1 h2
    have h3 : qT q (pre.length + 1) = e + tk q.1 q.2.1 s := by
      unfold qT
      rw [h1, show pre ++ s :: suf = (pre ++ [s]) ++ suf by simp, List.take_left' (by simp), tks_app, h2]
      simp only [tks, Nat.add_zero, Nat.add_assoc]
    simp only [List.length_cons, tS, aT]
    rw [h3]
    have := ih (pre ++ [s]) (e + tk q.1 q.2.1 s) (by rw [h1]; simp) (by rw [tks_app, h2]; simp only [tks, Nat.add_zero, Nat.add_assoc])
    simp only [List.length_append, List.length_cons, List.length_nil] at this
    rw [← this]
theorem tS_qA {q : Qq} (ok : okQ q) : tS q q.2.2.2.2.length 0 = qA q := by
  obtain ⟨kd, fg, lf, ov, ss⟩ := q
  cases ss with
  | nil => have := ok.2.2.2.2.2.1 rfl; dsimp only at this; subst this; rfl
  | cons s l =>
    have := tS_l (q := (kd, fg, lf, ov, s :: l)) l [] lf rfl (by simp [tks])
    simp only [List.length_nil, Nat.zero_add] at this
    simp only [List.length_cons, tS, Nat.zero_add, this]
    unfold qA qT
    simp [tks]
theorem m_all_in {S : mM} {x : Xx} (h : rM S x) (ok : okX x) {K : mM → Int32 → Int32 → Option (Int32 × mM)} {a : Nat} {q : Qq} (ha : x.2.2[a]? = some q) : ∀ (d n i w : Nat), q.2.2.2.2.length - i = d → i ≤ 8 → d < n →
    fX6_allTimes_14 K n S (nI w) (nI a) (nI i) = K S (nI (w + tS q d i)) (nI (a + 1)) := by
  have hl := ok.1
  have ha2 := (List.getElem?_eq_some_iff.mp ha).1
  have hlen := (okX_at ok ha).2.2.2.1
  intro d
  induction d with
  | zero =>
    intro n i w hd hi hn
    obtain ⟨n, rfl⟩ : ∃ m, n = m + 1 := ⟨n - 1, by omega⟩
    unfold fX6_allTimes_14
    simp (disch := omega) only [bd_s, bv_s, sv_s, gi_n, gz_n, gb_0, gb_1, gb_b, gn_o, cl_n]
    rw [(h.2.2.2 a q ha).2.2.1]
    simp (disch := omega) only [ile_t, ile_f, ilt_t, ilt_f, ieq_t, ieq_f, i0n_f, i0p_t, i0e_t, i0e_f, i0l_t, i0l_f, i0g_t, i0g_f, b2_if, ↓reduceIte, nI_add, tS, Nat.add_zero]
  | succ d ih =>
    intro n i w hd hi hn
    obtain ⟨n, rfl⟩ : ∃ m, n = m + 1 := ⟨n - 1, by omega⟩
    unfold fX6_allTimes_14
    simp (disch := omega) only [bd_s, bv_s, sv_s, gi_n, gz_n, gb_0, gb_1, gb_b, gn_o, cl_n]
    rw [(h.2.2.2 a q ha).2.2.1, m_timeAt (h.2.2.2 a q ha) (okX_at ok ha) (by omega) (by omega), bd_s]
    simp (disch := omega) only [ile_t, ile_f, ilt_t, ilt_f, ieq_t, ieq_f, i0n_f, i0p_t, i0e_t, i0e_f, i0l_t, i0l_f, i0g_t, i0g_f, b2_if, ↓reduceIte, nI_add]
    rw [ih n (i + 1) _ (by omega) (by omega) (by omega)]
    simp only [tS, Nat.add_assoc]
theorem m_all_l {S : mM} {x : Xx} (h : rM S x) (ok : okX x) : ∀ (l : List Qq) (n a w : Nat), x.2.2.drop a = l → a ≤ 5 → l.length < n → fX6_allTimes_4 n S (nI w) (nI a) = some (nI (w + sA l), S) := by
  have hl := ok.1
  intro l
  induction l with
  | nil =>
    intro n a w e ha hn
    have := dropN e
    obtain ⟨n, rfl⟩ : ∃ m, n = m + 1 := ⟨n - 1, by omega⟩
    unfold fX6_allTimes_4
    rw [h.1]
    simp (disch := omega) only [ile_t, ile_f, ilt_t, ilt_f, ieq_t, ieq_f, i0n_f, i0p_t, i0e_t, i0e_f, i0l_t, i0l_f, i0g_t, i0g_f, b2_if, ↓reduceIte, sA, Nat.add_zero]
  | cons q l ih =>
    intro n a w e ha hn
    obtain ⟨e1, e2, e3⟩ := dropC e
    have hlen := (okX_at ok e1).2.2.2.1
    simp only [List.length_cons] at hn
    obtain ⟨n, rfl⟩ : ∃ m, n = m + 1 := ⟨n - 1, by omega⟩
    unfold fX6_allTimes_4
    rw [h.1]
    simp (disch := omega) only [ile_t, ile_f, ilt_t, ilt_f, ieq_t, ieq_f, i0n_f, i0p_t, i0e_t, i0e_f, i0l_t, i0l_f, i0g_t, i0g_f, b2_if, ↓reduceIte]
    rw [m_all_in h ok e1 q.2.2.2.2.length lF 0 w rfl (by omega) (by simp [lF]; omega), tS_qA (okX_at ok e1), ih n (a + 1) _ e2 (by omega) (by omega)]
    simp only [sA, Nat.add_assoc]
theorem m_all {S : mM} {x : Xx} (h : rM S x) (ok : okX x) : fX6_allTimes S = some (nI (sA x.2.2), S) := by
  unfold fX6_allTimes
  rw [m_all_l h ok x.2.2 lF 0 0 rfl (by omega) (by have := ok.1; simp [lF]; omega), Nat.zero_add]
theorem m_cars_l {S : mM} {x : Xx} (h : rM S x) (ok : okX x) : ∀ (l : List Qq) (n a w : Nat), x.2.2.drop a = l → a ≤ 5 → l.length < n → fX6_carsThere_4 n S (nI w) (nI a) = some (nI (w + sC l), S) := by
  have hl := ok.1
  intro l
  induction l with
  | nil =>
    intro n a w e ha hn
    have := dropN e
    obtain ⟨n, rfl⟩ : ∃ m, n = m + 1 := ⟨n - 1, by omega⟩
    unfold fX6_carsThere_4
    rw [h.1]
    simp (disch := omega) only [ile_t, ile_f, ilt_t, ilt_f, ieq_t, ieq_f, i0n_f, i0p_t, i0e_t, i0e_f, i0l_t, i0l_f, i0g_t, i0g_f, b2_if, ↓reduceIte, sC, Nat.add_zero]
  | cons q l ih =>
    intro n a w e ha hn
    obtain ⟨e1, e2, e3⟩ := dropC e
    simp only [List.length_cons] at hn
    obtain ⟨n, rfl⟩ : ∃ m, n = m + 1 := ⟨n - 1, by omega⟩
    unfold fX6_carsThere_4
    rw [h.1]
    simp (disch := omega) only [ile_t, ile_f, ilt_t, ilt_f, ieq_t, ieq_f, i0n_f, i0p_t, i0e_t, i0e_f, i0l_t, i0l_f, i0g_t, i0g_f, b2_if, ↓reduceIte, bd_s, bv_s, sv_s, gi_n, gz_n, gb_0, gb_1, gb_b, gn_o, cl_n, (h.2.2.2 a q e1).2.2.1, nI_add]
    rw [ih n (a + 1) _ e2 (by omega) (by omega)]
    simp only [sC, Nat.add_assoc]
theorem m_cars {S : mM} {x : Xx} (h : rM S x) (ok : okX x) : fX6_carsThere S = some (nI (sC x.2.2), S) := by
  unfold fX6_carsThere
  rw [m_cars_l h ok x.2.2 lF 0 0 rfl (by omega) (by have := ok.1; simp [lF]; omega), Nat.zero_add]
theorem m_gain {S : mM} {x : Xx} (h : rM S x) (ok : okX x) {a i t : Nat} {q q' : Qq} (ha : x.2.2[a]? = some q) (ht : x.2.2[t]? = some q') (hi : i < q.2.2.2.2.length) : fX6_gainOf S (nI a) (nI i) (nI t) = some (xG x a i t, S) := by
  have hl := ok.1
  have h1 := (List.getElem?_eq_some_iff.mp ha).1
  have h2 := (List.getElem?_eq_some_iff.mp ht).1
  have h3 := (okX_at ok ha).2.2.2.1
  have hs : q.2.2.2.2[i]? = some (q.2.2.2.2.getD i 0) := by simp [List.getD, hi]
  have hs4 : q.2.2.2.2.getD i 0 < 4 := (okX_at ok ha).2.2.2.2.1 _ (List.mem_of_getElem? hs)
  unfold fX6_gainOf xG
  rw [ha, ht, m_timeAt (h.2.2.2 a q ha) (okX_at ok ha) (by omega) hi, bd_s]
  simp (disch := omega) only [bd_s, bv_s, sv_s, gi_n, gz_n, gb_0, gb_1, gb_b, gn_o, cl_n, pk_mul, nI_add, (h.2.2.2 a q ha).2.2.2.2.2 i _ hs, m_timeIn (h.2.2.2 t q' ht) (okX_at ok ht) (show t < 5 by omega) hs4]
theorem m_move {S : mM} {x : Xx} (h : rM S x) (ok : okX x) {a i t : Nat} {q q' : Qq} (ha : x.2.2[a]? = some q) (ht : x.2.2[t]? = some q') (hi : i < q.2.2.2.2.length) (h1i : 1 ≤ i) (hne : a ≠ t) (hr : q'.2.2.2.2.length < 8) : ∃ S', fX6_goOver S (nI a) (nI i) (nI t) = some S' ∧ rM S' (xV x a i t) ∧ mfr S S' := by
  have hl := ok.1
  have h1 := (List.getElem?_eq_some_iff.mp ha).1
  have h2 := (List.getElem?_eq_some_iff.mp ht).1
  have h3 := (okX_at ok ha).2.2.2.1
  have hs : q.2.2.2.2[i]? = some (q.2.2.2.2.getD i 0) := by simp [List.getD, hi]
  have hs4 : q.2.2.2.2.getD i 0 < 4 := (okX_at ok ha).2.2.2.2.1 _ (List.mem_of_getElem? hs)
  obtain ⟨S1, e1, r1, f1, -⟩ := m_drop (h.2.2.2 a q ha) h3 (by omega) hi
  have hC1 := rM_set (a := x.1) (b := x.2.1) ok.2 h h1 f1 r1
  have ok1 := okX_set (a := x.1) (b := x.2.1) (i := a) ok (okD (okX_at ok ha) h1i)
  have ht1 : (x.2.2.set a (qD q i))[t]? = some q' := by rw [List.getElem?_set_ne hne]; exact ht
  obtain ⟨S2, e2, r2, f2⟩ := m_comeIn (hC1.2.2.2 t q' ht1) (okX_at ok ht) (by omega) hs4 hr
  have hC2 := rM_set (a := x.1) (b := x.2.1) ok1.2 hC1 (by rw [List.length_set]; exact h2) f2 r2
  refine ⟨S2, ?_, ?_, (mfr.ofq f1).tr (mfr.ofq f2)⟩
  · unfold fX6_goOver
    simp (disch := omega) only [bd_s, bv_s, sv_s, gi_n, gz_n, gb_0, gb_1, gb_b, gn_o, cl_n, pk_mul, nI_add, (h.2.2.2 a q ha).2.2.2.2.2 i _ hs, e1, e2]
  · unfold xV
    rw [ha, ht]
    exact hC2
theorem m_bc_l {S : mM} {x : Xx} (h : rM S x) (ok : okX x) {K8 : mM → Int32 → Int32 → Int32 → Option (Int32 × mM)} {K20 : mM → Int32 → Int32 → Int32 → Int32 → Option (Int32 × mM)} {a i : Nat} {q0 : Qq} (ha : x.2.2[a]? = some q0) (hi : i < q0.2.2.2.2.length) (f0 : Int32) : ∀ (l : List Qq) (n t : Nat) (b : Option Nat × Int32), x.2.2.drop t = l → t ≤ 5 → l.length < n →
    fX6_bestChange_35 K8 K20 n S (ggS a i f0 b).1 (ggS a i f0 b).2 (nI a) (nI i) (nI t) = K20 S (ggS a i f0 (bc x a i l t b)).1 (ggS a i f0 (bc x a i l t b)).2 (nI a) (nI (i + 1)) := by
  have hl := ok.1
  have ha2 := (List.getElem?_eq_some_iff.mp ha).1
  have hlen := (okX_at ok ha).2.2.2.1
  intro l
  induction l with
  | nil =>
    intro n t b e ht hn
    have := dropN e
    obtain ⟨n, rfl⟩ : ∃ m, n = m + 1 := ⟨n - 1, by omega⟩
    unfold fX6_bestChange_35
    rw [h.1]
    simp (disch := omega) only [ile_t, ile_f, ilt_t, ilt_f, ieq_t, ieq_f, i0n_f, i0p_t, i0e_t, i0e_f, i0l_t, i0l_f, i0g_t, i0g_f, b2_if, ↓reduceIte, bc, nI_add]
  | cons q l ih =>
    intro n t b e ht hn
    obtain ⟨e1, e2, e3⟩ := dropC e
    simp only [List.length_cons] at hn
    obtain ⟨n, rfl⟩ : ∃ m, n = m + 1 := ⟨n - 1, by omega⟩
    have hq := h.2.2.2 t q e1
    have okq := okX_at ok e1
    have hb2 : (ggS a i f0 b).2 = b.2 := by unfold ggS; split <;> rfl
    unfold fX6_bestChange_35 fX6_bestChange_100
    rw [h.1, m_mayCome hq okq (by omega), bd_s, m_gain h ok ha e1 hi, bd_s, m_gain h ok ha e1 hi, bd_s]
    simp only [bc]
    by_cases c : t = a
    · rw [if_pos c]
      simp (disch := omega) only [ile_t, ile_f, ilt_t, ilt_f, ieq_t, ieq_f, i0n_f, i0p_t, i0e_t, i0e_f, i0l_t, i0l_f, i0g_t, i0g_f, b2_if, ↓reduceIte, bd_s, bv_s, sv_s, gi_n, gz_n, gb_0, gb_1, gb_b, gn_o, cl_n, nI_add]
      exact ih n (t + 1) b e2 (by omega) (by omega)
    · rw [if_neg c]
      simp (disch := omega) only [ile_t, ile_f, ilt_t, ilt_f, ieq_t, ieq_f, i0n_f, i0p_t, i0e_t, i0e_f, i0l_t, i0l_f, i0g_t, i0g_f, b2_if, ↓reduceIte, bd_s, bv_s, sv_s, gi_n, gz_n, gb_0, gb_1, gb_b, gn_o, cl_n, nI_add]
      cases hM : qM q with
      | false => exact ih n (t + 1) b e2 (by omega) (by omega)
      | true =>
        simp only [if_true]
        by_cases c2 : xG x a i t ≤ b.2
        · rw [if_pos (by rw [hb2]; exact c2), if_pos c2]
          exact ih n (t + 1) b e2 (by omega) (by omega)
        · rw [if_neg (by rw [hb2]; exact c2), if_neg c2, pk_mul, pk_mul, nI_add, nI_add]
          exact ih n (t + 1) (some t, xG x a i t) e2 (by omega) (by omega)
theorem m_gg_in {S : mM} {x : Xx} (h : rM S x) (ok : okX x) {K : mM → Int32 → Int32 → Int32 → Option (Int32 × mM)} {a : Nat} {q0 : Qq} (ha : x.2.2[a]? = some q0) : ∀ (d n i : Nat) (b : Int32 × Int32), q0.2.2.2.2.length - i = d → i ≤ 9 → d < n →
    fX6_bestChange_20 K n S b.1 b.2 (nI a) (nI i) = K S (ggP x a d i b).1 (ggP x a d i b).2 (nI (a + 1)) := by
  have hl := ok.1
  have ha2 := (List.getElem?_eq_some_iff.mp ha).1
  have hlen := (okX_at ok ha).2.2.2.1
  intro d
  induction d with
  | zero =>
    intro n i b hd hi hn
    obtain ⟨n, rfl⟩ : ∃ m, n = m + 1 := ⟨n - 1, by omega⟩
    unfold fX6_bestChange_20
    simp (disch := omega) only [bd_s, bv_s, sv_s, gi_n, gz_n, gb_0, gb_1, gb_b, gn_o, cl_n]
    rw [(h.2.2.2 a q0 ha).2.2.1]
    simp (disch := omega) only [ile_t, ile_f, ilt_t, ilt_f, ieq_t, ieq_f, i0n_f, i0p_t, i0e_t, i0e_f, i0l_t, i0l_f, i0g_t, i0g_f, b2_if, ↓reduceIte, nI_add, ggP]
  | succ d ih =>
    intro n i b hd hi hn
    obtain ⟨n, rfl⟩ : ∃ m, n = m + 1 := ⟨n - 1, by omega⟩
    unfold fX6_bestChange_20
    simp (disch := omega) only [bd_s, bv_s, sv_s, gi_n, gz_n, gb_0, gb_1, gb_b, gn_o, cl_n]
    rw [(h.2.2.2 a q0 ha).2.2.1]
    simp (disch := omega) only [ile_t, ile_f, ilt_t, ilt_f, ieq_t, ieq_f, i0n_f, i0p_t, i0e_t, i0e_f, i0l_t, i0l_f, i0g_t, i0g_f, b2_if, ↓reduceIte]
    have := m_bc_l h ok (K8 := K) (K20 := fX6_bestChange_20 K n) ha (show i < q0.2.2.2.2.length by omega) b.1 x.2.2 lF 0 (none, b.2) rfl (by omega) (by simp [lF]; omega)
    simp only [show ggS a i b.1 (none, b.2) = (b.1, b.2) from rfl] at this
    rw [this, ih n (i + 1) _ (by omega) (by omega) (by omega)]
    simp only [ggP]
theorem m_gg_out {S : mM} {x : Xx} (h : rM S x) (ok : okX x) : ∀ (l : List Qq) (n a : Nat) (b : Int32 × Int32), x.2.2.drop a = l → a ≤ 5 → l.length < n → fX6_bestChange_8 n S b.1 b.2 (nI a) = some ((ggL x l a b).1, S) := by
  have hl := ok.1
  intro l
  induction l with
  | nil =>
    intro n a b e ha hn
    have := dropN e
    obtain ⟨n, rfl⟩ : ∃ m, n = m + 1 := ⟨n - 1, by omega⟩
    unfold fX6_bestChange_8
    rw [h.1]
    simp (disch := omega) only [ile_t, ile_f, ilt_t, ilt_f, ieq_t, ieq_f, i0n_f, i0p_t, i0e_t, i0e_f, i0l_t, i0l_f, i0g_t, i0g_f, b2_if, ↓reduceIte, ggL]
  | cons q l ih =>
    intro n a b e ha hn
    obtain ⟨e1, e2, e3⟩ := dropC e
    have hlen := (okX_at ok e1).2.2.2.1
    simp only [List.length_cons] at hn
    obtain ⟨n, rfl⟩ : ∃ m, n = m + 1 := ⟨n - 1, by omega⟩
    unfold fX6_bestChange_8
    rw [h.1]
    simp (disch := omega) only [ile_t, ile_f, ilt_t, ilt_f, ieq_t, ieq_f, i0n_f, i0p_t, i0e_t, i0e_f, i0l_t, i0l_f, i0g_t, i0g_f, b2_if, ↓reduceIte]
    rw [m_gg_in h ok e1 (q.2.2.2.2.length - 1) lF 1 b rfl (by omega) (by simp [lF]; omega), ih n (a + 1) _ e2 (by omega) (by omega)]
    simp only [ggL]
theorem m_gg {S : mM} {x : Xx} (h : rM S x) (ok : okX x) (c : Int32) : fX6_bestChange S c = some (xP x c, S) := by
  unfold fX6_bestChange
  exact m_gg_out h ok x.2.2 lF 0 (-4, c) rfl (by omega) (by have := ok.1; simp [lF]; omega)
/-! ===== the reference's image: 68 numbers in a row ===== -/
def lr (j : Nat) : Nat := if j < 3 then 0 else if j < 28 then 1 + (j - 3) % 5 else 6
def li (j : Nat) : Nat := if j < 3 then j else if j < 28 then (j - 3) / 5 else j - 28
theorem lri {i j : Nat} (hi : i < 68) (hj : j < 68) (h : lr i = lr j) (h2 : li i = li j) : i = j := by
  unfold lr at h
  unfold li at h2
  split at h <;> split at h <;> (try split at h) <;> (try split at h) <;> simp_all <;> omega
def TK (u pos : Nat) (S0 S : mM) : Prop := S.2.1 = S0.2.1 ∧ S.2.2 = u ∧ S.1 0 15 = nI 1 ∧ S.1 0 14 = nI pos ∧ (∀ k, k ≠ 14 → k ≠ 15 → S.1 0 k = S0.1 0 k) ∧ (∀ r, r ≠ 0 → r ≠ u → S.1 r = S0.1 r) ∧ (∀ j, j < pos → S.1 u j = S0.1 (lr j) (li j))
def RS (u pos : Nat) (S0 S : mM) : Prop := S.2.1 = S0.2.1 ∧ S.2.2 = u ∧ S.1 0 15 = nI 0 ∧ S.1 0 14 = nI pos ∧ (∀ k, 2 < k → k ≠ 14 → k ≠ 15 → S.1 0 k = S0.1 0 k) ∧ (∀ r, 7 ≤ r → S.1 r = S0.1 r) ∧ (∀ j, j < pos → S.1 (lr j) (li j) = S0.1 u j)
theorem upd_id {f : Nat → Int32} {k : Nat} {v : Int32} (h : v = f k) : upd f k v = f := by
  funext j
  by_cases c : j = k
  · subst c; rw [upd_s, h]
  · rw [upd_n c]
theorem TK_step {u pos r i : Nat} {S0 S : mM} (hu : u = 8 ∨ u = 9) (hp : pos < 68) (h : TK u pos S0 S) (hr : r = lr pos) (hi : i = li pos) : ∃ S1, fX6_carry S (S.1 r i) = some (S0.1 r i, S1) ∧ TK u (pos + 1) S0 (mS S1 r i (S0.1 r i)) := by
  obtain ⟨a1, a2, a3, a4, a5, a6, a7⟩ := h
  have hr6 : r ≤ 6 := by rw [hr]; unfold lr; split <;> (try split) <;> omega
  have hi14 : r = 0 → i ≤ 2 := by rw [hr, hi]; unfold lr li; split <;> (try split) <;> omega
  have hv : S.1 r i = S0.1 r i := by
    by_cases c : r = 0
    · rw [c]; exact a5 i (by have := hi14 c; omega) (by have := hi14 c; omega)
    · rw [a6 r c (by omega)]
  rw [hv]
  refine ⟨mS (mS S u pos (S0.1 r i)) 0 14 (nI (pos + 1)), ?_, ?_⟩
  · unfold fX6_carry fX6_carry_17
    rw [a3, a2, a4]
    simp (disch := omega) only [ile_t, ile_f, ilt_t, ilt_f, ieq_t, ieq_f, i0n_f, i0p_t, i0e_t, i0e_f, i0l_t, i0l_f, i0g_t, i0g_f, b2_if, ↓reduceIte, bd_s, bv_s, sv_s, gi_n, gz_n, gb_0, gb_1, gb_b, gn_o, cl_n]
    rw [show (mS S u pos (S0.1 r i)).1 0 14 = nI pos by rw [mS_n (by omega)]; exact a4, nI_add]
    rw [show (mS (mS S u pos (S0.1 r i)) 0 14 (nI (pos + 1))).1 0 14 = nI (pos + 1) by rw [mS_s, upd_s]]
    rw [show (mS (mS S u pos (S0.1 r i)) 0 14 (nI (pos + 1))).2.2 = u from a2]
    simp (disch := omega) only [bd_s, bv_s, sv_s, gi_n, gz_n, gb_0, gb_1, gb_b, gn_o, cl_n, su_n, Nat.add_sub_cancel]
    rw [mS_n (by omega), mS_s, upd_s]
  · have hid : (mS (mS (mS S u pos (S0.1 r i)) 0 14 (nI (pos + 1))) r i (S0.1 r i)).1 r = (mS (mS S u pos (S0.1 r i)) 0 14 (nI (pos + 1))).1 r := by
      rw [mS_s]
      apply upd_id
      by_cases c : r = 0
      · rw [c, mS_s, upd_n (by have := hi14 c; omega), mS_n (by omega), ← c]; exact hv.symm
      · rw [mS_n c, mS_n (by omega)]; exact hv.symm
    have key : ∀ z, (mS (mS (mS S u pos (S0.1 r i)) 0 14 (nI (pos + 1))) r i (S0.1 r i)).1 z = (mS (mS S u pos (S0.1 r i)) 0 14 (nI (pos + 1))).1 z := by
      intro z
      by_cases c : z = r
      · rw [c]; exact hid
      · rw [mS_n c]
    refine ⟨a1, a2, ?_, ?_, ?_, ?_, ?_⟩
    · rw [key, mS_s, upd_n (by omega), mS_n (by omega)]; exact a3
    · rw [key, mS_s, upd_s]
    · intro k k1 k2
      rw [key, mS_s, upd_n k1, mS_n (by omega)]; exact a5 k k1 k2
    · intro z z1 z2
      rw [key, mS_n z1, mS_n z2]; exact a6 z z1 z2
    · intro j hj
      rw [key, mS_n (by omega), mS_s]
      by_cases c : j = pos
      · rw [c, upd_s, hr, hi]
      · rw [upd_n c]; exact a7 j (by omega)
theorem RS_step {u pos r i : Nat} {S0 S : mM} (hu : u = 8 ∨ u = 9) (hp : pos < 68) (h : RS u pos S0 S) (hr : r = lr pos) (hi : i = li pos) (v : Int32) : ∃ S1, fX6_carry S v = some (S0.1 u pos, S1) ∧ RS u (pos + 1) S0 (mS S1 r i (S0.1 u pos)) := by
  obtain ⟨a1, a2, a3, a4, a5, a6, a7⟩ := h
  have hr6 : r ≤ 6 := by rw [hr]; unfold lr; split <;> (try split) <;> omega
  have hi14 : r = 0 → i ≤ 2 := by rw [hr, hi]; unfold lr li; split <;> (try split) <;> omega
  refine ⟨mS S 0 14 (nI (pos + 1)), ?_, ?_⟩
  · unfold fX6_carry fX6_carry_17
    rw [a3, a4]
    simp (disch := omega) only [ile_t, ile_f, ilt_t, ilt_f, ieq_t, ieq_f, i0n_f, i0p_t, i0e_t, i0e_f, i0l_t, i0l_f, i0g_t, i0g_f, b2_if, ↓reduceIte, bd_s, bv_s, sv_s, gi_n, gz_n, gb_0, gb_1, gb_b, gn_o, cl_n, nI_add]
    rw [show (mS S 0 14 (nI (pos + 1))).1 0 14 = nI (pos + 1) by rw [mS_s, upd_s]]
    rw [show (mS S 0 14 (nI (pos + 1))).2.2 = u from a2]
    simp (disch := omega) only [bd_s, bv_s, sv_s, gi_n, gz_n, gb_0, gb_1, gb_b, gn_o, cl_n, su_n, Nat.add_sub_cancel]
    rw [mS_n (by omega), a6 u (by omega)]
  · refine ⟨a1, a2, ?_, ?_, ?_, ?_, ?_⟩
    · by_cases c : r = 0
      · rw [c, mS_s, upd_n (by have := hi14 c; omega), mS_s, upd_n (by omega)]; exact a3
      · rw [mS_n (Ne.symm c), mS_s, upd_n (by omega)]; exact a3
    · by_cases c : r = 0
      · rw [c, mS_s, upd_n (by have := hi14 c; omega), mS_s, upd_s]
      · rw [mS_n (Ne.symm c), mS_s, upd_s]
    · intro k k0 k1 k2
      by_cases c : r = 0
      · rw [c, mS_s, upd_n (by have := hi14 c; omega), mS_s, upd_n k1]; exact a5 k k0 k1 k2
      · rw [mS_n (Ne.symm c), mS_s, upd_n k1]; exact a5 k k0 k1 k2
    · intro z z1
      rw [mS_n (by omega), mS_n (by omega)]; exact a6 z z1
    · intro j hj
      by_cases c : j = pos
      · subst c
        rw [← hr, ← hi, mS_s, upd_s]
      · have hj68 : j < 68 := by omega
        have hl14 : lr j = 0 → li j ≤ 2 := by unfold lr li; split <;> (try split) <;> omega
        have e0 : (mS S 0 14 (nI (pos + 1))).1 (lr j) (li j) = S.1 (lr j) (li j) := by
          by_cases c0 : lr j = 0
          · rw [c0, mS_s, upd_n (by have := hl14 c0; omega)]
          · rw [mS_n c0]
        by_cases c2 : lr j = r
        · rw [c2, mS_s, upd_n (fun e => c (lri hj68 hp (by rw [c2, hr]) (by rw [e, hi]))), ← c2, e0]
          exact a7 j (by omega)
        · rw [mS_n c2, e0]
          exact a7 j (by omega)

theorem TK_cars {u : Nat} (hu : u = 8 ∨ u = 9) {S0 : mM} : ∀ (d n k : Nat) (S : mM), 40 - k = d → k ≤ 40 → d < n → TK u (28 + k) S0 S → ∃ S', fX6_carryAll_146 u n S (nI k) = some S' ∧ TK u 68 S0 S' := by
  intro d
  induction d with
  | zero =>
    intro n k S hd hk hn h
    obtain ⟨n, rfl⟩ : ∃ m, n = m + 1 := ⟨n - 1, by omega⟩
    unfold fX6_carryAll_146
    simp (disch := omega) only [ile_t, ile_f, ilt_t, ilt_f, ieq_t, ieq_f, i0n_f, i0p_t, i0e_t, i0e_f, i0l_t, i0l_f, i0g_t, i0g_f, b2_if, ↓reduceIte]
    exact ⟨S, rfl, by rw [show 68 = 28 + k by omega]; exact h⟩
  | succ d ih =>
    intro n k S hd hk hn h
    obtain ⟨n, rfl⟩ : ∃ m, n = m + 1 := ⟨n - 1, by omega⟩
    obtain ⟨S1, e1, h1⟩ := TK_step (r := 6) (i := k) hu (by omega) h (by unfold lr; rw [if_neg (by omega), if_neg (by omega)]) (by unfold li; rw [if_neg (by omega), if_neg (by omega)]; omega)
    obtain ⟨S2, e2, h2⟩ := ih n (k + 1) _ (by omega) (by omega) (by omega) h1
    unfold fX6_carryAll_146
    simp (disch := omega) only [ile_t, ile_f, ilt_t, ilt_f, ieq_t, ieq_f, i0n_f, i0p_t, i0e_t, i0e_f, i0l_t, i0l_f, i0g_t, i0g_f, b2_if, ↓reduceIte, bd_s, bv_s, sv_s, gi_n, gz_n, gb_0, gb_1, gb_b, gn_o, cl_n, e1, nI_add]
    exact ⟨S2, e2, h2⟩
theorem RS_cars {u : Nat} (hu : u = 8 ∨ u = 9) {S0 : mM} : ∀ (d n k : Nat) (S : mM), 40 - k = d → k ≤ 40 → d < n → RS u (28 + k) S0 S → ∃ S', fX6_carryAll_146 u n S (nI k) = some S' ∧ RS u 68 S0 S' := by
  intro d
  induction d with
  | zero =>
    intro n k S hd hk hn h
    obtain ⟨n, rfl⟩ : ∃ m, n = m + 1 := ⟨n - 1, by omega⟩
    unfold fX6_carryAll_146
    simp (disch := omega) only [ile_t, ile_f, ilt_t, ilt_f, ieq_t, ieq_f, i0n_f, i0p_t, i0e_t, i0e_f, i0l_t, i0l_f, i0g_t, i0g_f, b2_if, ↓reduceIte]
    exact ⟨S, rfl, by rw [show 68 = 28 + k by omega]; exact h⟩
  | succ d ih =>
    intro n k S hd hk hn h
    obtain ⟨n, rfl⟩ : ∃ m, n = m + 1 := ⟨n - 1, by omega⟩
    obtain ⟨S1, e1, h1⟩ := RS_step (r := 6) (i := k) hu (by omega) h (by unfold lr; rw [if_neg (by omega), if_neg (by omega)]) (by unfold li; rw [if_neg (by omega), if_neg (by omega)]; omega) (S.1 6 k)
    obtain ⟨S2, e2, h2⟩ := ih n (k + 1) _ (by omega) (by omega) (by omega) h1
    unfold fX6_carryAll_146
    simp (disch := omega) only [ile_t, ile_f, ilt_t, ilt_f, ieq_t, ieq_f, i0n_f, i0p_t, i0e_t, i0e_f, i0l_t, i0l_f, i0g_t, i0g_f, b2_if, ↓reduceIte, bd_s, bv_s, sv_s, gi_n, gz_n, gb_0, gb_1, gb_b, gn_o, cl_n, e1, nI_add]
    exact ⟨S2, e2, h2⟩
theorem lr_5 {k c : Nat} (hk : k < 5) (hc : c < 5) : 1 + c = lr (3 + 5 * k + c) := by unfold lr; rw [if_neg (by omega), if_pos (by omega)]; omega
theorem li_5 {k c : Nat} (hk : k < 5) (hc : c < 5) : k = li (3 + 5 * k + c) := by unfold li; rw [if_neg (by omega), if_pos (by omega)]; omega
theorem TK_lanes {u : Nat} (hu : u = 8 ∨ u = 9) {S0 : mM} : ∀ (d n k : Nat) (S : mM), 5 - k = d → k ≤ 5 → d < n → TK u (3 + 5 * k) S0 S → ∃ S', fX6_carryAll_53 u n S (nI k) = some S' ∧ TK u 68 S0 S' := by
  intro d
  induction d with
  | zero =>
    intro n k S hd hk hn h
    obtain ⟨n, rfl⟩ : ∃ m, n = m + 1 := ⟨n - 1, by omega⟩
    unfold fX6_carryAll_53
    simp (disch := omega) only [ile_t, ile_f, ilt_t, ilt_f, ieq_t, ieq_f, i0n_f, i0p_t, i0e_t, i0e_f, i0l_t, i0l_f, i0g_t, i0g_f, b2_if, ↓reduceIte]
    exact TK_cars hu 40 lF 0 S rfl (by omega) (by simp [lF]) (by rw [show 28 + 0 = 3 + 5 * k by omega]; exact h)
  | succ d ih =>
    intro n k S hd hk hn h
    obtain ⟨n, rfl⟩ : ∃ m, n = m + 1 := ⟨n - 1, by omega⟩
    obtain ⟨S1, e1, h1⟩ := TK_step (r := 1) (i := k) hu (by omega) h (lr_5 (c := 0) (by omega) (by omega)) (li_5 (c := 0) (by omega) (by omega))
    obtain ⟨S2, e2, h2⟩ := TK_step (r := 2) (i := k) hu (by omega) h1 (lr_5 (c := 1) (by omega) (by omega)) (li_5 (c := 1) (by omega) (by omega))
    obtain ⟨S3, e3, h3⟩ := TK_step (r := 3) (i := k) hu (by omega) h2 (lr_5 (c := 2) (by omega) (by omega)) (li_5 (c := 2) (by omega) (by omega))
    obtain ⟨S4, e4, h4⟩ := TK_step (r := 4) (i := k) hu (by omega) h3 (lr_5 (c := 3) (by omega) (by omega)) (li_5 (c := 3) (by omega) (by omega))
    obtain ⟨S5, e5, h5⟩ := TK_step (r := 5) (i := k) hu (by omega) h4 (lr_5 (c := 4) (by omega) (by omega)) (li_5 (c := 4) (by omega) (by omega))
    obtain ⟨S6, e6, h6⟩ := ih n (k + 1) _ (by omega) (by omega) (by omega) (by rw [show 3 + 5 * (k + 1) = 3 + 5 * k + 1 + 1 + 1 + 1 + 1 by omega]; exact h5)
    unfold fX6_carryAll_53
    simp (disch := omega) only [ile_t, ile_f, ilt_t, ilt_f, ieq_t, ieq_f, i0n_f, i0p_t, i0e_t, i0e_f, i0l_t, i0l_f, i0g_t, i0g_f, b2_if, ↓reduceIte, bd_s, bv_s, sv_s, gi_n, gz_n, gb_0, gb_1, gb_b, gn_o, cl_n, e1, e2, e3, e4, e5, nI_add]
    exact ⟨S6, e6, h6⟩
theorem RS_lanes {u : Nat} (hu : u = 8 ∨ u = 9) {S0 : mM} : ∀ (d n k : Nat) (S : mM), 5 - k = d → k ≤ 5 → d < n → RS u (3 + 5 * k) S0 S → ∃ S', fX6_carryAll_53 u n S (nI k) = some S' ∧ RS u 68 S0 S' := by
  intro d
  induction d with
  | zero =>
    intro n k S hd hk hn h
    obtain ⟨n, rfl⟩ : ∃ m, n = m + 1 := ⟨n - 1, by omega⟩
    unfold fX6_carryAll_53
    simp (disch := omega) only [ile_t, ile_f, ilt_t, ilt_f, ieq_t, ieq_f, i0n_f, i0p_t, i0e_t, i0e_f, i0l_t, i0l_f, i0g_t, i0g_f, b2_if, ↓reduceIte]
    exact RS_cars hu 40 lF 0 S rfl (by omega) (by simp [lF]) (by rw [show 28 + 0 = 3 + 5 * k by omega]; exact h)
  | succ d ih =>
    intro n k S hd hk hn h
    obtain ⟨n, rfl⟩ : ∃ m, n = m + 1 := ⟨n - 1, by omega⟩
    obtain ⟨S1, e1, h1⟩ := RS_step (r := 1) (i := k) hu (by omega) h (lr_5 (c := 0) (by omega) (by omega)) (li_5 (c := 0) (by omega) (by omega)) (S.1 1 k)
    obtain ⟨S2, e2, h2⟩ := RS_step (r := 2) (i := k) hu (by omega) h1 (lr_5 (c := 1) (by omega) (by omega)) (li_5 (c := 1) (by omega) (by omega)) ((mS S1 1 k (S0.1 u (3 + 5 * k))).1 2 k)
    obtain ⟨S3, e3, h3⟩ := RS_step (r := 3) (i := k) hu (by omega) h2 (lr_5 (c := 2) (by omega) (by omega)) (li_5 (c := 2) (by omega) (by omega)) ((mS S2 2 k (S0.1 u (3 + 5 * k + 1))).1 3 k)
    obtain ⟨S4, e4, h4⟩ := RS_step (r := 4) (i := k) hu (by omega) h3 (lr_5 (c := 3) (by omega) (by omega)) (li_5 (c := 3) (by omega) (by omega)) ((mS S3 3 k (S0.1 u (3 + 5 * k + 1 + 1))).1 4 k)
    obtain ⟨S5, e5, h5⟩ := RS_step (r := 5) (i := k) hu (by omega) h4 (lr_5 (c := 4) (by omega) (by omega)) (li_5 (c := 4) (by omega) (by omega)) ((mS S4 4 k (S0.1 u (3 + 5 * k + 1 + 1 + 1))).1 5 k)
    obtain ⟨S6, e6, h6⟩ := ih n (k + 1) _ (by omega) (by omega) (by omega) (by rw [show 3 + 5 * (k + 1) = 3 + 5 * k + 1 + 1 + 1 + 1 + 1 by omega]; exact h5)
    unfold fX6_carryAll_53
    simp (disch := omega) only [ile_t, ile_f, ilt_t, ilt_f, ieq_t, ieq_f, i0n_f, i0p_t, i0e_t, i0e_f, i0l_t, i0l_f, i0g_t, i0g_f, b2_if, ↓reduceIte, bd_s, bv_s, sv_s, gi_n, gz_n, gb_0, gb_1, gb_b, gn_o, cl_n, e1, e2, e3, e4, e5, nI_add]
    exact ⟨S6, e6, h6⟩
theorem m_take {u : Nat} (hu : u = 8 ∨ u = 9) (S : mM) : ∃ S', fX6_carryAll u S (nI 1) = some S' ∧ TK u 68 S S' := by
  have h0 : TK u 0 S (mS (mS (S.1, S.2.1, u) 0 15 (nI 1)) 0 14 (nI 0)) := by
    refine ⟨rfl, rfl, ?_, ?_, ?_, ?_, ?_⟩
    · rw [mS_s, upd_n (by omega), mS_s, upd_s]
    · rw [mS_s, upd_s]
    · intro k k1 k2; rw [mS_s, upd_n k1, mS_s, upd_n k2]
    · intro r r1 r2; rw [mS_n r1, mS_n r1]
    · intro j hj; omega
  obtain ⟨S1, e1, h1⟩ := TK_step (r := 0) (i := 0) hu (by omega) h0 rfl rfl
  obtain ⟨S2, e2, h2⟩ := TK_step (r := 0) (i := 1) hu (by omega) h1 rfl rfl
  obtain ⟨S3, e3, h3⟩ := TK_step (r := 0) (i := 2) hu (by omega) h2 rfl rfl
  unfold fX6_carryAll
  have hF : 5 < lF := by simp [lF]
  generalize lF = F at hF ⊢
  obtain ⟨S4, e4, h4⟩ := TK_lanes hu 5 F 0 _ rfl (by omega) hF h3
  simp only [sv_s, gb_1, e1, e2, e3, bd_s]
  rw [e4]
  exact ⟨S4, rfl, h4⟩
theorem m_give {u : Nat} (hu : u = 8 ∨ u = 9) (S : mM) : ∃ S', fX6_carryAll u S (nI 0) = some S' ∧ RS u 68 S S' := by
  have h0 : RS u 0 S (mS (mS (S.1, S.2.1, u) 0 15 (nI 0)) 0 14 (nI 0)) := by
    refine ⟨rfl, rfl, ?_, ?_, ?_, ?_, ?_⟩
    · rw [mS_s, upd_n (by omega), mS_s, upd_s]
    · rw [mS_s, upd_s]
    · intro k k0 k1 k2; rw [mS_s, upd_n k1, mS_s, upd_n k2]
    · intro r r1; rw [mS_n (by omega), mS_n (by omega)]
    · intro j hj; omega
  obtain ⟨S1, e1, h1⟩ := RS_step (r := 0) (i := 0) hu (by omega) h0 rfl rfl ((mS (mS (S.1, S.2.1, u) 0 15 (nI 0)) 0 14 (nI 0)).1 0 0)
  obtain ⟨S2, e2, h2⟩ := RS_step (r := 0) (i := 1) hu (by omega) h1 rfl rfl ((mS S1 0 0 (S.1 u 0)).1 0 1)
  obtain ⟨S3, e3, h3⟩ := RS_step (r := 0) (i := 2) hu (by omega) h2 rfl rfl ((mS S2 0 1 (S.1 u (0 + 1))).1 0 2)
  unfold fX6_carryAll
  have hF : 5 < lF := by simp [lF]
  generalize lF = F at hF ⊢
  obtain ⟨S4, e4, h4⟩ := RS_lanes hu 5 F 0 _ rfl (by omega) hF h3
  simp only [sv_s, gb_0, e1, e2, e3, bd_s]
  rw [e4]
  exact ⟨S4, rfl, h4⟩
/-- what an image holds -/
def rI (f : Nat → Int32) (x : Xx) : Prop := f 0 = nI x.2.2.length ∧ f 1 = x.1 ∧ f 2 = x.2.1 ∧ ∀ i q, x.2.2[i]? = some q → f (3 + 5 * i + 0) = nI q.1 ∧ f (3 + 5 * i + 1) = nI q.2.1 ∧ f (3 + 5 * i + 2) = nI q.2.2.2.2.length ∧ f (3 + 5 * i + 3) = nI q.2.2.1 ∧ f (3 + 5 * i + 4) = q.2.2.2.1 ∧ ∀ k s, q.2.2.2.2[k]? = some s → f (28 + (8 * i + k)) = nI s
theorem lr_c {z : Nat} : lr (28 + z) = 6 := by unfold lr; rw [if_neg (by omega), if_neg (by omega)]
theorem li_c {z : Nat} : li (28 + z) = z := by unfold li; rw [if_neg (by omega), if_neg (by omega)]; omega
theorem take_rI {u : Nat} {S S' : mM} {x : Xx} (h : rM S x) (ok : okX x) (t : TK u 68 S S') : rI (S'.1 u) x := by
  have hl := ok.1
  obtain ⟨-, -, -, -, -, -, a7⟩ := t
  refine ⟨(a7 0 (by omega)).trans h.1, (a7 1 (by omega)).trans h.2.1, (a7 2 (by omega)).trans h.2.2.1, fun i q hq => ?_⟩
  have hi := (List.getElem?_eq_some_iff.mp hq).1
  have hlen := (okX_at ok hq).2.2.2.1
  obtain ⟨b1, b2', b3, b4, b5, b6⟩ := h.2.2.2 i q hq
  refine ⟨?_, ?_, ?_, ?_, ?_, fun k s hk => ?_⟩
  · rw [a7 _ (by omega), ← lr_5 (by omega) (by omega), ← li_5 (by omega) (by omega)]; exact b1
  · rw [a7 _ (by omega), ← lr_5 (by omega) (by omega), ← li_5 (by omega) (by omega)]; exact b2'
  · rw [a7 _ (by omega), ← lr_5 (by omega) (by omega), ← li_5 (by omega) (by omega)]; exact b3
  · rw [a7 _ (by omega), ← lr_5 (by omega) (by omega), ← li_5 (by omega) (by omega)]; exact b4
  · rw [a7 _ (by omega), ← lr_5 (by omega) (by omega), ← li_5 (by omega) (by omega)]; exact b5
  · have := (List.getElem?_eq_some_iff.mp hk).1
    rw [a7 _ (by omega), lr_c, li_c]
    exact b6 k s hk
theorem take_rM {u : Nat} (hu : u = 8 ∨ u = 9) {S S' : mM} {x : Xx} (h : rM S x) (t : TK u 68 S S') : rM S' x := by
  obtain ⟨-, -, -, -, a5, a6, -⟩ := t
  exact rM_core h (fun k hk => a5 k (by omega) (by omega)) (fun r r1 r2 => a6 r (by omega) (by omega))
theorem give_rM {u : Nat} {S S' : mM} {x : Xx} (h : rI (S.1 u) x) (ok : okX x) (t : RS u 68 S S') : rM S' x := by
  have hl := ok.1
  obtain ⟨-, -, -, -, -, -, a7⟩ := t
  refine ⟨(a7 0 (by omega)).trans h.1, (a7 1 (by omega)).trans h.2.1, (a7 2 (by omega)).trans h.2.2.1, fun i q hq => ?_⟩
  have hi := (List.getElem?_eq_some_iff.mp hq).1
  have hlen := (okX_at ok hq).2.2.2.1
  obtain ⟨b1, b2', b3, b4, b5, b6⟩ := h.2.2.2 i q hq
  have go : ∀ c, c < 5 → S'.1 (1 + c) i = S.1 u (3 + 5 * i + c) := fun c hc => by
    have := a7 (3 + 5 * i + c) (by omega)
    rw [← lr_5 (by omega) hc, ← li_5 (by omega) hc] at this
    exact this
  refine ⟨(go 0 (by omega)).trans b1, (go 1 (by omega)).trans b2', (go 2 (by omega)).trans b3, (go 3 (by omega)).trans b4, (go 4 (by omega)).trans b5, fun k s hk => ?_⟩
  have := (List.getElem?_eq_some_iff.mp hk).1
  have := a7 (28 + (8 * i + k)) (by omega)
  rw [lr_c, li_c] at this
  exact this.trans (b6 k s hk)
/-- what stays: the image, the shelves -/
def mkp (S S' : mM) : Prop := S'.2.1 26 = S.2.1 26 ∧ S'.1 9 = S.1 9 ∧ S'.1 0 13 = S.1 0 13 ∧ ∀ r, 20 ≤ r → S'.1 r = S.1 r
theorem mkp.rf {S : mM} : mkp S S := ⟨rfl, rfl, rfl, fun _ _ => rfl⟩
theorem mkp.tr {S S1 S2 : mM} (h1 : mkp S S1) (h2 : mkp S1 S2) : mkp S S2 := ⟨h2.1.trans h1.1, h2.2.1.trans h1.2.1, h2.2.2.1.trans h1.2.2.1, fun r a => (h2.2.2.2 r a).trans (h1.2.2.2 r a)⟩
theorem mfr.kp {S S' : mM} (h : mfr S S') : mkp S S' := ⟨by rw [h.1], h.2.2 9 (by omega), h.2.1 13 (by omega), fun r hr => h.2.2 r (by omega)⟩
theorem m_open {S : mM} {x : Xx} (h : rM S x) (ok : okX x) : ∃ S', fX6_open S = some S' ∧ rM S' x ∧ rI (S'.1 8) x ∧ mkp S S' ∧ S'.2.1 = S.2.1 ∧ (∀ k, k ≠ 14 → k ≠ 15 → S'.1 0 k = S.1 0 k) ∧ (∀ r, r ≠ 0 → r ≠ 8 → S'.1 r = S.1 r) := by
  obtain ⟨S', e, t⟩ := m_take (Or.inl rfl) S
  have hr := take_rM (Or.inl rfl) h t
  have hi := take_rI h ok t
  obtain ⟨a1, -, -, -, a5, a6, -⟩ := t
  exact ⟨S', by unfold fX6_open; rw [e, bv_s], hr, hi, ⟨by rw [a1], a6 9 (by omega) (by omega), a5 13 (by omega) (by omega), fun r hr => a6 r (by omega) (by omega)⟩, a1, a5, a6⟩
theorem m_close {S : mM} {x : Xx} (h : rI (S.1 8) x) (ok : okX x) : ∃ S', fX6_close S = some S' ∧ rM S' x ∧ mkp S S' ∧ S'.2.1 = S.2.1 ∧ (∀ k, 2 < k → k ≠ 14 → k ≠ 15 → S'.1 0 k = S.1 0 k) ∧ (∀ r, 7 ≤ r → S'.1 r = S.1 r) := by
  obtain ⟨S', e, t⟩ := m_give (Or.inl rfl) S
  have hr := give_rM h ok t
  obtain ⟨a1, -, -, -, a5, a6, -⟩ := t
  exact ⟨S', by unfold fX6_close; rw [e, bv_s], hr, ⟨by rw [a1], a6 9 (by omega), a5 13 (by omega) (by omega) (by omega), fun r hr => a6 r (by omega)⟩, a1, a5, a6⟩
