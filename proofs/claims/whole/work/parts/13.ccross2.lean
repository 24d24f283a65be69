/-! ===== which lane: the first of those with the least ===== -/
def wh (f : Qq → Nat) : List Qq → Nat → Option (Nat × Nat) → Option (Nat × Nat)
  | [], _, b => b
  | q :: l, i, b => wh f l (i + 1) (if qM q = true then (match b with
      | none => some (i, f q)
      | some (j, v) => if f q < v then some (i, f q) else some (j, v)) else b)
def fI : Option (Nat × Nat) → Int32
  | none => -4
  | some (j, _) => nI j
def lI : Option (Nat × Nat) → Int32
  | none => nI 2147483647
  | some (_, v) => nI v
def bOk (l : List Qq) (f : Qq → Nat) (b : Option (Nat × Nat)) : Prop := ∀ j v, b = some (j, v) → ∃ q, l[j]? = some q ∧ f q = v
theorem qW_le {q : Qq} (ok : okQ q) : qW q ≤ 225 := by
  have h1 := tks_le (kd := q.1) ok.2.1 (q.2.2.2.2.drop 1)
  have h2 := ok.2.2.2.1
  have h3 := ok.2.2.1
  have h4 : (q.2.2.2.2.drop 1).length ≤ 8 := by simp; omega
  unfold qW
  omega
theorem qT_le {q : Qq} (ok : okQ q) (i : Nat) : qT q i ≤ 225 := by
  have h1 := tks_le (kd := q.1) ok.2.1 ((q.2.2.2.2.drop 1).take i)
  have h2 := ok.2.2.2.1
  have h3 := ok.2.2.1
  have h4 : ((q.2.2.2.2.drop 1).take i).length ≤ 8 := by simp; omega
  unfold qT
  omega
theorem qN_le {q : Qq} (ok : okQ q) (s : Nat) : qN q s ≤ 250 := by
  have h1 := qW_le ok
  have h2 := @tk_le q.1 q.2.1 s ok.2.1
  unfold qN
  omega
theorem qS_le {q : Qq} (ok : okQ q) : qS q ≤ 64 := by
  have h1 := pls_le (q.2.2.2.2.take (sn q.1 q.2.1 q.2.2.2.2.length))
  have h2 := ok.2.2.2.1
  have h4 : (q.2.2.2.2.take (sn q.1 q.2.1 q.2.2.2.2.length)).length ≤ 8 := by simp; omega
  unfold qS
  omega
theorem qA_le {q : Qq} (ok : okQ q) : qA q ≤ 2000 := by
  have h1 := aT_le (kd := q.1) ok.2.1 (q.2.2.2.2.drop 1) q.2.2.1
  have h2 := ok.2.2.2.1
  have h3 := ok.2.2.1
  have h4 : (q.2.2.2.2.drop 1).length ≤ 8 := by simp; omega
  have h5 : (q.2.2.1 + 25 * (q.2.2.2.2.drop 1).length) * (q.2.2.2.2.drop 1).length ≤ 225 * 8 := Nat.mul_le_mul (by omega) h4
  unfold qA
  omega
theorem c_which_l {S : cM} {u : Nat} {x : Xx} (h : rC S u x) (ok : okX x) : ∀ (l : List Qq) (n i : Nat) (b : Option (Nat × Nat)), x.2.2.drop i = l → i ≤ 5 → (∀ j v, b = some (j, v) → v < 2147483647) → l.length < n →
    fX1_seemingLane_8 u n S (fI b) (lI b) (nI i) = some (fI (wh qS l i b), S) := by
  have hl := ok.1
  intro l
  induction l with
  | nil =>
    intro n i b e hi hb hn
    have := dropN e
    obtain ⟨n, rfl⟩ : ∃ m, n = m + 1 := ⟨n - 1, by omega⟩
    unfold fX1_seemingLane_8
    rw [h.1]
    simp (disch := omega) only [ile_t, ile_f, ilt_t, ilt_f, ieq_t, ieq_f, i0n_f, i0p_t, i0e_t, i0e_f, i0l_t, i0l_f, i0g_t, i0g_f, b2_if, ↓reduceIte, wh]
  | cons q l ih =>
    intro n i b e hi hb hn
    obtain ⟨e1, e2, e3⟩ := dropC e
    simp only [List.length_cons] at hn
    obtain ⟨n, rfl⟩ : ∃ m, n = m + 1 := ⟨n - 1, by omega⟩
    have hq := h.2.2.2 i q e1
    have okq := okX_at ok e1
    have hS := qS_le okq
    unfold fX1_seemingLane_8 fX1_seemingLane_50
    rw [h.1]
    simp (disch := omega) only [ile_t, ile_f, ilt_t, ilt_f, ieq_t, ieq_f, i0n_f, i0p_t, i0e_t, i0e_f, i0l_t, i0l_f, i0g_t, i0g_f, b2_if, ↓reduceIte, bd_s, bv_s, sv_s, gi_n, gz_n, gb_0, gb_1, gb_b, gn_o, cl_n, p_seemsNow hq okq, p_mayBeChosen hq okq, nI_add]
    simp only [wh]
    cases hM : qM q with
    | false => exact ih n (i + 1) b e2 (by omega) hb (by omega)
    | true =>
      simp only [if_true]
      cases b with
      | none =>
        rw [if_neg (show ¬ lI none ≤ nI (qS q) from nI_ge (by omega) (by omega))]
        exact ih n (i + 1) (some (i, qS q)) e2 (by omega) (fun j v hv => by cases hv; omega) (by omega)
      | some jv =>
        obtain ⟨j, v⟩ := jv
        have hv := hb j v rfl
        by_cases c : qS q < v
        · rw [if_neg (show ¬ lI (some (j, v)) ≤ nI (qS q) from nI_ge c (by omega))]
          dsimp only
          rw [if_pos c]
          exact ih n (i + 1) (some (i, qS q)) e2 (by omega) (fun j v hv => by cases hv; omega) (by omega)
        · rw [if_pos (show lI (some (j, v)) ≤ nI (qS q) from nI_le (by omega) (by omega))]
          dsimp only
          rw [if_neg c]
          exact ih n (i + 1) (some (j, v)) e2 (by omega) hb (by omega)
theorem p_which {S : cM} {u : Nat} {x : Xx} (h : rC S u x) (ok : okX x) : fX1_seemingLane u S = some (fI (wh qS x.2.2 0 none), S) := by
  unfold fX1_seemingLane
  exact c_which_l h ok x.2.2 lF 0 none rfl (by omega) (fun j v hv => by cases hv) (by have := ok.1; simp [lF]; omega)
theorem c_best_l {S : cM} {u : Nat} {x : Xx} (h : rC S u x) (ok : okX x) {s : Nat} (hs : s < 4) : ∀ (l : List Qq) (n i : Nat) (b : Option (Nat × Nat)), x.2.2.drop i = l → i ≤ 5 → (∀ j v, b = some (j, v) → v < 2147483647) → l.length < n →
    fX1_quickestLane_9 u n S (nI s) (fI b) (lI b) (nI i) = some (fI (wh (fun q => qN q s) l i b), S) := by
  have hl := ok.1
  intro l
  induction l with
  | nil =>
    intro n i b e hi hb hn
    have := dropN e
    obtain ⟨n, rfl⟩ : ∃ m, n = m + 1 := ⟨n - 1, by omega⟩
    unfold fX1_quickestLane_9
    rw [h.1]
    simp (disch := omega) only [ile_t, ile_f, ilt_t, ilt_f, ieq_t, ieq_f, i0n_f, i0p_t, i0e_t, i0e_f, i0l_t, i0l_f, i0g_t, i0g_f, b2_if, ↓reduceIte, wh]
  | cons q l ih =>
    intro n i b e hi hb hn
    obtain ⟨e1, e2, e3⟩ := dropC e
    simp only [List.length_cons] at hn
    obtain ⟨n, rfl⟩ : ∃ m, n = m + 1 := ⟨n - 1, by omega⟩
    have hq := h.2.2.2 i q e1
    have okq := okX_at ok e1
    have hS := qN_le okq s
    unfold fX1_quickestLane_9 fX1_quickestLane_56
    rw [h.1]
    simp (disch := omega) only [ile_t, ile_f, ilt_t, ilt_f, ieq_t, ieq_f, i0n_f, i0p_t, i0e_t, i0e_f, i0l_t, i0l_f, i0g_t, i0g_f, b2_if, ↓reduceIte, bd_s, bv_s, sv_s, gi_n, gz_n, gb_0, gb_1, gb_b, gn_o, cl_n, p_timeOfNext hq okq hs, p_mayBeChosen hq okq, nI_add]
    simp only [wh]
    cases hM : qM q with
    | false => exact ih n (i + 1) b e2 (by omega) hb (by omega)
    | true =>
      simp only [if_true]
      cases b with
      | none =>
        rw [if_neg (show ¬ lI none ≤ nI (qN q s) from nI_ge (by omega) (by omega))]
        exact ih n (i + 1) (some (i, qN q s)) e2 (by omega) (fun j v hv => by cases hv; omega) (by omega)
      | some jv =>
        obtain ⟨j, v⟩ := jv
        have hv := hb j v rfl
        by_cases c : qN q s < v
        · rw [if_neg (show ¬ lI (some (j, v)) ≤ nI (qN q s) from nI_ge c (by omega))]
          dsimp only
          rw [if_pos c]
          exact ih n (i + 1) (some (i, qN q s)) e2 (by omega) (fun j v hv => by cases hv; omega) (by omega)
        · rw [if_pos (show lI (some (j, v)) ≤ nI (qN q s) from nI_le (by omega) (by omega))]
          dsimp only
          rw [if_neg c]
          exact ih n (i + 1) (some (j, v)) e2 (by omega) hb (by omega)
theorem p_best {S : cM} {u : Nat} {x : Xx} (h : rC S u x) (ok : okX x) {s : Nat} (hs : s < 4) : fX1_quickestLane u S (nI s) = some (fI (wh (fun q => qN q s) x.2.2 0 none), S) := by
  unfold fX1_quickestLane
  exact c_best_l h ok hs x.2.2 lF 0 none rfl (by omega) (fun j v hv => by cases hv) (by have := ok.1; simp [lF]; omega)
/-- what a search finds lies in the lanes, with its value -/
theorem wh_ok {L : List Qq} {f : Qq → Nat} : ∀ (l : List Qq) (i : Nat) (b : Option (Nat × Nat)), L.drop i = l → bOk L f b → bOk L f (wh f l i b) := by
  intro l
  induction l with
  | nil => intro i b _ hb; exact hb
  | cons q l ih =>
    intro i b e hb
    obtain ⟨e1, e2, e3⟩ := dropC e
    simp only [wh]
    apply ih _ _ e2
    intro j v hv
    cases hM : qM q with
    | false => rw [hM] at hv; exact hb j v (by simpa using hv)
    | true =>
      rw [hM] at hv
      simp only [if_true] at hv
      cases b with
      | none => simp only [Option.some.injEq, Prod.mk.injEq] at hv; obtain ⟨rfl, rfl⟩ := hv; exact ⟨q, e1, rfl⟩
      | some jv =>
        obtain ⟨j0, v0⟩ := jv
        simp only at hv
        split at hv
        · simp only [Option.some.injEq, Prod.mk.injEq] at hv; obtain ⟨rfl, rfl⟩ := hv; exact ⟨q, e1, rfl⟩
        · exact hb j v hv
theorem wh_ok0 {L : List Qq} {f : Qq → Nat} {j v : Nat} (h : wh f L 0 none = some (j, v)) : ∃ q, L[j]? = some q ∧ f q = v := wh_ok L 0 none rfl (fun j v hv => by cases hv) j v h
/-- whether one is found hangs on whether a lane may be chosen alone -/
theorem wh_none {f g : Qq → Nat} : ∀ (l : List Qq) (i : Nat) (b b' : Option (Nat × Nat)), (b = none ↔ b' = none) → (wh f l i b = none ↔ wh g l i b' = none) := by
  intro l
  induction l with
  | nil => intro i b b' h; exact h
  | cons q l ih =>
    intro i b b' h
    simp only [wh]
    apply ih
    cases qM q with
    | false => simpa using h
    | true =>
      simp only [if_true]
      cases b with
      | none =>
        have : b' = none := h.mp rfl
        subst this
        simp
      | some jv =>
        cases b' with
        | none => exact absurd (h.mpr rfl) (by simp)
        | some jv' => simp only; constructor <;> (intro hh; split at hh <;> cases hh)
theorem wh_may {L : List Qq} {f : Qq → Nat} : ∀ (l : List Qq) (i : Nat) (b : Option (Nat × Nat)), L.drop i = l → (∀ j v, b = some (j, v) → ∃ q, L[j]? = some q ∧ qM q = true) → ∀ j v, wh f l i b = some (j, v) → ∃ q, L[j]? = some q ∧ qM q = true := by
  intro l
  induction l with
  | nil => intro i b _ hb; exact hb
  | cons q l ih =>
    intro i b e hb
    obtain ⟨e1, e2, e3⟩ := dropC e
    simp only [wh]
    apply ih _ _ e2
    intro j v hv
    cases hM : qM q with
    | false => rw [hM] at hv; exact hb j v (by simpa using hv)
    | true =>
      rw [hM] at hv
      simp only [if_true] at hv
      cases b with
      | none => simp only [Option.some.injEq, Prod.mk.injEq] at hv; obtain ⟨rfl, rfl⟩ := hv; exact ⟨q, e1, hM⟩
      | some jv =>
        obtain ⟨j0, v0⟩ := jv
        simp only at hv
        split at hv
        · simp only [Option.some.injEq, Prod.mk.injEq] at hv; obtain ⟨rfl, rfl⟩ := hv; exact ⟨q, e1, hM⟩
        · exact hb j v hv
theorem wh_may0 {L : List Qq} {f : Qq → Nat} {j v : Nat} (h : wh f L 0 none = some (j, v)) : ∃ q, L[j]? = some q ∧ qM q = true := wh_may L 0 none rfl (fun j v hv => by cases hv) j v h
theorem fI_neg {α : Type} {x y : α} : (if (-4 : Int32) < 0 then x else y) = x := id rfl
theorem fI_pos {α : Type} {x y : α} : (if (0 : Int32) ≤ (-4 : Int32) then x else y) = y := id rfl
def lT (b : Option (Nat × Nat)) : Int32 := lI b
theorem p_leastTime {S : cM} {u : Nat} {x : Xx} (h : rC S u x) (ok : okX x) {s : Nat} (hs : s < 4) : fX1_leastTime u S (nI s) = some (lI (wh (fun q => qN q s) x.2.2 0 none), S) := by
  have hl := ok.1
  unfold fX1_leastTime
  rw [p_best h ok hs, bd_s]
  cases hb : wh (fun q => qN q s) x.2.2 0 none with
  | none => rfl
  | some jv =>
    obtain ⟨j, v⟩ := jv
    obtain ⟨q, hq, hv⟩ := wh_ok0 hb
    have hj := (List.getElem?_eq_some_iff.mp hq).1
    simp only [fI, lI]
    simp (disch := omega) only [ile_t, ile_f, ilt_t, ilt_f, ieq_t, ieq_f, i0n_f, i0p_t, i0e_t, i0e_f, i0l_t, i0l_f, i0g_t, i0g_f, b2_if, ↓reduceIte, bd_s, bv_s, sv_s, gi_n, gz_n, gb_0, gb_1, gb_b, gn_o, cl_n, p_timeOfNext (h.2.2.2 j q hq) (okX_at ok hq) hs]
    rw [← hv]
/-! sums over the lanes -/
def sA : List Qq → Nat
  | [] => 0
  | q :: l => qA q + sA l
def sC : List Qq → Nat
  | [] => 0
  | q :: l => q.2.2.2.2.length + sC l
def sM : List Qq → Nat
  | [] => 0
  | q :: l => (if qM q = true then 1 else 0) + sM l
def gX : List Qq → Nat → Nat
  | [], m => m
  | q :: l, m => gX l (if m < qW q then qW q else m)
theorem c_all_l {S : cM} {u : Nat} {x : Xx} (h : rC S u x) (ok : okX x) : ∀ (l : List Qq) (n i w : Nat), x.2.2.drop i = l → i ≤ 5 → l.length < n → fX1_timesTogether_4 u n S (nI w) (nI i) = some (nI (w + sA l), S) := by
  have hl := ok.1
  intro l
  induction l with
  | nil =>
    intro n i w e hi hn
    have := dropN e
    obtain ⟨n, rfl⟩ : ∃ m, n = m + 1 := ⟨n - 1, by omega⟩
    unfold fX1_timesTogether_4
    rw [h.1]
    simp (disch := omega) only [ile_t, ile_f, ilt_t, ilt_f, ieq_t, ieq_f, i0n_f, i0p_t, i0e_t, i0e_f, i0l_t, i0l_f, i0g_t, i0g_f, b2_if, ↓reduceIte, sA, Nat.add_zero]
  | cons q l ih =>
    intro n i w e hi hn
    obtain ⟨e1, e2, e3⟩ := dropC e
    simp only [List.length_cons] at hn
    obtain ⟨n, rfl⟩ : ∃ m, n = m + 1 := ⟨n - 1, by omega⟩
    unfold fX1_timesTogether_4
    rw [h.1]
    simp (disch := omega) only [ile_t, ile_f, ilt_t, ilt_f, ieq_t, ieq_f, i0n_f, i0p_t, i0e_t, i0e_f, i0l_t, i0l_f, i0g_t, i0g_f, b2_if, ↓reduceIte, bd_s, bv_s, sv_s, gi_n, gz_n, gb_0, gb_1, gb_b, gn_o, cl_n, p_timesTogether (h.2.2.2 i q e1) (okX_at ok e1), nI_add]
    rw [ih n (i + 1) _ e2 (by omega) (by omega)]
    simp only [sA, Nat.add_assoc]
theorem p_all {S : cM} {u : Nat} {x : Xx} (h : rC S u x) (ok : okX x) : fX1_timesTogether u S = some (nI (sA x.2.2), S) := by
  unfold fX1_timesTogether
  rw [c_all_l h ok x.2.2 lF 0 0 rfl (by omega) (by have := ok.1; simp [lF]; omega), Nat.zero_add]
theorem c_cars_l {S : cM} {u : Nat} {x : Xx} (h : rC S u x) (ok : okX x) : ∀ (l : List Qq) (n i w : Nat), x.2.2.drop i = l → i ≤ 5 → l.length < n → fX1_carsTogether_4 u n S (nI w) (nI i) = some (nI (w + sC l), S) := by
  have hl := ok.1
  intro l
  induction l with
  | nil =>
    intro n i w e hi hn
    have := dropN e
    obtain ⟨n, rfl⟩ : ∃ m, n = m + 1 := ⟨n - 1, by omega⟩
    unfold fX1_carsTogether_4
    rw [h.1]
    simp (disch := omega) only [ile_t, ile_f, ilt_t, ilt_f, ieq_t, ieq_f, i0n_f, i0p_t, i0e_t, i0e_f, i0l_t, i0l_f, i0g_t, i0g_f, b2_if, ↓reduceIte, sC, Nat.add_zero]
  | cons q l ih =>
    intro n i w e hi hn
    obtain ⟨e1, e2, e3⟩ := dropC e
    simp only [List.length_cons] at hn
    obtain ⟨n, rfl⟩ : ∃ m, n = m + 1 := ⟨n - 1, by omega⟩
    unfold fX1_carsTogether_4
    rw [h.1]
    simp (disch := omega) only [ile_t, ile_f, ilt_t, ilt_f, ieq_t, ieq_f, i0n_f, i0p_t, i0e_t, i0e_f, i0l_t, i0l_f, i0g_t, i0g_f, b2_if, ↓reduceIte, bd_s, bv_s, sv_s, gi_n, gz_n, gb_0, gb_1, gb_b, gn_o, cl_n, (h.2.2.2 i q e1).2.2.1, nI_add]
    rw [ih n (i + 1) _ e2 (by omega) (by omega)]
    simp only [sC, Nat.add_assoc]
theorem p_cars {S : cM} {u : Nat} {x : Xx} (h : rC S u x) (ok : okX x) : fX1_carsTogether u S = some (nI (sC x.2.2), S) := by
  unfold fX1_carsTogether
  rw [c_cars_l h ok x.2.2 lF 0 0 rfl (by omega) (by have := ok.1; simp [lF]; omega), Nat.zero_add]
theorem c_may_l {S : cM} {u : Nat} {x : Xx} (h : rC S u x) (ok : okX x) : ∀ (l : List Qq) (n i w : Nat), x.2.2.drop i = l → i ≤ 5 → l.length < n → fX1_lanesToChoose_4 u n S (nI w) (nI i) = some (nI (w + sM l), S) := by
  have hl := ok.1
  intro l
  induction l with
  | nil =>
    intro n i w e hi hn
    have := dropN e
    obtain ⟨n, rfl⟩ : ∃ m, n = m + 1 := ⟨n - 1, by omega⟩
    unfold fX1_lanesToChoose_4
    rw [h.1]
    simp (disch := omega) only [ile_t, ile_f, ilt_t, ilt_f, ieq_t, ieq_f, i0n_f, i0p_t, i0e_t, i0e_f, i0l_t, i0l_f, i0g_t, i0g_f, b2_if, ↓reduceIte, sM, Nat.add_zero]
  | cons q l ih =>
    intro n i w e hi hn
    obtain ⟨e1, e2, e3⟩ := dropC e
    simp only [List.length_cons] at hn
    obtain ⟨n, rfl⟩ : ∃ m, n = m + 1 := ⟨n - 1, by omega⟩
    unfold fX1_lanesToChoose_4 fX1_lanesToChoose_30
    rw [h.1]
    simp (disch := omega) only [ile_t, ile_f, ilt_t, ilt_f, ieq_t, ieq_f, i0n_f, i0p_t, i0e_t, i0e_f, i0l_t, i0l_f, i0g_t, i0g_f, b2_if, ↓reduceIte, bd_s, bv_s, sv_s, gi_n, gz_n, gb_0, gb_1, gb_b, gn_o, cl_n, p_mayBeChosen (h.2.2.2 i q e1) (okX_at ok e1), nI_add]
    rw [ih n (i + 1) _ e2 (by omega) (by omega), ih n (i + 1) _ e2 (by omega) (by omega)]
    simp only [sM]
    cases qM q <;> simp [Nat.add_assoc]
theorem p_may {S : cM} {u : Nat} {x : Xx} (h : rC S u x) (ok : okX x) : fX1_lanesToChoose u S = some (nI (sM x.2.2), S) := by
  unfold fX1_lanesToChoose
  rw [c_may_l h ok x.2.2 lF 0 0 rfl (by omega) (by have := ok.1; simp [lF]; omega), Nat.zero_add]
theorem c_wait_l {S : cM} {u : Nat} {x : Xx} (h : rC S u x) (ok : okX x) : ∀ (l : List Qq) (n i w : Nat), x.2.2.drop i = l → i ≤ 5 → w ≤ 1000 → l.length < n → fX1_greatestWait_4 u n S (nI w) (nI i) = some (nI (gX l w), S) := by
  have hl := ok.1
  intro l
  induction l with
  | nil =>
    intro n i w e hi hw hn
    have := dropN e
    obtain ⟨n, rfl⟩ : ∃ m, n = m + 1 := ⟨n - 1, by omega⟩
    unfold fX1_greatestWait_4
    rw [h.1]
    simp (disch := omega) only [ile_t, ile_f, ilt_t, ilt_f, ieq_t, ieq_f, i0n_f, i0p_t, i0e_t, i0e_f, i0l_t, i0l_f, i0g_t, i0g_f, b2_if, ↓reduceIte, gX]
  | cons q l ih =>
    intro n i w e hi hw hn
    obtain ⟨e1, e2, e3⟩ := dropC e
    simp only [List.length_cons] at hn
    obtain ⟨n, rfl⟩ : ∃ m, n = m + 1 := ⟨n - 1, by omega⟩
    have hW := qW_le (okX_at ok e1)
    unfold fX1_greatestWait_4
    rw [h.1]
    simp only [gX]
    by_cases c : w < qW q
    · simp (disch := omega) only [ile_t, ile_f, ilt_t, ilt_f, ieq_t, ieq_f, i0n_f, i0p_t, i0e_t, i0e_f, i0l_t, i0l_f, i0g_t, i0g_f, b2_if, ↓reduceIte, bd_s, bv_s, sv_s, gi_n, gz_n, gb_0, gb_1, gb_b, gn_o, cl_n, p_waitNow (h.2.2.2 i q e1) (okX_at ok e1), nI_add, c]
      rw [ih n (i + 1) _ e2 (by omega) (by omega) (by omega)]
    · simp (disch := omega) only [ile_t, ile_f, ilt_t, ilt_f, ieq_t, ieq_f, i0n_f, i0p_t, i0e_t, i0e_f, i0l_t, i0l_f, i0g_t, i0g_f, b2_if, ↓reduceIte, bd_s, bv_s, sv_s, gi_n, gz_n, gb_0, gb_1, gb_b, gn_o, cl_n, p_waitNow (h.2.2.2 i q e1) (okX_at ok e1), nI_add, c]
      rw [ih n (i + 1) _ e2 (by omega) (by omega) (by omega)]
theorem p_wait {S : cM} {u : Nat} {x : Xx} (h : rC S u x) (ok : okX x) : fX1_greatestWait u S = some (nI (gX x.2.2 0), S) := by
  unfold fX1_greatestWait
  exact c_wait_l h ok x.2.2 lF 0 0 rfl (by omega) (by omega) (by have := ok.1; simp [lF]; omega)
/-! changes of lane -/
def xG (x : Xx) (a i t : Nat) : Int32 := match x.2.2[a]?, x.2.2[t]? with
  | some q, some q' => nI (qT q i) - nI (qN q' (q.2.2.2.2.getD i 0))
  | _, _ => 0
theorem p_gain {S : cM} {u : Nat} {x : Xx} (h : rC S u x) (ok : okX x) {a i t : Nat} {q q' : Qq} (ha : x.2.2[a]? = some q) (ht : x.2.2[t]? = some q') (hi : i < q.2.2.2.2.length) : fX1_gain u S (nI a) (nI i) (nI t) = some (xG x a i t, S) := by
  have hl := ok.1
  have h1 := (List.getElem?_eq_some_iff.mp ha).1
  have h2 := (List.getElem?_eq_some_iff.mp ht).1
  have h3 := (okX_at ok ha).2.2.2.1
  have hs : q.2.2.2.2[i]? = some (q.2.2.2.2.getD i 0) := by simp [List.getD, hi]
  have hs4 : q.2.2.2.2.getD i 0 < 4 := (okX_at ok ha).2.2.2.2.1 _ (List.mem_of_getElem? hs)
  unfold fX1_gain xG
  rw [ha, ht]
  simp (disch := omega) only [bd_s, bv_s, sv_s, gi_n, gz_n, gb_0, gb_1, gb_b, gn_o, cl_n, p_timeAt (h.2.2.2 a q ha) (okX_at ok ha), (h.2.2.2 a q ha).2.2.2.2.2.1 i _ hs, p_timeOfNext (h.2.2.2 t q' ht) (okX_at ok ht) hs4]
def xV (x : Xx) (a i t : Nat) : Xx := match x.2.2[a]?, x.2.2[t]? with
  | some q, some q' => (x.1, x.2.1, (x.2.2.set a (qD q i)).set t (qC q' (q.2.2.2.2.getD i 0)))
  | _, _ => x
theorem p_move {S : cM} {u : Nat} {x : Xx} (hu : 1 ≤ u ∧ u ≤ 3) (h : rC S u x) (ok : okX x) {a i t : Nat} {q q' : Qq} (ha : x.2.2[a]? = some q) (ht : x.2.2[t]? = some q') (hi : i < q.2.2.2.2.length) (hne : a ≠ t) (hr : q'.2.2.2.2.length < 8) : ∃ S', fX1_move u S (nI a) (nI i) (nI t) = some S' ∧ rC S' u (xV x a i t) ∧ frx S S' u := by
  have hl := ok.1
  have h1 := (List.getElem?_eq_some_iff.mp ha).1
  have h2 := (List.getElem?_eq_some_iff.mp ht).1
  have hs : q.2.2.2.2[i]? = some (q.2.2.2.2.getD i 0) := by simp [List.getD, hi]
  have hs4 : q.2.2.2.2.getD i 0 < 4 := (okX_at ok ha).2.2.2.2.1 _ (List.mem_of_getElem? hs)
  obtain ⟨S1, e1, r1, f1⟩ := p_goOut (h.2.2.2 a q ha) (okX_at ok ha) (by omega) hs
  have hC1 := rC_set (a := x.1) (b := x.2.1) hl h h1 f1 r1 hu
  have ht1 : (x.2.2.set a (qD q i))[t]? = some q' := by rw [List.getElem?_set_ne hne]; exact ht
  obtain ⟨S2, e2, r2, f2⟩ := p_comeIn (hC1.2.2.2 t q' ht1) (okX_at ok ht) (by omega) hs4 hr
  have hC2 := rC_set (a := x.1) (b := x.2.1) (by rw [List.length_set]; exact hl) hC1 (by rw [List.length_set]; exact h2) f2 r2 hu
  refine ⟨S2, ?_, ?_, (frx.ofq f1 (by omega)).tr (frx.ofq f2 (by omega))⟩
  · unfold fX1_move
    rw [hasCar_yes h ok ha hi, bd_s, has_yes h ok h2]
    simp (disch := omega) only [ile_t, ile_f, ilt_t, ilt_f, ieq_t, ieq_f, i0n_f, i0p_t, i0e_t, i0e_f, i0l_t, i0l_f, i0g_t, i0g_f, b2_if, ↓reduceIte, bd_s, bv_s, sv_s, gi_n, gz_n, gb_0, gb_1, gb_b, gn_o, cl_n, p_hasRoom (h.2.2.2 t q' ht) (okX_at ok ht), e1, e2, hr, decide_true]
  · unfold xV
    rw [ha, ht]
    exact hC2
theorem xV_ok {x : Xx} (ok : okX x) {a i t : Nat} {q q' : Qq} (ha : x.2.2[a]? = some q) (ht : x.2.2[t]? = some q') (hi : i < q.2.2.2.2.length) (h1 : 1 ≤ i) (hr : q'.2.2.2.2.length < 8) : okX (xV x a i t) := by
  have hs : q.2.2.2.2[i]? = some (q.2.2.2.2.getD i 0) := by simp [List.getD, hi]
  have hs4 : q.2.2.2.2.getD i 0 < 4 := (okX_at ok ha).2.2.2.2.1 _ (List.mem_of_getElem? hs)
  unfold xV
  rw [ha, ht]
  exact okX_set (okX_set (a := x.1) (b := x.2.1) ok (okD (okX_at ok ha) h1)) (okC (okX_at ok ht) hs4 hr)
