/-! ===== the class's queues hold lanes ===== -/
def rQ (S : cM) (p : Nat) (q : Qq) : Prop := S.1 p 0 = nI q.1 ∧ S.1 p 1 = nI q.2.1 ∧ S.1 p 2 = nI q.2.2.2.2.length ∧ S.1 p 3 = nI q.2.2.1 ∧ S.1 p 4 = q.2.2.2.1 ∧ (∀ k s, q.2.2.2.2[k]? = some s → S.1 (p + 15) k = nI s) ∧ (∀ s, s < 4 → S.1 (p + 30) s = nI (tk q.1 q.2.1 s))
/-- nothing but a queue's own three rows has changed -/
def frq (S S' : cM) (p : Nat) : Prop := S'.2 = S.2 ∧ ∀ r, r ≠ p → r ≠ p + 15 → r ≠ p + 30 → S'.1 r = S.1 r
theorem frq.rf {S : cM} {p : Nat} : frq S S p := ⟨rfl, fun _ _ _ _ => rfl⟩
theorem frq.tr {S S1 S2 : cM} {p : Nat} (h1 : frq S S1 p) (h2 : frq S1 S2 p) : frq S S2 p := ⟨h2.1.trans h1.1, fun r a b c => (h2.2 r a b c).trans (h1.2 r a b c)⟩
theorem cS_s {S : cM} {p k : Nat} {v : Int32} : (cS S p k v).1 p = upd (S.1 p) k v := cW_s
theorem cS_n {S : cM} {p q k : Nat} {v : Int32} (h : q ≠ p) : (cS S p k v).1 q = S.1 q := cW_n h
theorem cS_2 {S : cM} {p k : Nat} {v : Int32} : (cS S p k v).2 = S.2 := rfl
theorem cW_2 {S : cM} {p : Nat} {f : Nat → Int32} : (cW S p f).2 = S.2 := rfl
theorem upd_s {f : Nat → Int32} {k : Nat} {x : Int32} : upd f k x k = x := by simp [upd]
theorem upd_n {f : Nat → Int32} {k j : Nat} {x : Int32} (h : j ≠ k) : upd f k x j = f j := by simp [upd, h]
theorem p_laneMinutes {S : cM} {s : Nat} (h : s < 4) : fX2_laneMinutes S (nI s) = some (nI (pl s), S) := by
  rcases (show s = 0 ∨ s = 1 ∨ s = 2 ∨ s = 3 by omega) with rfl | rfl | rfl | rfl <;> rfl
theorem p_minutesFor {S : cM} {kd fg s : Nat} (hk : kd ≤ 7) (h : s < 4) : fX2_minutesFor S (nI kd) (nI fg) (nI s) = some (nI (tk kd fg s), S) := by
  unfold fX2_minutesFor
  rw [p_laneMinutes h, bd_s]
  have hpl := @pl_le s
  rcases (show kd = 0 ∨ kd = 1 ∨ kd = 2 ∨ kd = 3 ∨ kd = 4 ∨ kd = 5 ∨ kd = 6 ∨ kd = 7 by omega) with rfl | rfl | rfl | rfl | rfl | rfl | rfl | rfl <;>
    rcases (show s = 0 ∨ s = 1 ∨ s = 2 ∨ s = 3 by omega) with rfl | rfl | rfl | rfl <;> first | rfl | (simp (disch := omega) only [ile_t, ile_f, ilt_t, ilt_f, ieq_t, ieq_f, i0n_f, i0p_t, i0e_t, i0e_f, i0l_t, i0l_f, i0g_t, i0g_f, b2_if, ↓reduceIte, pk_mul, nI_add, su_n]; rfl)
theorem p_needs {S : cM} {p : Nat} {q : Qq} (h : rQ S p q) {s : Nat} (hs : s < 4) : fX3_needs p S (nI s) = some (nI (tk q.1 q.2.1 s), S) := by
  unfold fX3_needs
  simp (disch := omega) only [ile_t, ile_f, ilt_t, ilt_f, ieq_t, ieq_f, i0n_f, i0p_t, i0e_t, i0e_f, i0l_t, i0l_f, i0g_t, i0g_f, b2_if, ↓reduceIte, bd_s, bv_s, sv_s, gi_n, gz_n, gb_0, gb_1, gb_b, gn_o, cl_n, h.2.2.2.2.2.2 s hs]
theorem p_letsIn {S : cM} {kd fg n : Nat} (hk : kd ≤ 7) (hf : fg ≤ 9) (hn : n ≤ 8) : fX2_letsIn S (nI kd) (nI fg) (nI n) = some (b2 (op kd fg n), S) := by
  unfold fX2_letsIn fX2_letsIn_10 op
  by_cases h5 : kd = 5
  · by_cases h6 : fg ≤ n
    · simp (disch := omega) only [ile_t, ile_f, ilt_t, ilt_f, ieq_t, ieq_f, i0n_f, i0p_t, i0e_t, i0e_f, i0l_t, i0l_f, i0g_t, i0g_f, b2_if, ↓reduceIte, h5, h6]; rfl
    · simp (disch := omega) only [ile_t, ile_f, ilt_t, ilt_f, ieq_t, ieq_f, i0n_f, i0p_t, i0e_t, i0e_f, i0l_t, i0l_f, i0g_t, i0g_f, b2_if, ↓reduceIte, h5, h6]; rfl
  · simp (disch := omega) only [ile_t, ile_f, ilt_t, ilt_f, ieq_t, ieq_f, i0n_f, i0p_t, i0e_t, i0e_f, i0l_t, i0l_f, i0g_t, i0g_f, b2_if, ↓reduceIte, h5]; rfl
theorem p_isOpen {S : cM} {p : Nat} {q : Qq} (h : rQ S p q) (ok : okQ q) : fX3_isOpen p S = some (b2 (qO q), S) := by
  unfold fX3_isOpen
  rw [h.1, h.2.1, h.2.2.1, p_letsIn ok.1 ok.2.1 ok.2.2.2.1, bd_s, gb_b]
  rfl
theorem p_hasRoom {S : cM} {p : Nat} {q : Qq} (h : rQ S p q) (ok : okQ q) : fX3_hasRoom p S = some (b2 (decide (q.2.2.2.2.length < 8)), S) := by
  unfold fX3_hasRoom
  have := ok.2.2.2.1
  rw [h.2.2.1]
  by_cases h8 : q.2.2.2.2.length < 8
  · simp (disch := omega) only [ile_t, ile_f, ilt_t, ilt_f, ieq_t, ieq_f, i0n_f, i0p_t, i0e_t, i0e_f, i0l_t, i0l_f, i0g_t, i0g_f, b2_if, ↓reduceIte, h8]; rfl
  · simp (disch := omega) only [ile_t, ile_f, ilt_t, ilt_f, ieq_t, ieq_f, i0n_f, i0p_t, i0e_t, i0e_f, i0l_t, i0l_f, i0g_t, i0g_f, b2_if, ↓reduceIte, h8]; rfl
theorem p_mayBeChosen {S : cM} {p : Nat} {q : Qq} (h : rQ S p q) (ok : okQ q) : fX3_mayBeChosen p S = some (b2 (qM q), S) := by
  unfold fX3_mayBeChosen qM
  rw [p_isOpen h ok, bd_s, b2_if, p_hasRoom h ok, bd_s, b2_if]
  cases qO q <;> cases decide (q.2.2.2.2.length < 8) <;> rfl
theorem p_seenCars {S : cM} {p : Nat} {q : Qq} (h : rQ S p q) (ok : okQ q) : fX3_seenCars p S = some (nI (sn q.1 q.2.1 q.2.2.2.2.length), S) := by
  obtain ⟨kd, fg, lf, ov, ss⟩ := q
  obtain ⟨h0, h1, h2, -⟩ := h
  obtain ⟨hk, hf, -, hl, -⟩ := ok
  dsimp only at *
  unfold fX3_seenCars fX2_seenOf sn
  rw [h0, h1, h2]
  generalize ss.length = n at hl
  have e1 : (if nI 0 < nI n - nI 1 then nI n - nI 1 else nI 0) = nI (n - 1) := by
    rcases (show n = 0 ∨ n = 1 ∨ n = 2 ∨ n = 3 ∨ n = 4 ∨ n = 5 ∨ n = 6 ∨ n = 7 ∨ n = 8 by omega) with rfl | rfl | rfl | rfl | rfl | rfl | rfl | rfl | rfl <;> rfl
  have e2 : nI (n - 1) / nI 2 = nI ((n - 1) / 2) := pk_div (by omega) (by omega) (by omega)
  have e3 : (nI n + nI 1) / nI 2 = nI ((n + 1) / 2) := by rw [nI_add]; exact pk_div (by omega) (by omega) (by omega)
  rw [e1, e2, e3]
  rcases (show kd = 0 ∨ kd = 1 ∨ kd = 2 ∨ kd = 3 ∨ kd = 4 ∨ kd = 5 ∨ kd = 6 ∨ kd = 7 by omega) with rfl | rfl | rfl | rfl | rfl | rfl | rfl | rfl
  case inr.inr.inr.inr.inl =>
    by_cases h6 : fg < n
    · simp (disch := omega) only [ile_t, ile_f, ilt_t, ilt_f, ieq_t, ieq_f, i0n_f, i0p_t, i0e_t, i0e_f, i0l_t, i0l_f, i0g_t, i0g_f, b2_if, ↓reduceIte, h6]; rfl
    · simp (disch := omega) only [ile_t, ile_f, ilt_t, ilt_f, ieq_t, ieq_f, i0n_f, i0p_t, i0e_t, i0e_f, i0l_t, i0l_f, i0g_t, i0g_f, b2_if, ↓reduceIte, h6]; rfl
  all_goals rfl
theorem p_seems_l {S : cM} {p : Nat} {q : Qq} (h : rQ S p q) (ok : okQ q) {t : Nat} (ht : t ≤ q.2.2.2.2.length) : ∀ (l : List Nat) (n k acc : Nat), q.2.2.2.2.drop k = l → k ≤ t → l.length < n →
    fX3_seemsNow_16 p n S (nI t) (nI acc) (nI k) = some (nI (acc + pls (l.take (t - k))), S) := by
  have hl := ok.2.2.2.1
  intro l
  induction l with
  | nil =>
    intro n k acc e hk hn
    have := dropN e
    obtain ⟨n, rfl⟩ : ∃ m, n = m + 1 := ⟨n - 1, by omega⟩
    unfold fX3_seemsNow_16
    simp (disch := omega) only [ile_t, ile_f, ilt_t, ilt_f, ieq_t, ieq_f, i0n_f, i0p_t, i0e_t, i0e_f, i0l_t, i0l_f, i0g_t, i0g_f, b2_if, ↓reduceIte, List.take_nil, pls, Nat.add_zero]
  | cons s l ih =>
    intro n k acc e hk hn
    obtain ⟨e1, e2, e3⟩ := dropC e
    simp only [List.length_cons] at hn
    obtain ⟨n, rfl⟩ : ∃ m, n = m + 1 := ⟨n - 1, by omega⟩
    unfold fX3_seemsNow_16
    by_cases hkt : k = t
    · subst hkt
      simp (disch := omega) only [ile_t, ile_f, ilt_t, ilt_f, ieq_t, ieq_f, i0n_f, i0p_t, i0e_t, i0e_f, i0l_t, i0l_f, i0g_t, i0g_f, b2_if, ↓reduceIte, Nat.sub_self, List.take_zero, pls, Nat.add_zero]
    · have hs : s < 4 := ok.2.2.2.2.1 s (List.mem_of_getElem? e1)
      simp (disch := omega) only [ile_t, ile_f, ilt_t, ilt_f, ieq_t, ieq_f, i0n_f, i0p_t, i0e_t, i0e_f, i0l_t, i0l_f, i0g_t, i0g_f, b2_if, ↓reduceIte, bd_s, bv_s, sv_s, gi_n, gz_n, gb_0, gb_1, gb_b, gn_o, cl_n, h.2.2.2.2.2.1 k s e1, p_laneMinutes hs, nI_add]
      rw [ih n (k + 1) (acc + pl s) e2 (by omega) (by omega), show t - k = (t - (k + 1)) + 1 by omega, List.take_succ_cons]
      simp only [pls, Nat.add_assoc]
theorem p_seemsNow {S : cM} {p : Nat} {q : Qq} (h : rQ S p q) (ok : okQ q) : fX3_seemsNow p S = some (nI (qS q), S) := by
  have hl := ok.2.2.2.1
  have hs := @sn_le q.1 q.2.1 q.2.2.2.2.length
  unfold fX3_seemsNow
  rw [p_seenCars h ok, bd_s, h.2.2.1, show (if nI q.2.2.2.2.length < nI (sn q.1 q.2.1 q.2.2.2.2.length) then nI q.2.2.2.2.length else nI (sn q.1 q.2.1 q.2.2.2.2.length)) = nI (sn q.1 q.2.1 q.2.2.2.2.length) from ilt_f hs (by omega)]
  rw [p_seems_l h ok hs _ lF 0 0 rfl (by omega) (by simp [lF]; omega), Nat.zero_add]
  rfl
theorem p_timeAt_l {S : cM} {p : Nat} {q : Qq} (h : rQ S p q) (ok : okQ q) {t : Nat} (ht : t < 2147483647) : ∀ (l : List Nat) (n k acc : Nat), q.2.2.2.2.drop k = l → k ≤ 8 → k ≤ t + 1 → l.length < n →
    fX3_timeAt_7 p n S (nI t) (nI acc) (nI k) = some (nI (acc + tks q.1 q.2.1 (l.take (t + 1 - k))), S) := by
  have hl := ok.2.2.2.1
  intro l
  induction l with
  | nil =>
    intro n k acc e hk hk2 hn
    have := dropN e
    obtain ⟨n, rfl⟩ : ∃ m, n = m + 1 := ⟨n - 1, by omega⟩
    unfold fX3_timeAt_7
    rw [h.2.2.1]
    by_cases hkt : t < k
    · simp (disch := omega) only [ile_t, ile_f, ilt_t, ilt_f, ieq_t, ieq_f, i0n_f, i0p_t, i0e_t, i0e_f, i0l_t, i0l_f, i0g_t, i0g_f, b2_if, ↓reduceIte, List.take_nil, tks, Nat.add_zero]
    · simp (disch := omega) only [ile_t, ile_f, ilt_t, ilt_f, ieq_t, ieq_f, i0n_f, i0p_t, i0e_t, i0e_f, i0l_t, i0l_f, i0g_t, i0g_f, b2_if, ↓reduceIte, List.take_nil, tks, Nat.add_zero]
  | cons s l ih =>
    intro n k acc e hk hk2 hn
    obtain ⟨e1, e2, e3⟩ := dropC e
    simp only [List.length_cons] at hn
    obtain ⟨n, rfl⟩ : ∃ m, n = m + 1 := ⟨n - 1, by omega⟩
    unfold fX3_timeAt_7
    rw [h.2.2.1]
    by_cases hkt : t < k
    · simp (disch := omega) only [ile_t, ile_f, ilt_t, ilt_f, ieq_t, ieq_f, i0n_f, i0p_t, i0e_t, i0e_f, i0l_t, i0l_f, i0g_t, i0g_f, b2_if, ↓reduceIte, show t + 1 - k = 0 by omega, List.take_zero, tks, Nat.add_zero]
    · have hs : s < 4 := ok.2.2.2.2.1 s (List.mem_of_getElem? e1)
      simp (disch := omega) only [ile_t, ile_f, ilt_t, ilt_f, ieq_t, ieq_f, i0n_f, i0p_t, i0e_t, i0e_f, i0l_t, i0l_f, i0g_t, i0g_f, b2_if, ↓reduceIte, bd_s, bv_s, sv_s, gi_n, gz_n, gb_0, gb_1, gb_b, gn_o, cl_n, h.2.2.2.2.2.1 k s e1, p_needs h hs, nI_add]
      rw [ih n (k + 1) (acc + tk q.1 q.2.1 s) e2 (by omega) (by omega) (by omega), show t + 1 - k = (t + 1 - (k + 1)) + 1 by omega, List.take_succ_cons]
      simp only [tks, Nat.add_assoc]
theorem p_timeAt {S : cM} {p : Nat} {q : Qq} (h : rQ S p q) (ok : okQ q) {t : Nat} (ht : t < 2147483647) : fX3_timeAt p S (nI t) = some (nI (qT q t), S) := by
  unfold fX3_timeAt
  rw [h.2.2.2.1, p_timeAt_l h ok ht _ lF 1 _ rfl (by omega) (by omega) (by have := ok.2.2.2.1; simp [lF]; omega)]
  rfl
theorem p_timeLast {S : cM} {p : Nat} {q : Qq} (h : rQ S p q) (ok : okQ q) : fX3_timeAt p S (nI q.2.2.2.2.length - nI 1) = some (nI (qW q), S) := by
  have hl := ok.2.2.2.1
  by_cases h0 : q.2.2.2.2 = []
  · unfold fX3_timeAt
    rw [h0, h.2.2.2.1]
    unfold qW
    rw [h0]
    rfl
  · have : 0 < q.2.2.2.2.length := List.length_pos_iff.mpr h0
    rw [su_n (by omega), p_timeAt h ok (by omega)]
    unfold qT qW
    rw [List.take_of_length_le (by simp)]
theorem p_waitNow {S : cM} {p : Nat} {q : Qq} (h : rQ S p q) (ok : okQ q) : fX3_waitNow p S = some (nI (qW q), S) := by
  unfold fX3_waitNow
  rw [h.2.2.1, p_timeLast h ok, bd_s]
theorem p_timeOfNext {S : cM} {p : Nat} {q : Qq} (h : rQ S p q) (ok : okQ q) {s : Nat} (hs : s < 4) : fX3_timeOfNext p S (nI s) = some (nI (qN q s), S) := by
  unfold fX3_timeOfNext
  rw [h.2.2.1, p_timeLast h ok, bd_s, p_needs h hs, bd_s, nI_add]
  rfl
theorem p_times_l {S : cM} {p : Nat} {q : Qq} (h : rQ S p q) (ok : okQ q) : ∀ (l : List Nat) (n k en acc : Nat), q.2.2.2.2.drop k = l → k ≤ 8 → l.length < n →
    fX3_timesTogether_12 p n S (nI en) (nI acc) (nI k) = some (nI (acc + aT q.1 q.2.1 en l), S) := by
  have hl := ok.2.2.2.1
  intro l
  induction l with
  | nil =>
    intro n k en acc e hk hn
    have := dropN e
    obtain ⟨n, rfl⟩ : ∃ m, n = m + 1 := ⟨n - 1, by omega⟩
    unfold fX3_timesTogether_12
    rw [h.2.2.1]
    simp (disch := omega) only [ile_t, ile_f, ilt_t, ilt_f, ieq_t, ieq_f, i0n_f, i0p_t, i0e_t, i0e_f, i0l_t, i0l_f, i0g_t, i0g_f, b2_if, ↓reduceIte, aT, Nat.add_zero]
  | cons s l ih =>
    intro n k en acc e hk hn
    obtain ⟨e1, e2, e3⟩ := dropC e
    simp only [List.length_cons] at hn
    obtain ⟨n, rfl⟩ : ∃ m, n = m + 1 := ⟨n - 1, by omega⟩
    unfold fX3_timesTogether_12
    rw [h.2.2.1]
    have hs : s < 4 := ok.2.2.2.2.1 s (List.mem_of_getElem? e1)
    simp (disch := omega) only [ile_t, ile_f, ilt_t, ilt_f, ieq_t, ieq_f, i0n_f, i0p_t, i0e_t, i0e_f, i0l_t, i0l_f, i0g_t, i0g_f, b2_if, ↓reduceIte, bd_s, bv_s, sv_s, gi_n, gz_n, gb_0, gb_1, gb_b, gn_o, cl_n, h.2.2.2.2.2.1 k s e1, p_needs h hs, nI_add]
    rw [ih n (k + 1) _ _ e2 (by omega) (by omega)]
    simp only [aT, Nat.add_assoc]
theorem p_timesTogether {S : cM} {p : Nat} {q : Qq} (h : rQ S p q) (ok : okQ q) : fX3_timesTogether p S = some (nI (qA q), S) := by
  unfold fX3_timesTogether
  rw [h.2.2.2.1, p_times_l h ok _ lF 1 _ _ rfl (by omega) (by have := ok.2.2.2.1; simp [lF]; omega)]
  rfl

/-! changes -/
theorem p_comeIn {S : cM} {p : Nat} {q : Qq} (h : rQ S p q) (ok : okQ q) (hp : 7 ≤ p ∧ p ≤ 21) {s : Nat} (hs : s < 4) (hr : q.2.2.2.2.length < 8) : ∃ S', fX3_comeIn p S (nI s) = some S' ∧ rQ S' p (qC q s) ∧ frq S S' p := by
  obtain ⟨kd, fg, lf, ov, ss⟩ := q
  have hN := @p_needs _ _ _ h s hs
  have hH := p_hasRoom h ok
  obtain ⟨h0, h1, h2, h3, h4, h5, h6⟩ := h
  dsimp only at *
  unfold fX3_comeIn
  rw [hH, bd_s, b2_if, if_pos (by simpa using hr), h2]
  simp (disch := omega) only [bd_s, bv_s, sv_s, gi_n, gz_n, gb_0, gb_1, gb_b, gn_o, cl_n]
  rw [show (cS S (p + 15) ss.length (nI s)).1 p 2 = nI ss.length by rw [cS_n (by omega)]; exact h2, nI_add]
  have e1 : (cS (cS S (p + 15) ss.length (nI s)) p 2 (nI (ss.length + 1))).1 p 2 = nI (ss.length + 1) := by rw [cS_s, upd_s]
  rw [e1]
  have hrow : ∀ (k z : Nat), (ss ++ [s])[k]? = some z → upd (S.1 (p + 15)) ss.length (nI s) k = nI z := by
    intro k z hz
    by_cases hk : k = ss.length
    · subst hk
      rw [List.getElem?_append_right (Nat.le_refl _)] at hz
      simp at hz
      rw [upd_s, hz]
    · rw [upd_n hk]
      have hk2 : k < ss.length := by
        have := (List.getElem?_eq_some_iff.mp hz).1
        simp at this
        omega
      rw [List.getElem?_append_left hk2] at hz
      exact h5 k z hz
  by_cases hz : ss = []
  · subst hz
    rw [show ([] : List Nat).length + 1 = 1 from rfl, if_pos (rfl : nI 1 = nI 1)]
    have hN2 : fX3_needs p (cS (cS S (p + 15) ([] : List Nat).length (nI s)) p 2 (nI 1)) (nI s) = some (nI (tk kd fg s), cS (cS S (p + 15) ([] : List Nat).length (nI s)) p 2 (nI 1)) := by
      unfold fX3_needs
      simp (disch := omega) only [ile_t, ile_f, ilt_t, ilt_f, ieq_t, ieq_f, i0n_f, i0p_t, i0e_t, i0e_f, i0l_t, i0l_f, i0g_t, i0g_f, b2_if, ↓reduceIte, bd_s, bv_s, sv_s, gi_n, gz_n, gb_0, gb_1, gb_b, gn_o, cl_n]
      rw [cS_n (by omega), cS_n (by omega), h6 s hs]
    rw [hN2, bd_s]
    refine ⟨_, rfl, ⟨?_, ?_, ?_, ?_, ?_, ?_, ?_⟩, ?_, ?_⟩
    · rw [cS_s, upd_n (by omega), cS_s, upd_n (by omega), cS_n (by omega)]; exact h0
    · rw [cS_s, upd_n (by omega), cS_s, upd_n (by omega), cS_n (by omega)]; exact h1
    · rw [cS_s, upd_n (by omega), cS_s, upd_s]; rfl
    · rw [cS_s, upd_s]; rfl
    · rw [cS_s, upd_n (by omega), cS_s, upd_n (by omega), cS_n (by omega)]; exact h4
    · intro k z hk
      rw [cS_n (by omega), cS_n (by omega), cS_s]
      exact hrow k z hk
    · intro z hz
      rw [cS_n (by omega), cS_n (by omega), cS_n (by omega)]
      exact h6 z hz
    · rfl
    · intro r r1 r2 r3
      rw [cS_n r1, cS_n r1, cS_n r2]
  · have hl : 0 < ss.length := List.length_pos_iff.mpr hz
    simp (disch := omega) only [ile_t, ile_f, ilt_t, ilt_f, ieq_t, ieq_f, i0n_f, i0p_t, i0e_t, i0e_f, i0l_t, i0l_f, i0g_t, i0g_f, b2_if, ↓reduceIte]
    refine ⟨_, rfl, ⟨?_, ?_, ?_, ?_, ?_, ?_, ?_⟩, ?_, ?_⟩
    · rw [cS_s, upd_n (by omega), cS_n (by omega)]; exact h0
    · rw [cS_s, upd_n (by omega), cS_n (by omega)]; exact h1
    · rw [cS_s, upd_s]; simp [qC]
    · rw [cS_s, upd_n (by omega), cS_n (by omega)]; simp only [qC, hz, if_false]; exact h3
    · rw [cS_s, upd_n (by omega), cS_n (by omega)]; exact h4
    · intro k z hk
      rw [cS_n (by omega), cS_s]
      exact hrow k z hk
    · intro z hz
      rw [cS_n (by omega), cS_n (by omega)]
      exact h6 z hz
    · rfl
    · intro r r1 r2 r3
      rw [cS_n r1, cS_n r2]
theorem p_close_l {p len : Nat} (hp : 7 ≤ p ∧ p ≤ 21) (hl : len ≤ 8) (h1 : 1 ≤ len) : ∀ (d n i : Nat) (S : cM), S.1 p 2 = nI len → 1 ≤ i → len - i = d → i ≤ len → d < n →
    ∃ S', fX3_closeUp_4 p n S (nI i) = some S' ∧ S'.2 = S.2 ∧ (∀ r, r ≠ p → r ≠ p + 15 → S'.1 r = S.1 r) ∧ S'.1 p = upd (S.1 p) 2 (nI (len - 1)) ∧ (∀ k, S'.1 (p + 15) k = if i - 1 ≤ k ∧ k < len - 1 then S.1 (p + 15) (k + 1) else S.1 (p + 15) k) := by
  intro d
  induction d with
  | zero =>
    intro n i S h2 hi hd hil hn
    obtain ⟨n, rfl⟩ : ∃ m, n = m + 1 := ⟨n - 1, by omega⟩
    unfold fX3_closeUp_4
    rw [h2]
    simp (disch := omega) only [ile_t, ile_f, ilt_t, ilt_f, ieq_t, ieq_f, i0n_f, i0p_t, i0e_t, i0e_f, i0l_t, i0l_f, i0g_t, i0g_f, b2_if, ↓reduceIte, bd_s, bv_s, sv_s, gi_n, gz_n, gb_0, gb_1, gb_b, gn_o, cl_n, su_n]
    refine ⟨_, rfl, rfl, fun r r1 r2 => cS_n r1, cS_s, fun k => ?_⟩
    rw [cS_n (by omega), if_neg (by omega)]
  | succ d ih =>
    intro n i S h2 hi hd hil hn
    obtain ⟨n, rfl⟩ : ∃ m, n = m + 1 := ⟨n - 1, by omega⟩
    unfold fX3_closeUp_4
    rw [h2]
    simp (disch := omega) only [ile_t, ile_f, ilt_t, ilt_f, ieq_t, ieq_f, i0n_f, i0p_t, i0e_t, i0e_f, i0l_t, i0l_f, i0g_t, i0g_f, b2_if, ↓reduceIte, bd_s, bv_s, sv_s, gi_n, gz_n, gb_0, gb_1, gb_b, gn_o, cl_n, su_n, nI_add]
    obtain ⟨S', e, a1, a2, a3, a4⟩ := ih n (i + 1) (cS S (p + 15) (i - 1) (S.1 (p + 15) i)) (by rw [cS_n (by omega)]; exact h2) (by omega) (by omega) (by omega) (by omega)
    refine ⟨S', e, a1, fun r r1 r2 => (a2 r r1 r2).trans (cS_n r2), by rw [a3, cS_n (by omega)], fun k => ?_⟩
    rw [a4 k, cS_s]
    by_cases c1 : i - 1 ≤ k ∧ k < len - 1
    · rw [if_pos c1]
      by_cases c2 : k = i - 1
      · rw [if_neg (by omega), c2, upd_s, show i - 1 + 1 = i by omega]
      · rw [if_pos (by omega), upd_n (by omega)]
    · rw [if_neg c1, if_neg (by omega), upd_n (by omega)]
theorem p_closeUp {S : cM} {p : Nat} {q : Qq} (h : rQ S p q) (ok : okQ q) (hp : 7 ≤ p ∧ p ≤ 21) {i : Nat} (hi : i < q.2.2.2.2.length) : ∃ S', fX3_closeUp p S (nI i) = some S' ∧ rQ S' p (qD q i) ∧ frq S S' p := by
  obtain ⟨kd, fg, lf, ov, ss⟩ := q
  have hl := ok.2.2.2.1
  obtain ⟨h0, h1, h2, h3, h4, h5, h6⟩ := h
  dsimp only at *
  unfold fX3_closeUp
  rw [nI_add]
  obtain ⟨S', e, a1, a2, a3, a4⟩ := p_close_l hp hl (by omega) _ lF (i + 1) S h2 (by omega) rfl (by omega) (by simp [lF]; omega)
  refine ⟨S', e, ⟨?_, ?_, ?_, ?_, ?_, ?_, ?_⟩, a1, fun r r1 r2 _ => a2 r r1 r2⟩
  · rw [a3, upd_n (by omega)]; exact h0
  · rw [a3, upd_n (by omega)]; exact h1
  · rw [a3, upd_s]; simp only [qD, List.length_eraseIdx, if_pos hi]
  · rw [a3, upd_n (by omega)]; exact h3
  · rw [a3, upd_n (by omega)]; exact h4
  · intro k s hk
    simp only [qD, List.getElem?_eraseIdx] at hk
    rw [a4 k, Nat.add_sub_cancel]
    by_cases c1 : k < i
    · rw [if_pos c1] at hk
      rw [if_neg (by omega)]
      exact h5 k s hk
    · rw [if_neg c1] at hk
      have := (List.getElem?_eq_some_iff.mp hk).1
      rw [if_pos (by omega)]
      exact h5 (k + 1) s hk
  · intro s hs
    rw [a2 _ (by omega) (by omega)]
    exact h6 s hs
theorem p_goOut {S : cM} {p : Nat} {q : Qq} (h : rQ S p q) (ok : okQ q) (hp : 7 ≤ p ∧ p ≤ 21) {i s : Nat} (hi : q.2.2.2.2[i]? = some s) : ∃ S', fX3_goOut p S (nI i) = some (nI s, S') ∧ rQ S' p (qD q i) ∧ frq S S' p := by
  have hl := ok.2.2.2.1
  have hi2 := (List.getElem?_eq_some_iff.mp hi).1
  obtain ⟨S', e, a⟩ := p_closeUp h ok hp hi2
  unfold fX3_goOut
  simp (disch := omega) only [bd_s, bv_s, sv_s, gi_n, gz_n, gb_0, gb_1, gb_b, gn_o, cl_n, e, h.2.2.2.2.2.1 i s hi]
  exact ⟨S', rfl, a⟩
theorem p_minuteGoes {S : cM} {p : Nat} {q : Qq} (h : rQ S p q) (ok : okQ q) (hp : 7 ≤ p ∧ p ≤ 21) : ∃ S', fX3_minuteGoes p S = some (b2 (qG q), S') ∧ rQ S' p (qU q) ∧ frq S S' p := by
  obtain ⟨kd, fg, lf, ov, ss⟩ := q
  have ok' := ok
  obtain ⟨hk, hf, hlf, hl, hss, hz, hnz⟩ := ok
  have h' := h
  obtain ⟨h0, h1, h2, h3, h4, h5, h6⟩ := h
  dsimp only at *
  unfold fX3_minuteGoes
  rw [h2]
  by_cases he : ss = []
  · subst he
    refine ⟨S, ?_, ?_, frq.rf⟩
    · simp (disch := omega) only [ile_t, ile_f, ilt_t, ilt_f, ieq_t, ieq_f, i0n_f, i0p_t, i0e_t, i0e_f, i0l_t, i0l_f, i0g_t, i0g_f, b2_if, ↓reduceIte, List.length_nil, qG]; rfl
    · simpa [qU] using h'
  · have hl0 : 0 < ss.length := List.length_pos_iff.mpr he
    have hlf1 := hnz he
    simp (disch := omega) only [ile_t, ile_f, ilt_t, ilt_f, ieq_t, ieq_f, i0n_f, i0p_t, i0e_t, i0e_f, i0l_t, i0l_f, i0g_t, i0g_f, b2_if, ↓reduceIte, bd_s, bv_s, sv_s, gi_n, gz_n, gb_0, gb_1, gb_b, gn_o, cl_n, h3, su_n]
    rw [cS_s, upd_s]
    have hQ2 : rQ (cS S p 3 (nI (lf - 1))) p (kd, fg, lf - 1, ov, ss) := by
      refine ⟨?_, ?_, ?_, ?_, ?_, ?_, ?_⟩
      · rw [cS_s, upd_n (by omega)]; exact h0
      · rw [cS_s, upd_n (by omega)]; exact h1
      · rw [cS_s, upd_n (by omega)]; exact h2
      · rw [cS_s, upd_s]
      · rw [cS_s, upd_n (by omega)]; exact h4
      · intro k z hk; rw [cS_n (by omega)]; exact h5 k z hk
      · intro z hz; rw [cS_n (by omega)]; exact h6 z hz
    have hF2 : frq S (cS S p 3 (nI (lf - 1))) p := ⟨rfl, fun r r1 _ _ => cS_n r1⟩
    by_cases h1l : lf = 1
    · subst h1l
      simp (disch := omega) only [ile_t, ile_f, ilt_t, ilt_f, ieq_t, ieq_f, i0n_f, i0p_t, i0e_t, i0e_f, i0l_t, i0l_f, i0g_t, i0g_f, b2_if, ↓reduceIte]
      have hcl : ∃ S', fX3_closeUp p (cS S p 3 (nI (1 - 1))) (nI 0) = some S' ∧ rQ S' p (kd, fg, 0, ov, ss.drop 1) ∧ frq (cS S p 3 (nI (1 - 1))) S' p := by
        obtain ⟨len2, el⟩ : ∃ z, z = ss.length := ⟨_, rfl⟩
        unfold fX3_closeUp
        rw [nI_add]
        obtain ⟨S', e, a1, a2, a3, a4⟩ := p_close_l hp hl (by omega) _ lF (0 + 1) (cS S p 3 (nI (1 - 1))) hQ2.2.2.1 (by omega) rfl (by omega) (by simp [lF]; omega)
        refine ⟨S', e, ⟨?_, ?_, ?_, ?_, ?_, ?_, ?_⟩, a1, fun r r1 r2 _ => a2 r r1 r2⟩
        · rw [a3, upd_n (by omega)]; exact hQ2.1
        · rw [a3, upd_n (by omega)]; exact hQ2.2.1
        · rw [a3, upd_s]; simp
        · rw [a3, upd_n (by omega)]; exact hQ2.2.2.2.1
        · rw [a3, upd_n (by omega)]; exact hQ2.2.2.2.2.1
        · intro k z hk
          simp only [List.getElem?_drop] at hk
          have := (List.getElem?_eq_some_iff.mp hk).1
          rw [a4 k, if_pos (by omega)]
          exact hQ2.2.2.2.2.2.1 (k + 1) z (by rw [Nat.add_comm]; exact hk)
        · intro z hz
          rw [a2 _ (by omega) (by omega)]
          exact hQ2.2.2.2.2.2.2 z hz
      obtain ⟨S4, e4, r4, f4⟩ := hcl
      rw [e4, bv_s]
      have hQ5 : rQ (cS S4 p 4 (S4.1 p 4 + nI 1)) p (kd, fg, 0, ov + nI 1, ss.drop 1) := by
        obtain ⟨g0, g1, g2, g3, g4, g5, g6⟩ := r4
        refine ⟨?_, ?_, ?_, ?_, ?_, ?_, ?_⟩
        · rw [cS_s, upd_n (by omega)]; exact g0
        · rw [cS_s, upd_n (by omega)]; exact g1
        · rw [cS_s, upd_n (by omega)]; exact g2
        · rw [cS_s, upd_n (by omega)]; exact g3
        · rw [cS_s, upd_s, g4]
        · intro k z hk; rw [cS_n (by omega)]; exact g5 k z hk
        · intro z hz; rw [cS_n (by omega)]; exact g6 z hz
      have hF5 : frq S (cS S4 p 4 (S4.1 p 4 + nI 1)) p := (hF2.tr f4).tr ⟨rfl, fun r r1 _ _ => cS_n r1⟩
      generalize cS S4 p 4 (S4.1 p 4 + nI 1) = S5 at hQ5 hF5
      rw [hQ5.2.2.1]
      have fin : ∀ v : Nat, v = qF kd fg (ss.drop 1) → ∃ S', fX3_minuteGoes_65 p S5 (nI v) = some (b2 (qG (kd, fg, 1, ov, ss)), S') ∧ rQ S' p (qU (kd, fg, 1, ov, ss)) ∧ frq S S' p := by
        intro v hv
        unfold fX3_minuteGoes_65
        rw [sv_s]
        obtain ⟨g0, g1, g2, g3, g4, g5, g6⟩ := hQ5
        refine ⟨cS S5 p 3 (nI v), by simp [qG, he]; rfl, ?_, hF5.tr ⟨rfl, fun r r1 _ _ => cS_n r1⟩⟩
        unfold qU
        rw [if_neg he, if_pos rfl]
        refine ⟨?_, ?_, ?_, ?_, ?_, ?_, ?_⟩
        · rw [cS_s, upd_n (by omega)]; exact g0
        · rw [cS_s, upd_n (by omega)]; exact g1
        · rw [cS_s, upd_n (by omega)]; exact g2
        · rw [cS_s, upd_s, hv]
        · rw [cS_s, upd_n (by omega)]; exact g4
        · intro k z hk; rw [cS_n (by omega)]; exact g5 k z hk
        · intro z hz; rw [cS_n (by omega)]; exact g6 z hz
      cases hd : ss.drop 1 with
      | nil =>
        have := dropN hd
        simp only [hd, List.length_nil] at *
        simp (disch := omega) only [ile_t, ile_f, ilt_t, ilt_f, ieq_t, ieq_f, i0n_f, i0p_t, i0e_t, i0e_f, i0l_t, i0l_f, i0g_t, i0g_f, b2_if, ↓reduceIte]
        exact fin 0 rfl
      | cons s l =>
        obtain ⟨c1, c2, c3⟩ := dropC hd
        have hs : s < 4 := hss s (List.mem_of_getElem? c1)
        have hrow : S5.1 (p + 15) 0 = nI s := hQ5.2.2.2.2.2.1 0 s (by rw [hd]; rfl)
        have hll : (ss.drop 1).length ≤ 8 := by simp; omega
        simp only [hd, List.length_cons] at *
        simp (disch := omega) only [ile_t, ile_f, ilt_t, ilt_f, ieq_t, ieq_f, i0n_f, i0p_t, i0e_t, i0e_f, i0l_t, i0l_f, i0g_t, i0g_f, b2_if, ↓reduceIte, bd_s, bv_s, sv_s, gi_n, gz_n, gb_0, gb_1, gb_b, gn_o, cl_n, hrow, p_needs hQ5 hs]
        exact fin _ rfl
    · simp (disch := omega) only [ile_t, ile_f, ilt_t, ilt_f, ieq_t, ieq_f, i0n_f, i0p_t, i0e_t, i0e_f, i0l_t, i0l_f, i0g_t, i0g_f, b2_if, ↓reduceIte]
      refine ⟨_, ?_, ?_, hF2⟩
      · simp [qG, h1l]; rfl
      · unfold qU
        rw [if_neg he, if_neg h1l]
        exact hQ2

theorem p_copyQ {S : cM} {u0 u1 : Nat} {q : Qq} (h : rQ S u1 q) (ok : okQ q) (hp : 7 ≤ u0 ∧ u0 ≤ 21) (hp1 : 7 ≤ u1 ∧ u1 ≤ 21) (hne : u0 ≠ u1) : ∃ S', fX3_becomeLike u0 u1 S = some S' ∧ rQ S' u0 q ∧ frq S S' u0 := by
  obtain ⟨kd, fg, lf, ov, ss⟩ := q
  have hl := ok.2.2.2.1
  obtain ⟨h0, h1, h2, h3, h4, h5, h6⟩ := h
  dsimp only at *
  unfold fX3_becomeLike
  have c1 : ∀ (α : Type) (k : Option α), gc (nI 0) (nI 0) (nI 8) 8 8 k = k := fun _ _ => rfl
  have c2 : ∀ (α : Type) (k : Option α), gc (nI 0) (nI 0) (nI 4) 4 4 k = k := fun _ _ => rfl
  simp only [sv_s, c1, c2]
  refine ⟨_, rfl, ⟨?_, ?_, ?_, ?_, ?_, ?_, ?_⟩, rfl, ?_⟩
  · rw [cW_n (by omega), cW_n (by omega), cS_s, upd_n (by omega), cS_s, upd_n (by omega), cS_s, upd_n (by omega), cS_s, upd_n (by omega), cS_s, upd_s]; exact h0
  · rw [cW_n (by omega), cW_n (by omega), cS_s, upd_n (by omega), cS_s, upd_n (by omega), cS_s, upd_n (by omega), cS_s, upd_s, cS_n (Ne.symm hne)]; exact h1
  · rw [cW_n (by omega), cW_n (by omega), cS_s, upd_n (by omega), cS_s, upd_n (by omega), cS_s, upd_s, cS_n (Ne.symm hne), cS_n (Ne.symm hne)]; exact h2
  · rw [cW_n (by omega), cW_n (by omega), cS_s, upd_n (by omega), cS_s, upd_s, cS_n (Ne.symm hne), cS_n (Ne.symm hne), cS_n (Ne.symm hne)]; exact h3
  · rw [cW_n (by omega), cW_n (by omega), cS_s, upd_s, cS_n (Ne.symm hne), cS_n (Ne.symm hne), cS_n (Ne.symm hne), cS_n (Ne.symm hne)]; exact h4
  · intro k z hk
    have : k < ss.length := (List.getElem?_eq_some_iff.mp hk).1
    rw [cW_n (by omega), cW_s, pk_cpy_in (by rw [cl_n (by omega)]; omega) (by rw [cl_n (by omega), cl_n (by omega)]; omega), cl_n (by omega), cS_n (by omega), cS_n (by omega), cS_n (by omega), cS_n (by omega), cS_n (by omega), Nat.zero_add, Nat.sub_zero]
    exact h5 k z hk
  · intro z hz
    rw [cW_s, pk_cpy_in (by rw [cl_n (by omega)]; omega) (by rw [cl_n (by omega), cl_n (by omega)]; omega), cl_n (by omega), cW_n (by omega), cS_n (by omega), cS_n (by omega), cS_n (by omega), cS_n (by omega), cS_n (by omega), Nat.zero_add, Nat.sub_zero]
    exact h6 z hz
  · intro r r1 r2 r3
    rw [cW_n r3, cW_n r2, cS_n r1, cS_n r1, cS_n r1, cS_n r1, cS_n r1]
theorem p_begin_l {p kd fg : Nat} (hp : 7 ≤ p ∧ p ≤ 21) (hk : kd ≤ 7) : ∀ (d n i : Nat) (S : cM), 4 - i = d → i ≤ 4 → d < n → (∀ s, s < i → S.1 (p + 30) s = nI (tk kd fg s)) →
    ∃ S', fX3_begin_27 p n S (nI kd) (nI fg) (nI i) = some S' ∧ S'.2 = S.2 ∧ (∀ r, r ≠ p + 30 → S'.1 r = S.1 r) ∧ (∀ s, s < 4 → S'.1 (p + 30) s = nI (tk kd fg s)) := by
  intro d
  induction d with
  | zero =>
    intro n i S hd hi hn hr
    obtain ⟨n, rfl⟩ : ∃ m, n = m + 1 := ⟨n - 1, by omega⟩
    unfold fX3_begin_27
    simp (disch := omega) only [ile_t, ile_f, ilt_t, ilt_f, ieq_t, ieq_f, i0n_f, i0p_t, i0e_t, i0e_f, i0l_t, i0l_f, i0g_t, i0g_f, b2_if, ↓reduceIte]
    exact ⟨S, rfl, rfl, fun _ _ => rfl, fun s hs => hr s (by omega)⟩
  | succ d ih =>
    intro n i S hd hi hn hr
    obtain ⟨n, rfl⟩ : ∃ m, n = m + 1 := ⟨n - 1, by omega⟩
    unfold fX3_begin_27
    simp (disch := omega) only [ile_t, ile_f, ilt_t, ilt_f, ieq_t, ieq_f, i0n_f, i0p_t, i0e_t, i0e_f, i0l_t, i0l_f, i0g_t, i0g_f, b2_if, ↓reduceIte, bd_s, bv_s, sv_s, gi_n, gz_n, gb_0, gb_1, gb_b, gn_o, cl_n, p_minutesFor hk (show i < 4 by omega), nI_add]
    obtain ⟨S', e, a1, a2, a3⟩ := ih n (i + 1) (cS S (p + 30) i (nI (tk kd fg i))) (by omega) (by omega) (by omega) (fun s hs => by
      rw [cS_s]
      by_cases c : s = i
      · rw [c, upd_s]
      · rw [upd_n c]; exact hr s (by omega))
    exact ⟨S', e, a1, fun r r1 => (a2 r r1).trans (cS_n r1), a3⟩
theorem p_begin {S : cM} {p kd fg : Nat} (hp : 7 ≤ p ∧ p ≤ 21) (hk : kd ≤ 7) : ∃ S', fX3_begin p S (nI kd) (nI fg) = some S' ∧ rQ S' p (kd, fg, 0, 0, []) ∧ frq S S' p := by
  unfold fX3_begin
  simp only [sv_s]
  obtain ⟨S', e, a1, a2, a3⟩ := p_begin_l (fg := fg) hp hk 4 lF 0 (cS (cS (cS (cS (cS S p 0 (nI kd)) p 1 (nI fg)) p 2 (nI 0)) p 3 (nI 0)) p 4 (nI 0)) rfl (by omega) (by simp [lF]) (fun s hs => by omega)
  refine ⟨S', e, ⟨?_, ?_, ?_, ?_, ?_, ?_, a3⟩, a1, fun r r1 r2 r3 => by rw [a2 r r3, cS_n r1, cS_n r1, cS_n r1, cS_n r1, cS_n r1]⟩
  · rw [a2 _ (by omega), cS_s, upd_n (by omega), cS_s, upd_n (by omega), cS_s, upd_n (by omega), cS_s, upd_n (by omega), cS_s, upd_s]
  · rw [a2 _ (by omega), cS_s, upd_n (by omega), cS_s, upd_n (by omega), cS_s, upd_n (by omega), cS_s, upd_s]
  · rw [a2 _ (by omega), cS_s, upd_n (by omega), cS_s, upd_n (by omega), cS_s, upd_s]; rfl
  · rw [a2 _ (by omega), cS_s, upd_n (by omega), cS_s, upd_s]
  · rw [a2 _ (by omega), cS_s, upd_s]; rfl
  · intro k z hk
    simp at hk
/-! what stays good -/
theorem okC {q : Qq} (ok : okQ q) {s : Nat} (hs : s < 4) (hr : q.2.2.2.2.length < 8) : okQ (qC q s) := by
  obtain ⟨kd, fg, lf, ov, ss⟩ := q
  obtain ⟨hk, hf, hlf, hl, hss, hz, hnz⟩ := ok
  have ht := @tk_le kd fg s hf
  dsimp only at *
  unfold qC
  refine ⟨hk, hf, ?_, by simp; omega, ?_, by simp, fun _ => ?_⟩
  · dsimp only; split <;> omega
  · intro z hz
    simp only [List.mem_append, List.mem_singleton] at hz
    rcases hz with h | h
    · exact hss z h
    · rw [h]; exact hs
  · dsimp only
    split
    · exact ht.1
    · rename_i h; exact hnz h
theorem okD {q : Qq} (ok : okQ q) {i : Nat} (hi : 1 ≤ i) : okQ (qD q i) := by
  obtain ⟨kd, fg, lf, ov, ss⟩ := q
  obtain ⟨hk, hf, hlf, hl, hss, hz, hnz⟩ := ok
  dsimp only at *
  unfold qD
  refine ⟨hk, hf, hlf, ?_, ?_, ?_, ?_⟩
  · have := List.length_eraseIdx_le ss i
    dsimp only
    omega
  · intro z hz
    exact hss z (List.mem_of_mem_eraseIdx hz)
  · intro e
    dsimp only at e ⊢
    apply hz
    cases ss with
    | nil => rfl
    | cons a l =>
      obtain ⟨i, rfl⟩ : ∃ m, i = m + 1 := ⟨i - 1, by omega⟩
      simp at e
  · intro e
    apply hnz
    intro h
    apply e
    dsimp only
    rw [h]
    rfl
theorem okU {q : Qq} (ok : okQ q) : okQ (qU q) := by
  obtain ⟨kd, fg, lf, ov, ss⟩ := q
  have ok' := ok
  obtain ⟨hk, hf, hlf, hl, hss, hz, hnz⟩ := ok
  dsimp only at *
  unfold qU
  dsimp only
  split
  · exact ok'
  · rename_i he
    split
    · cases hd : ss.drop 1 with
      | nil => exact ⟨hk, hf, Nat.zero_le _, Nat.zero_le _, fun z hz => by simp at hz, fun _ => rfl, fun h => absurd rfl h⟩
      | cons a l =>
        have ha : a ∈ ss := List.mem_of_mem_drop (by rw [hd]; exact List.mem_cons_self)
        have ht := @tk_le kd fg a hf
        have hlen : (a :: l).length ≤ 8 := by rw [← hd]; simp; omega
        refine ⟨hk, hf, ht.2, hlen, fun z hz => hss z (List.mem_of_mem_drop (by rw [hd]; exact hz)), fun h => by simp at h, fun _ => ht.1⟩
    · refine ⟨hk, hf, by dsimp only; omega, hl, hss, fun h => absurd h he, fun h => ?_⟩
      have := hnz he
      dsimp only
      omega
theorem okB {kd fg : Nat} (hk : kd ≤ 7) (hf : fg ≤ 9) : okQ (kd, fg, 0, 0, []) := ⟨hk, hf, Nat.zero_le _, Nat.zero_le _, fun z hz => by simp at hz, fun _ => rfl, fun h => absurd rfl h⟩
theorem rQ_keep {S S' : cM} {p : Nat} {q : Qq} (h : rQ S p q) (h0 : S'.1 p = S.1 p) (h1 : S'.1 (p + 15) = S.1 (p + 15)) (h2 : S'.1 (p + 30) = S.1 (p + 30)) : rQ S' p q := by
  unfold rQ
  rw [h0, h1, h2]
  exact h
