/-! ===== the reference's lanes ===== -/
def rmQ (S : mM) (i : Nat) (q : Qq) : Prop := S.1 1 i = nI q.1 ∧ S.1 2 i = nI q.2.1 ∧ S.1 3 i = nI q.2.2.2.2.length ∧ S.1 4 i = nI q.2.2.1 ∧ S.1 5 i = q.2.2.2.1 ∧ ∀ k s, q.2.2.2.2[k]? = some s → S.1 6 (8 * i + k) = nI s
def rM (S : mM) (x : Xx) : Prop := S.1 0 0 = nI x.2.2.length ∧ S.1 0 1 = x.1 ∧ S.1 0 2 = x.2.1 ∧ ∀ i q, x.2.2[i]? = some q → rmQ S i q
/-- a lane's own slots have changed, no others -/
def mfq (S S' : mM) (i : Nat) : Prop := S'.2 = S.2 ∧ S'.1 0 = S.1 0 ∧ (∀ r, 8 ≤ r → S'.1 r = S.1 r) ∧ (∀ r j, 1 ≤ r → r ≤ 5 → j ≠ i → S'.1 r j = S.1 r j) ∧ (∀ k, (k < 8 * i ∨ 8 * i + 8 ≤ k) → S'.1 6 k = S.1 6 k) ∧ ∀ j, j ≠ i → S'.1 7 j = S.1 7 j
/-- lanes, clock and passed have changed, no others -/
def mfr (S S' : mM) : Prop := S'.2 = S.2 ∧ (∀ k, 2 < k → S'.1 0 k = S.1 0 k) ∧ ∀ r, 8 ≤ r → S'.1 r = S.1 r
theorem mfq.rf {S : mM} {i : Nat} : mfq S S i := ⟨rfl, rfl, fun _ _ => rfl, fun _ _ _ _ _ => rfl, fun _ _ => rfl, fun _ _ => rfl⟩
theorem mfq.tr {S S1 S2 : mM} {i : Nat} (h1 : mfq S S1 i) (h2 : mfq S1 S2 i) : mfq S S2 i := ⟨h2.1.trans h1.1, h2.2.1.trans h1.2.1, fun r a => (h2.2.2.1 r a).trans (h1.2.2.1 r a), fun r j a b c => (h2.2.2.2.1 r j a b c).trans (h1.2.2.2.1 r j a b c), fun k a => (h2.2.2.2.2.1 k a).trans (h1.2.2.2.2.1 k a), fun j a => (h2.2.2.2.2.2 j a).trans (h1.2.2.2.2.2 j a)⟩
theorem mfr.rf {S : mM} : mfr S S := ⟨rfl, fun _ _ => rfl, fun _ _ => rfl⟩
theorem mfr.tr {S S1 S2 : mM} (h1 : mfr S S1) (h2 : mfr S1 S2) : mfr S S2 := ⟨h2.1.trans h1.1, fun k a => (h2.2.1 k a).trans (h1.2.1 k a), fun r a => (h2.2.2 r a).trans (h1.2.2 r a)⟩
theorem mfr.ofq {S S' : mM} {i : Nat} (h : mfq S S' i) : mfr S S' := ⟨h.1, fun k _ => by rw [h.2.1], h.2.2.1⟩
theorem mS_s {S : mM} {p k : Nat} {v : Int32} : (mS S p k v).1 p = upd (S.1 p) k v := mW_s
theorem mS_n {S : mM} {p q k : Nat} {v : Int32} (h : q ≠ p) : (mS S p k v).1 q = S.1 q := mW_n h
theorem mS_2 {S : mM} {p k : Nat} {v : Int32} : (mS S p k v).2 = S.2 := rfl
theorem rmQ_keep {S S' : mM} {i : Nat} {q : Qq} (h : rmQ S i q) (h1 : ∀ r, 1 ≤ r → r ≤ 5 → S'.1 r i = S.1 r i) (h2 : ∀ k, k < q.2.2.2.2.length → S'.1 6 (8 * i + k) = S.1 6 (8 * i + k)) : rmQ S' i q := by
  obtain ⟨a1, a2, a3, a4, a5, a6⟩ := h
  refine ⟨by rw [h1 1 (by omega) (by omega)]; exact a1, by rw [h1 2 (by omega) (by omega)]; exact a2, by rw [h1 3 (by omega) (by omega)]; exact a3, by rw [h1 4 (by omega) (by omega)]; exact a4, by rw [h1 5 (by omega) (by omega)]; exact a5, fun k s hk => ?_⟩
  rw [h2 k (List.getElem?_eq_some_iff.mp hk).1]
  exact a6 k s hk
theorem rM_set {S S' : mM} {i : Nat} {a b : Int32} {l : List Qq} {q' : Qq} (hok : ∀ q ∈ l, okQ q) (h : rM S (a, b, l)) (hi : i < l.length) (hf : mfq S S' i) (hq : rmQ S' i q') : rM S' (a, b, l.set i q') := by
  dsimp only [rM] at *
  refine ⟨by rw [hf.2.1, List.length_set]; exact h.1, by rw [hf.2.1]; exact h.2.1, by rw [hf.2.1]; exact h.2.2.1, fun j q hj => ?_⟩
  rw [List.getElem?_set] at hj
  by_cases c : i = j
  · subst c
    rw [if_pos rfl, if_pos hi] at hj
    cases hj
    exact hq
  · rw [if_neg c] at hj
    have hlen := (hok q (List.mem_of_getElem? hj)).2.2.2.1
    exact rmQ_keep (h.2.2.2 j q hj) (fun r h1 h2 => hf.2.2.2.1 r j h1 h2 (fun e => c e.symm)) (fun k hk => hf.2.2.2.2.1 _ (by omega))
theorem rM_core {S S' : mM} {x : Xx} (h : rM S x) (h0 : ∀ k, k ≤ 2 → S'.1 0 k = S.1 0 k) (h1 : ∀ r, 1 ≤ r → r ≤ 6 → S'.1 r = S.1 r) : rM S' x := by
  refine ⟨by rw [h0 0 (by omega)]; exact h.1, by rw [h0 1 (by omega)]; exact h.2.1, by rw [h0 2 (by omega)]; exact h.2.2.1, fun i q hq => rmQ_keep (h.2.2.2 i q hq) (fun r a b => by rw [h1 r a (by omega)]) (fun k _ => by rw [h1 6 (by omega) (by omega)])⟩
/-! numbers in a range -/
theorem lg_lt0 {x y : Int64} : lg_cmp x y < 0 ↔ x < y := by
  unfold lg_cmp
  by_cases h : x > y
  · rw [if_pos h]
    constructor
    · intro q; exact absurd q (by decide)
    · intro q
      rw [Int64.lt_iff_toInt_lt] at q
      rw [gt_iff_lt, Int64.lt_iff_toInt_lt] at h
      omega
  · rw [if_neg h]
    by_cases e : x = y
    · rw [if_pos e]
      constructor
      · intro q; exact absurd q (by decide)
      · intro q
        rw [e, Int64.lt_iff_toInt_lt] at q
        omega
    · rw [if_neg e]
      constructor
      · intro _
        rw [gt_iff_lt, Int64.lt_iff_toInt_lt] at h
        have : x.toInt ≠ y.toInt := fun q => e (Int64.toInt_inj.mp q)
        rw [Int64.lt_iff_toInt_lt]
        omega
      · intro _; decide
theorem lg_gt0 {x y : Int64} : 0 < lg_cmp x y ↔ y < x := by
  unfold lg_cmp
  by_cases h : x > y
  · rw [if_pos h]
    exact ⟨fun _ => h, fun _ => by decide⟩
  · rw [if_neg h]
    constructor
    · intro q
      split at q
      · exact absurd q (by decide)
      · exact absurd q (by decide)
    · intro q; exact absurd q h
theorem i64_lt {x y : Int32} : x.toInt64 < y.toInt64 ↔ x < y := by
  rw [Int64.lt_iff_toInt_lt, Int32.lt_iff_toInt_lt, Int32.toInt_toInt64, Int32.toInt_toInt64]
theorem in_no {S : mM} {x lo hi : Int32} (h : x < lo ∨ hi < x) : fX6_in S x.toInt64 lo.toInt64 hi.toInt64 = some (nI 0, S) := by
  unfold fX6_in
  by_cases h1 : x < lo
  · rw [if_pos (lg_lt0.mpr (i64_lt.mpr h1))]
  · rw [if_neg (fun q => h1 (i64_lt.mp (lg_lt0.mp q))), if_pos (lg_gt0.mpr (i64_lt.mpr (h.resolve_left h1)))]
theorem in_yes {S : mM} {x lo hi : Int32} (h1 : ¬ x < lo) (h2 : ¬ hi < x) : fX6_in S x.toInt64 lo.toInt64 hi.toInt64 = some (nI 1, S) := by
  unfold fX6_in
  rw [if_neg (fun q => h1 (i64_lt.mp (lg_lt0.mp q))), if_neg (fun q => h2 (i64_lt.mp (lg_gt0.mp q)))]
theorem q_0 : (0 : Int64) = (nI 0).toInt64 := by decide
theorem q_1 : (1 : Int64) = (nI 1).toInt64 := by decide
theorem q_2 : (2 : Int64) = (nI 2).toInt64 := by decide
theorem q_3 : (3 : Int64) = (nI 3).toInt64 := by decide
theorem q_5 : (5 : Int64) = (nI 5).toInt64 := by decide
theorem q_7 : (7 : Int64) = (nI 7).toInt64 := by decide
theorem q_8 : (8 : Int64) = (nI 8).toInt64 := by decide
theorem q_9 : (9 : Int64) = (nI 9).toInt64 := by decide
theorem q_20 : (20 : Int64) = (nI 20).toInt64 := by decide
theorem q_30 : (30 : Int64) = (nI 30).toInt64 := by decide
theorem q_48 : (48 : Int64) = (nI 48).toInt64 := by decide
theorem q_57 : (57 : Int64) = (nI 57).toInt64 := by decide
theorem q_60 : (60 : Int64) = (nI 60).toInt64 := by decide
theorem q_99 : (99 : Int64) = (nI 99).toInt64 := by decide
theorem q_999 : (999 : Int64) = (nI 999).toInt64 := by decide
theorem q_m99 : (-99 : Int64) = (-99 : Int32).toInt64 := by decide
theorem ge_pred {x : Int32} {n : Nat} (hn : n < 1000) (h : nI n ≤ x) : nI n - nI 1 < x := by
  rw [Int32.lt_iff_toInt_lt, pk_sub_toInt (by omega) (by omega)]
  rw [Int32.le_iff_toInt_le, nI_toInt (by omega)] at h
  omega
theorem lt_pred {j n : Nat} (hn : n < 1000) (h : j < n) : ¬ nI n - nI 1 < nI j := by
  rw [Int32.lt_iff_toInt_lt, pk_sub_toInt (by omega) (by omega), nI_toInt (by omega)]
  omega
theorem m_isLane_no {S : mM} {n : Nat} (h : S.1 0 0 = nI n) (hn : n ≤ 5) {x : Int32} (hx : x < 0 ∨ nI n ≤ x) : fX6_isLane S x = some (nI 0, S) := by
  unfold fX6_isLane
  rw [h, q_0, in_no (hx.imp (fun q => by rw [nI_0]; exact q) (fun q => ge_pred (by omega) q)), bd_s, gb_0]
theorem m_isLane_yes {S : mM} {n : Nat} (h : S.1 0 0 = nI n) (hn : n ≤ 5) {j : Nat} (hj : j < n) : fX6_isLane S (nI j) = some (nI 1, S) := by
  unfold fX6_isLane
  rw [h, q_0, in_yes (nI_nlt (by omega) (by omega)) (lt_pred (by omega) hj), bd_s, gb_1]
/-! what a lane takes, shows, lets in -/
theorem m_plain {S : mM} {s : Nat} (h : s < 4) : fX6_plainTakes S (nI s) = some (nI (pl s), S) := by
  rcases (show s = 0 ∨ s = 1 ∨ s = 2 ∨ s = 3 by omega) with rfl | rfl | rfl | rfl <;> rfl
theorem m_takesBy {S : mM} {kd fg s : Nat} (hk : kd ≤ 7) (h : s < 4) : fX6_takesBy S (nI kd) (nI fg) (nI s) = some (nI (tk kd fg s), S) := by
  unfold fX6_takesBy
  rw [m_plain h, bd_s]
  have hpl := @pl_le s
  rcases (show kd = 0 ∨ kd = 1 ∨ kd = 2 ∨ kd = 3 ∨ kd = 4 ∨ kd = 5 ∨ kd = 6 ∨ kd = 7 by omega) with rfl | rfl | rfl | rfl | rfl | rfl | rfl | rfl <;>
    rcases (show s = 0 ∨ s = 1 ∨ s = 2 ∨ s = 3 by omega) with rfl | rfl | rfl | rfl <;> first | rfl | (simp (disch := omega) only [ile_t, ile_f, ilt_t, ilt_f, ieq_t, ieq_f, i0n_f, i0p_t, i0e_t, i0e_f, i0l_t, i0l_f, i0g_t, i0g_f, b2_if, ↓reduceIte, pk_mul, nI_add, su_n]; rfl)
theorem m_takesIn {S : mM} {i : Nat} {q : Qq} (h : rmQ S i q) (ok : okQ q) (hi : i < 5) {s : Nat} (hs : s < 4) : fX6_takesIn S (nI i) (nI s) = some (nI (tk q.1 q.2.1 s), S) := by
  unfold fX6_takesIn
  simp (disch := omega) only [bd_s, bv_s, sv_s, gi_n, gz_n, gb_0, gb_1, gb_b, gn_o, cl_n, h.1, h.2.1, m_takesBy ok.1 hs]
theorem m_isOpen {S : mM} {i : Nat} {q : Qq} (h : rmQ S i q) (ok : okQ q) (hi : i < 5) : fX6_isOpen S (nI i) = some (b2 (qO q), S) := by
  obtain ⟨kd, fg, lf, ov, ss⟩ := q
  have := ok.1
  have := ok.2.1
  have := ok.2.2.2.1
  obtain ⟨h1, h2, h3, -⟩ := h
  dsimp only at *
  unfold fX6_isOpen fX6_isOpen_25 qO op
  simp (disch := omega) only [bd_s, bv_s, sv_s, gi_n, gz_n, gb_0, gb_1, gb_b, gn_o, cl_n, h1, h2, h3]
  by_cases h5 : kd = 5
  · by_cases h6 : fg ≤ ss.length
    · simp (disch := omega) only [ile_t, ile_f, ilt_t, ilt_f, ieq_t, ieq_f, i0n_f, i0p_t, i0e_t, i0e_f, i0l_t, i0l_f, i0g_t, i0g_f, b2_if, ↓reduceIte, h5, h6]; rfl
    · simp (disch := omega) only [ile_t, ile_f, ilt_t, ilt_f, ieq_t, ieq_f, i0n_f, i0p_t, i0e_t, i0e_f, i0l_t, i0l_f, i0g_t, i0g_f, b2_if, ↓reduceIte, h5, h6]; rfl
  · simp (disch := omega) only [ile_t, ile_f, ilt_t, ilt_f, ieq_t, ieq_f, i0n_f, i0p_t, i0e_t, i0e_f, i0l_t, i0l_f, i0g_t, i0g_f, b2_if, ↓reduceIte, h5]; rfl
theorem m_mayCome {S : mM} {i : Nat} {q : Qq} (h : rmQ S i q) (ok : okQ q) (hi : i < 5) : fX6_mayCome S (nI i) = some (b2 (qM q), S) := by
  have hl := ok.2.2.2.1
  unfold fX6_mayCome qM
  rw [m_isOpen h ok hi, bd_s, b2_if]
  simp (disch := omega) only [bd_s, bv_s, sv_s, gi_n, gz_n, gb_0, gb_1, gb_b, gn_o, cl_n, h.2.2.1]
  by_cases h8 : q.2.2.2.2.length < 8
  · simp (disch := omega) only [ile_t, ile_f, ilt_t, ilt_f, ieq_t, ieq_f, i0n_f, i0p_t, i0e_t, i0e_f, i0l_t, i0l_f, i0g_t, i0g_f, b2_if, ↓reduceIte, h8]
    cases qO q <;> rfl
  · simp (disch := omega) only [ile_t, ile_f, ilt_t, ilt_f, ieq_t, ieq_f, i0n_f, i0p_t, i0e_t, i0e_f, i0l_t, i0l_f, i0g_t, i0g_f, b2_if, ↓reduceIte, h8]
    cases qO q <;> rfl
theorem m_seenIn {S : mM} {i : Nat} {q : Qq} (h : rmQ S i q) (ok : okQ q) (hi : i < 5) : fX6_seenIn S (nI i) = some (nI (sn q.1 q.2.1 q.2.2.2.2.length), S) := by
  obtain ⟨kd, fg, lf, ov, ss⟩ := q
  obtain ⟨h1, h2, h3, -⟩ := h
  obtain ⟨hk, hf, -, hl, -⟩ := ok
  dsimp only at *
  have key : ∀ y, y = ss.length - 1 → fX6_seenIn_18 S (nI i) (nI ss.length) (nI y) = some (nI (sn kd fg ss.length), S) := by
    intro y hy
    unfold fX6_seenIn_18 sn
    simp (disch := omega) only [bd_s, bv_s, sv_s, gi_n, gz_n, gb_0, gb_1, gb_b, gn_o, cl_n, h1, h2]
    generalize ss.length = n at *
    have e2 : nI y / nI 2 = nI ((n - 1) / 2) := by rw [hy]; exact pk_div (by omega) (by omega) (by omega)
    have e3 : (nI n + nI 1) / nI 2 = nI ((n + 1) / 2) := by rw [nI_add]; exact pk_div (by omega) (by omega) (by omega)
    rw [e2, e3, hy]
    rcases (show kd = 0 ∨ kd = 1 ∨ kd = 2 ∨ kd = 3 ∨ kd = 4 ∨ kd = 5 ∨ kd = 6 ∨ kd = 7 by omega) with rfl | rfl | rfl | rfl | rfl | rfl | rfl | rfl
    case inr.inr.inr.inr.inl =>
      by_cases h6 : fg < n
      · simp (disch := omega) only [ile_t, ile_f, ilt_t, ilt_f, ieq_t, ieq_f, i0n_f, i0p_t, i0e_t, i0e_f, i0l_t, i0l_f, i0g_t, i0g_f, b2_if, ↓reduceIte, h6]; rfl
      · by_cases h7 : fg = n
        · simp (disch := omega) only [ile_t, ile_f, ilt_t, ilt_f, ieq_t, ieq_f, i0n_f, i0p_t, i0e_t, i0e_f, i0l_t, i0l_f, i0g_t, i0g_f, b2_if, ↓reduceIte, h7]; simp
        · simp (disch := omega) only [ile_t, ile_f, ilt_t, ilt_f, ieq_t, ieq_f, i0n_f, i0p_t, i0e_t, i0e_f, i0l_t, i0l_f, i0g_t, i0g_f, b2_if, ↓reduceIte, h6]; rfl
    all_goals rfl
  unfold fX6_seenIn
  simp (disch := omega) only [bd_s, bv_s, sv_s, gi_n, gz_n, gb_0, gb_1, gb_b, gn_o, cl_n, h3]
  by_cases h0 : ss.length = 0
  · simp (disch := omega) only [ile_t, ile_f, ilt_t, ilt_f, ieq_t, ieq_f, i0n_f, i0p_t, i0e_t, i0e_f, i0l_t, i0l_f, i0g_t, i0g_f, b2_if, ↓reduceIte]
    exact key 0 (by omega)
  · simp (disch := omega) only [ile_t, ile_f, ilt_t, ilt_f, ieq_t, ieq_f, i0n_f, i0p_t, i0e_t, i0e_f, i0l_t, i0l_f, i0g_t, i0g_f, b2_if, ↓reduceIte, su_n]
    exact key _ rfl
theorem m_seems_l {S : mM} {i : Nat} {q : Qq} (h : rmQ S i q) (ok : okQ q) (hi : i < 5) {t : Nat} (ht : t ≤ q.2.2.2.2.length) : ∀ (l : List Nat) (n k acc : Nat), q.2.2.2.2.drop k = l → k ≤ t → l.length < n →
    fX6_seemsIn_11 n S (nI i) (nI acc) (nI t) (nI k) = some (nI (acc + pls (l.take (t - k))), S) := by
  have hl := ok.2.2.2.1
  intro l
  induction l with
  | nil =>
    intro n k acc e hk hn
    have := dropN e
    obtain ⟨n, rfl⟩ : ∃ m, n = m + 1 := ⟨n - 1, by omega⟩
    unfold fX6_seemsIn_11
    simp (disch := omega) only [ile_t, ile_f, ilt_t, ilt_f, ieq_t, ieq_f, i0n_f, i0p_t, i0e_t, i0e_f, i0l_t, i0l_f, i0g_t, i0g_f, b2_if, ↓reduceIte, List.take_nil, pls, Nat.add_zero]
  | cons s l ih =>
    intro n k acc e hk hn
    obtain ⟨e1, e2, e3⟩ := dropC e
    simp only [List.length_cons] at hn
    obtain ⟨n, rfl⟩ : ∃ m, n = m + 1 := ⟨n - 1, by omega⟩
    unfold fX6_seemsIn_11
    by_cases hkt : k = t
    · subst hkt
      simp (disch := omega) only [ile_t, ile_f, ilt_t, ilt_f, ieq_t, ieq_f, i0n_f, i0p_t, i0e_t, i0e_f, i0l_t, i0l_f, i0g_t, i0g_f, b2_if, ↓reduceIte, Nat.sub_self, List.take_zero, pls, Nat.add_zero]
    · have hs : s < 4 := ok.2.2.2.2.1 s (List.mem_of_getElem? e1)
      simp (disch := omega) only [ile_t, ile_f, ilt_t, ilt_f, ieq_t, ieq_f, i0n_f, i0p_t, i0e_t, i0e_f, i0l_t, i0l_f, i0g_t, i0g_f, b2_if, ↓reduceIte, bd_s, bv_s, sv_s, gi_n, gz_n, gb_0, gb_1, gb_b, gn_o, cl_n, pk_mul, nI_add, h.2.2.2.2.2 k s e1, m_plain hs]
      rw [ih n (k + 1) (acc + pl s) e2 (by omega) (by omega), show t - k = (t - (k + 1)) + 1 by omega, List.take_succ_cons]
      simp only [pls, Nat.add_assoc]
theorem m_seemsIn {S : mM} {i : Nat} {q : Qq} (h : rmQ S i q) (ok : okQ q) (hi : i < 5) : fX6_seemsIn S (nI i) = some (nI (qS q), S) := by
  have hs := @sn_le q.1 q.2.1 q.2.2.2.2.length
  unfold fX6_seemsIn
  rw [m_seenIn h ok hi, bd_s, m_seems_l h ok hi hs _ lF 0 0 rfl (by omega) (by have := ok.2.2.2.1; simp [lF]; omega), Nat.zero_add]
  rfl
theorem m_wait_l {S : mM} {i : Nat} {q : Qq} (h : rmQ S i q) (ok : okQ q) (hi : i < 5) : ∀ (l : List Nat) (n k acc : Nat), q.2.2.2.2.drop k = l → k ≤ 8 → l.length < n →
    fX6_waitIn_22 n S (nI i) (nI acc) (nI k) = some (nI (acc + tks q.1 q.2.1 l), S) := by
  have hl := ok.2.2.2.1
  intro l
  induction l with
  | nil =>
    intro n k acc e hk hn
    have := dropN e
    obtain ⟨n, rfl⟩ : ∃ m, n = m + 1 := ⟨n - 1, by omega⟩
    unfold fX6_waitIn_22
    simp (disch := omega) only [bd_s, bv_s, sv_s, gi_n, gz_n, gb_0, gb_1, gb_b, gn_o, cl_n, h.2.2.1]
    simp (disch := omega) only [ile_t, ile_f, ilt_t, ilt_f, ieq_t, ieq_f, i0n_f, i0p_t, i0e_t, i0e_f, i0l_t, i0l_f, i0g_t, i0g_f, b2_if, ↓reduceIte, tks, Nat.add_zero]
  | cons s l ih =>
    intro n k acc e hk hn
    obtain ⟨e1, e2, e3⟩ := dropC e
    simp only [List.length_cons] at hn
    obtain ⟨n, rfl⟩ : ∃ m, n = m + 1 := ⟨n - 1, by omega⟩
    unfold fX6_waitIn_22
    simp (disch := omega) only [bd_s, bv_s, sv_s, gi_n, gz_n, gb_0, gb_1, gb_b, gn_o, cl_n, h.2.2.1]
    have hs : s < 4 := ok.2.2.2.2.1 s (List.mem_of_getElem? e1)
    simp (disch := omega) only [ile_t, ile_f, ilt_t, ilt_f, ieq_t, ieq_f, i0n_f, i0p_t, i0e_t, i0e_f, i0l_t, i0l_f, i0g_t, i0g_f, b2_if, ↓reduceIte, bd_s, bv_s, sv_s, gi_n, gz_n, gb_0, gb_1, gb_b, gn_o, cl_n, pk_mul, nI_add, h.2.2.2.2.2 k s e1, m_takesIn h ok hi hs]
    rw [ih n (k + 1) _ e2 (by omega) (by omega)]
    simp only [tks, Nat.add_assoc]
theorem m_waitIn {S : mM} {i : Nat} {q : Qq} (h : rmQ S i q) (ok : okQ q) (hi : i < 5) : fX6_waitIn S (nI i) = some (nI (qW q), S) := by
  have hl := ok.2.2.2.1
  unfold fX6_waitIn fX6_waitIn_19
  simp (disch := omega) only [bd_s, bv_s, sv_s, gi_n, gz_n, gb_0, gb_1, gb_b, gn_o, cl_n, h.2.2.1, h.2.2.2.1]
  rw [m_wait_l h ok hi _ lF 1 _ rfl (by omega) (by simp [lF]; omega), m_wait_l h ok hi _ lF 1 _ rfl (by omega) (by simp [lF]; omega)]
  by_cases h0 : q.2.2.2.2 = []
  · rw [if_pos (by rw [h0]; decide), qW, ok.2.2.2.2.2.1 h0]
  · have : 0 < q.2.2.2.2.length := List.length_pos_iff.mpr h0
    simp (disch := omega) only [ile_t, ile_f, ilt_t, ilt_f, ieq_t, ieq_f, i0n_f, i0p_t, i0e_t, i0e_f, i0l_t, i0l_f, i0g_t, i0g_f, b2_if, ↓reduceIte]
    rfl
theorem m_timeIn {S : mM} {i : Nat} {q : Qq} (h : rmQ S i q) (ok : okQ q) (hi : i < 5) {s : Nat} (hs : s < 4) : fX6_timeIn S (nI i) (nI s) = some (nI (qN q s), S) := by
  unfold fX6_timeIn
  rw [m_waitIn h ok hi, bd_s, m_takesIn h ok hi hs, bd_s, nI_add]
  rfl
theorem m_timeAt_l {S : mM} {i : Nat} {q : Qq} (h : rmQ S i q) (ok : okQ q) (hi : i < 5) {t : Nat} (ht : t < q.2.2.2.2.length) : ∀ (l : List Nat) (n k acc : Nat), q.2.2.2.2.drop k = l → k ≤ t + 1 → l.length < n →
    fX6_timeAt_10 n S (nI i) (nI t) (nI acc) (nI k) = some (nI (acc + tks q.1 q.2.1 (l.take (t + 1 - k))), S) := by
  have hl := ok.2.2.2.1
  intro l
  induction l with
  | nil =>
    intro n k acc e hk hn
    have := dropN e
    obtain ⟨n, rfl⟩ : ∃ m, n = m + 1 := ⟨n - 1, by omega⟩
    unfold fX6_timeAt_10
    simp (disch := omega) only [ile_t, ile_f, ilt_t, ilt_f, ieq_t, ieq_f, i0n_f, i0p_t, i0e_t, i0e_f, i0l_t, i0l_f, i0g_t, i0g_f, b2_if, ↓reduceIte, List.take_nil, tks, Nat.add_zero]
  | cons s l ih =>
    intro n k acc e hk hn
    obtain ⟨e1, e2, e3⟩ := dropC e
    simp only [List.length_cons] at hn
    obtain ⟨n, rfl⟩ : ∃ m, n = m + 1 := ⟨n - 1, by omega⟩
    unfold fX6_timeAt_10
    by_cases hkt : t < k
    · simp (disch := omega) only [ile_t, ile_f, ilt_t, ilt_f, ieq_t, ieq_f, i0n_f, i0p_t, i0e_t, i0e_f, i0l_t, i0l_f, i0g_t, i0g_f, b2_if, ↓reduceIte, show t + 1 - k = 0 by omega, List.take_zero, tks, Nat.add_zero]
    · have hs : s < 4 := ok.2.2.2.2.1 s (List.mem_of_getElem? e1)
      simp (disch := omega) only [ile_t, ile_f, ilt_t, ilt_f, ieq_t, ieq_f, i0n_f, i0p_t, i0e_t, i0e_f, i0l_t, i0l_f, i0g_t, i0g_f, b2_if, ↓reduceIte, bd_s, bv_s, sv_s, gi_n, gz_n, gb_0, gb_1, gb_b, gn_o, cl_n, pk_mul, nI_add, h.2.2.2.2.2 k s e1, m_takesIn h ok hi hs]
      rw [ih n (k + 1) _ e2 (by omega) (by omega), show t + 1 - k = (t + 1 - (k + 1)) + 1 by omega, List.take_succ_cons]
      simp only [tks, Nat.add_assoc]
theorem m_timeAt {S : mM} {i : Nat} {q : Qq} (h : rmQ S i q) (ok : okQ q) (hi : i < 5) {t : Nat} (ht : t < q.2.2.2.2.length) : fX6_timeAt S (nI i) (nI t) = some (nI (qT q t), S) := by
  unfold fX6_timeAt
  simp (disch := omega) only [bd_s, bv_s, sv_s, gi_n, gz_n, gb_0, gb_1, gb_b, gn_o, cl_n, h.2.2.2.1]
  rw [m_timeAt_l h ok hi ht _ lF 1 _ rfl (by omega) (by have := ok.2.2.2.1; simp [lF]; omega)]
  rfl
/-! changes -/
theorem m_comeIn {S : mM} {i : Nat} {q : Qq} (h : rmQ S i q) (ok : okQ q) (hi : i < 5) {s : Nat} (hs : s < 4) (hr : q.2.2.2.2.length < 8) : ∃ S', fX6_comeIn S (nI i) (nI s) = some S' ∧ rmQ S' i (qC q s) ∧ mfq S S' i := by
  obtain ⟨kd, fg, lf, ov, ss⟩ := q
  have hT := m_takesIn h ok hi hs
  obtain ⟨h1, h2, h3, h4, h5, h6⟩ := h
  dsimp only at *
  have key : ∀ v, v = (if ss = [] then tk kd fg s else lf) → ∃ S', fX6_comeIn_29 S (nI i) (nI s) (nI i) (nI v) = some S' ∧ rmQ S' i (qC (kd, fg, lf, ov, ss) s) ∧ mfq S S' i := by
    intro v hv
    unfold fX6_comeIn_29
    simp (disch := omega) only [bd_s, bv_s, sv_s, gi_n, gz_n, gb_0, gb_1, gb_b, gn_o, cl_n]
    rw [show (mS S 4 i (nI v)).1 3 i = nI ss.length by rw [mS_n (by omega)]; exact h3]
    simp (disch := omega) only [bd_s, bv_s, sv_s, gi_n, gz_n, gb_0, gb_1, gb_b, gn_o, cl_n, pk_mul, nI_add]
    rw [show (mS (mS S 4 i (nI v)) 6 (8 * i + ss.length) (nI s)).1 3 i = nI ss.length by rw [mS_n (by omega), mS_n (by omega)]; exact h3, nI_add]
    refine ⟨_, rfl, ⟨?_, ?_, ?_, ?_, ?_, ?_⟩, rfl, ?_, ?_, ?_, ?_, ?_⟩
    · rw [mS_n (by omega), mS_n (by omega), mS_n (by omega)]; exact h1
    · rw [mS_n (by omega), mS_n (by omega), mS_n (by omega)]; exact h2
    · rw [mS_s, upd_s]; simp [qC]
    · rw [mS_n (by omega), mS_n (by omega), mS_s, upd_s, hv]; rfl
    · rw [mS_n (by omega), mS_n (by omega), mS_n (by omega)]; exact h5
    · intro k z hz
      rw [mS_n (by omega), mS_s, mS_n (by omega)]
      dsimp only [qC] at hz
      by_cases c : k = ss.length
      · subst c
        rw [List.getElem?_append_right (Nat.le_refl _)] at hz
        simp at hz
        rw [upd_s, hz]
      · rw [upd_n (by omega)]
        have hk2 : k < ss.length := by
          have := (List.getElem?_eq_some_iff.mp hz).1
          simp at this
          omega
        rw [List.getElem?_append_left hk2] at hz
        exact h6 k z hz
    · rw [mS_n (by omega), mS_n (by omega), mS_n (by omega)]
    · intro r hr
      rw [mS_n (by omega), mS_n (by omega), mS_n (by omega)]
    · intro r j r1 r2 hj
      by_cases c3 : r = 3
      · subst c3; rw [mS_s, upd_n hj, mS_n (by omega), mS_n (by omega)]
      · rw [mS_n c3, mS_n (by omega)]
        by_cases c4 : r = 4
        · subst c4; rw [mS_s, upd_n hj]
        · rw [mS_n c4]
    · intro k hk
      rw [mS_n (by omega), mS_s, upd_n (by omega), mS_n (by omega)]
    · intro j hj
      rw [mS_n (by omega), mS_n (by omega), mS_n (by omega)]
  unfold fX6_comeIn
  simp (disch := omega) only [bd_s, bv_s, sv_s, gi_n, gz_n, gb_0, gb_1, gb_b, gn_o, cl_n, h3, h4]
  by_cases hz : ss = []
  · rw [if_pos (by rw [hz]; rfl), hT, bd_s]
    exact key _ (by rw [if_pos hz])
  · have : 0 < ss.length := List.length_pos_iff.mpr hz
    simp (disch := omega) only [ile_t, ile_f, ilt_t, ilt_f, ieq_t, ieq_f, i0n_f, i0p_t, i0e_t, i0e_f, i0l_t, i0l_f, i0g_t, i0g_f, b2_if, ↓reduceIte]
    exact key _ (by rw [if_neg hz])
theorem m_drop_l {i len : Nat} (hi : i < 5) (hl : len ≤ 8) (h1 : 1 ≤ len) : ∀ (d n k : Nat) (S : mM), S.1 3 i = nI len → len - 1 - k = d → k ≤ len - 1 → d < n →
    ∃ S', fX6_drop_2 n S (nI i) (nI k) = some S' ∧ S'.2 = S.2 ∧ (∀ r, r ≠ 3 → r ≠ 6 → S'.1 r = S.1 r) ∧ S'.1 3 = upd (S.1 3) i (nI (len - 1)) ∧ (∀ z, S'.1 6 z = if 8 * i + k ≤ z ∧ z < 8 * i + (len - 1) then S.1 6 (z + 1) else S.1 6 z) := by
  intro d
  induction d with
  | zero =>
    intro n k S h2 hd hk hn
    obtain ⟨n, rfl⟩ : ∃ m, n = m + 1 := ⟨n - 1, by omega⟩
    unfold fX6_drop_2
    simp (disch := omega) only [bd_s, bv_s, sv_s, gi_n, gz_n, gb_0, gb_1, gb_b, gn_o, cl_n, h2, nI_add, su_n]
    simp (disch := omega) only [ile_t, ile_f, ilt_t, ilt_f, ieq_t, ieq_f, i0n_f, i0p_t, i0e_t, i0e_f, i0l_t, i0l_f, i0g_t, i0g_f, b2_if, ↓reduceIte]
    refine ⟨_, rfl, rfl, fun r r1 r2 => mS_n r1, mS_s, fun z => ?_⟩
    rw [mS_n (by omega), if_neg (by omega)]
  | succ d ih =>
    intro n k S h2 hd hk hn
    obtain ⟨n, rfl⟩ : ∃ m, n = m + 1 := ⟨n - 1, by omega⟩
    unfold fX6_drop_2
    simp (disch := omega) only [bd_s, bv_s, sv_s, gi_n, gz_n, gb_0, gb_1, gb_b, gn_o, cl_n, h2, nI_add, su_n, pk_mul]
    simp (disch := omega) only [ile_t, ile_f, ilt_t, ilt_f, ieq_t, ieq_f, i0n_f, i0p_t, i0e_t, i0e_f, i0l_t, i0l_f, i0g_t, i0g_f, b2_if, ↓reduceIte]
    obtain ⟨S', e, a1, a2, a3, a4⟩ := ih n (k + 1) (mS S 6 (8 * i + k) (S.1 6 (8 * i + k + 1))) (by rw [mS_n (by omega)]; exact h2) (by omega) (by omega) (by omega)
    refine ⟨S', e, a1, fun r r1 r2 => (a2 r r1 r2).trans (mS_n r2), by rw [a3, mS_n (by omega)], fun z => ?_⟩
    rw [a4 z, mS_s]
    by_cases c1 : 8 * i + k ≤ z ∧ z < 8 * i + (len - 1)
    · rw [if_pos c1]
      by_cases c2 : z = 8 * i + k
      · rw [if_neg (by omega), c2, upd_s]
      · rw [if_pos (by omega), upd_n (by omega)]
    · rw [if_neg c1, if_neg (by omega), upd_n (by omega)]
theorem m_drop {S : mM} {i : Nat} {q : Qq} (h : rmQ S i q) (hl : q.2.2.2.2.length ≤ 8) (hi : i < 5) {k : Nat} (hk : k < q.2.2.2.2.length) : ∃ S', fX6_drop S (nI i) (nI k) = some S' ∧ rmQ S' i (qD q k) ∧ mfq S S' i ∧ S'.1 7 = S.1 7 := by
  obtain ⟨kd, fg, lf, ov, ss⟩ := q
  obtain ⟨h1, h2, h3, h4, h5, h6⟩ := h
  dsimp only at *
  unfold fX6_drop
  obtain ⟨S', e, a1, a2, a3, a4⟩ := m_drop_l hi hl (by omega) _ lF k S h3 rfl (by omega) (by simp [lF]; omega)
  refine ⟨S', e, ⟨?_, ?_, ?_, ?_, ?_, ?_⟩, ⟨a1, a2 0 (by omega) (by omega), fun r hr => a2 r (by omega) (by omega), ?_, ?_, ?_⟩, a2 7 (by omega) (by omega)⟩
  · rw [a2 1 (by omega) (by omega)]; exact h1
  · rw [a2 2 (by omega) (by omega)]; exact h2
  · rw [a3, upd_s]; simp only [qD, List.length_eraseIdx, if_pos hk]
  · rw [a2 4 (by omega) (by omega)]; exact h4
  · rw [a2 5 (by omega) (by omega)]; exact h5
  · intro z s hz
    simp only [qD, List.getElem?_eraseIdx] at hz
    rw [a4]
    by_cases c1 : z < k
    · rw [if_pos c1] at hz
      rw [if_neg (by omega)]
      exact h6 z s hz
    · rw [if_neg c1] at hz
      have := (List.getElem?_eq_some_iff.mp hz).1
      rw [if_pos (by omega)]
      exact h6 (z + 1) s hz
  · intro r j r1 r2 hj
    by_cases c3 : r = 3
    · subst c3; rw [a3, upd_n hj]
    · rw [a2 r c3 (by omega)]
  · intro z hz
    rw [a4 z, if_neg (by omega)]
  · intro j hj
    rw [a2 7 (by omega) (by omega)]
