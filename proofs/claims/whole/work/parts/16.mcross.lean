/-! ===== the reference's minutes ===== -/
theorem m_min_l {a b : Int32} : ∀ (r d : List Qq) (n w : Nat) (S : mM), (d ++ r).length ≤ 5 → (∀ q ∈ d ++ r, okQ q) → rM S (a, b, d ++ r) → r.length < n →
    ∃ S', fX6_minuteOn_14 n S (nI w) (nI d.length) = some (nI (w + mG r), S') ∧ rM S' (a, b + nI (w + mG r), d ++ r.map qU) ∧ mfr S S' ∧ (∀ j q, r[j]? = some q → S'.1 7 (d.length + j) = b2 (qG q)) ∧ (∀ j, j < d.length → S'.1 7 j = S.1 7 j) := by
  intro r
  induction r with
  | nil =>
    intro d n w S hl hok h hn
    obtain ⟨n, rfl⟩ : ∃ m, n = m + 1 := ⟨n - 1, by omega⟩
    simp only [List.append_nil] at h hl
    obtain ⟨h1, h2, h3, h4⟩ := h
    dsimp only at *
    unfold fX6_minuteOn_14
    rw [h1]
    simp (disch := omega) only [ile_t, ile_f, ilt_t, ilt_f, ieq_t, ieq_f, i0n_f, i0p_t, i0e_t, i0e_f, i0l_t, i0l_f, i0g_t, i0g_f, b2_if, ↓reduceIte, bd_s, bv_s, sv_s, gi_n, gz_n, gb_0, gb_1, gb_b, gn_o, cl_n]
    refine ⟨mS S 0 2 (S.1 0 2 + nI w), by simp [mG], ⟨?_, ?_, ?_, ?_⟩, ⟨rfl, fun k hk => ?_, fun r hr => ?_⟩, fun j q hj => ?_, fun j hj => ?_⟩
    · rw [mS_s, upd_n (by omega)]; simpa using h1
    · rw [mS_s, upd_n (by omega)]; exact h2
    · rw [mS_s, upd_s, h3]; simp [mG]
    · intro i q hq
      simp only [List.map_nil, List.append_nil] at hq
      exact rmQ_keep (h4 i q hq) (fun r r1 r2 => by rw [mS_n (by omega)]) (fun k _ => by rw [mS_n (by omega)])
    · rw [mS_s, upd_n (by omega)]
    · rw [mS_n (by omega)]
    · simp at hj
    · rw [mS_n (by omega)]
  | cons q r ih =>
    intro d n w S hl hok h hn
    obtain ⟨n, rfl⟩ : ∃ m, n = m + 1 := ⟨n - 1, by omega⟩
    have hl2 : d.length + (r.length + 1) ≤ 5 := by simpa using hl
    have hq := h.2.2.2 d.length q (at_mid rfl)
    have okq := hok q (by simp)
    have hlen := h.1
    -- what a step leaves to do
    have fin : ∀ (S1 : mM), rmQ S1 d.length (qU q) → mfq S S1 d.length → S1.1 7 d.length = b2 (qG q) →
        ∃ S', fX6_minuteOn_14 n S1 (nI (w + (if qG q = true then 1 else 0))) (nI (d.length + 1)) = some (nI (w + mG (q :: r)), S') ∧ rM S' (a, b + nI (w + mG (q :: r)), d ++ (q :: r).map qU) ∧ mfr S S' ∧ (∀ j z, (q :: r)[j]? = some z → S'.1 7 (d.length + j) = b2 (qG z)) ∧ (∀ j, j < d.length → S'.1 7 j = S.1 7 j) := by
      intro S1 r1 f1 w1
      have h1 : rM S1 (a, b, (d ++ [qU q]) ++ r) := by
        have := rM_set hok h (i := d.length) (by simp) f1 r1
        rw [set_mid rfl] at this
        simpa using this
      obtain ⟨S2, e2, r2, f2, g2, k2⟩ := ih (d ++ [qU q]) n (w + (if qG q = true then 1 else 0)) S1 (by simpa using hl) (fun z hz => by
        simp only [List.append_assoc, List.mem_append, List.mem_singleton, List.cons_append, List.nil_append, List.mem_cons] at hz
        rcases hz with hz | hz | hz
        · exact hok z (by simp [hz])
        · rw [hz]; exact okU okq
        · exact hok z (by simp [hz])) h1 (by simpa using hn)
      have e3 : w + mG (q :: r) = w + (if qG q = true then 1 else 0) + mG r := by simp only [mG, Nat.add_assoc]
      refine ⟨S2, ?_, ?_, (mfr.ofq f1).tr f2, fun j z hj => ?_, fun j hj => ?_⟩
      · rw [e3, ← e2]; simp
      · rw [e3]; simpa using r2
      · cases j with
        | zero =>
          simp at hj
          subst hj
          rw [Nat.add_zero, k2 d.length (by simp)]
          exact w1
        | succ j =>
          have := g2 j z (by simpa using hj)
          simp only [List.length_append, List.length_cons, List.length_nil] at this
          rw [show d.length + (j + 1) = d.length + (0 + 1) + j by omega]
          exact this
      · rw [k2 j (by simp; omega)]
        exact f1.2.2.2.2.2 j (by omega)
    unfold fX6_minuteOn_14
    rw [hlen]
    simp only [List.length_append, List.length_cons]
    generalize hdl : d.length = i at *
    have hi : i < 5 := by omega
    obtain ⟨kd, fg, lf, ov, ss⟩ := q
    have okq' := okq
    obtain ⟨hk, hf, hlf, hll, hss, hz, hnz⟩ := okq
    obtain ⟨h1, h2, h3, h4, h5, h6⟩ := hq
    dsimp only at *
    simp (disch := omega) only [ile_t, ile_f, ilt_t, ilt_f, ieq_t, ieq_f, i0n_f, i0p_t, i0e_t, i0e_f, i0l_t, i0l_f, i0g_t, i0g_f, b2_if, ↓reduceIte, bd_s, bv_s, sv_s, gi_n, gz_n, gb_0, gb_1, gb_b, gn_o, cl_n]
    rw [show (mS S 7 i (nI 0)).1 3 i = nI ss.length by rw [mS_n (by omega)]; exact h3]
    by_cases he : ss = []
    · rw [if_pos (by rw [he]; decide)]
      unfold fX6_minuteOn_116
      rw [nI_add]
      have hg : qG (kd, fg, lf, ov, ss) = false := by simp [qG, he]
      have := fin (mS S 7 i (nI 0)) (by
        unfold qU
        rw [if_pos he]
        exact rmQ_keep ⟨h1, h2, h3, h4, h5, h6⟩ (fun r r1 r2 => by rw [mS_n (by omega)]) (fun k _ => by rw [mS_n (by omega)])) ⟨rfl, mS_n (by omega), fun r hr => mS_n (by omega), fun r j r1 r2 _ => by rw [mS_n (by omega)], fun k _ => by rw [mS_n (by omega)], fun j hj => by rw [mS_s, upd_n hj]⟩ (by rw [mS_s, upd_s, hg]; rfl)
      rw [hg] at this
      simpa using this
    · have hl0 : 0 < ss.length := List.length_pos_iff.mpr he
      have hlf1 := hnz he
      simp (disch := omega) only [ile_t, ile_f, ilt_t, ilt_f, ieq_t, ieq_f, i0n_f, i0p_t, i0e_t, i0e_f, i0l_t, i0l_f, i0g_t, i0g_f, b2_if, ↓reduceIte]
      rw [show (mS S 7 i (nI 0)).1 4 i = nI lf by rw [mS_n (by omega)]; exact h4, su_n hlf1]
      rw [show (mS (mS S 7 i (nI 0)) 4 i (nI (lf - 1))).1 4 i = nI (lf - 1) by rw [mS_s, upd_s]]
      have hq14 : rmQ (mS (mS S 7 i (nI 0)) 4 i (nI (lf - 1))) i (kd, fg, lf - 1, ov, ss) := by
        refine ⟨?_, ?_, ?_, ?_, ?_, ?_⟩
        · rw [mS_n (by omega), mS_n (by omega)]; exact h1
        · rw [mS_n (by omega), mS_n (by omega)]; exact h2
        · rw [mS_n (by omega), mS_n (by omega)]; exact h3
        · rw [mS_s, upd_s]
        · rw [mS_n (by omega), mS_n (by omega)]; exact h5
        · intro k z hk; rw [mS_n (by omega), mS_n (by omega)]; exact h6 k z hk
      have hf14 : mfq S (mS (mS S 7 i (nI 0)) 4 i (nI (lf - 1))) i := by
        refine ⟨rfl, ?_, fun r hr => ?_, fun r j r1 r2 hj => ?_, fun k hk => ?_, fun j hj => ?_⟩
        · rw [mS_n (by omega), mS_n (by omega)]
        · rw [mS_n (by omega), mS_n (by omega)]
        · by_cases c4 : r = 4
          · subst c4; rw [mS_s, upd_n hj, mS_n (by omega)]
          · rw [mS_n c4, mS_n (by omega)]
        · rw [mS_n (by omega), mS_n (by omega)]
        · rw [mS_n (by omega), mS_s, upd_n hj]
      by_cases hl1 : lf = 1
      · have hg : qG (kd, fg, lf, ov, ss) = true := by simp [qG, he, hl1]
        subst hl1
        rw [if_pos (show nI (1 - 1) = 0 from rfl)]
        obtain ⟨S18, e18, r18, f18, w18⟩ := m_drop hq14 hll hi (k := 0) hl0
        rw [show nI 0 = nI 0 from rfl, e18, bv_s]
        have hE : qD (kd, fg, 1 - 1, ov, ss) 0 = (kd, fg, 0, ov, ss.drop 1) := by simp [qD]
        rw [hE] at r18
        have last : ∀ v : Nat, v = qF kd fg (ss.drop 1) → ∃ S', fX6_minuteOn_95 (fX6_minuteOn_14 n) S18 (nI w) (nI i) (nI i) (nI v) = some (nI (w + mG ((kd, fg, 1, ov, ss) :: r)), S') ∧ rM S' (a, b + nI (w + mG ((kd, fg, 1, ov, ss) :: r)), d ++ ((kd, fg, 1, ov, ss) :: r).map qU) ∧ mfr S S' ∧ (∀ j z, ((kd, fg, 1, ov, ss) :: r)[j]? = some z → S'.1 7 (i + j) = b2 (qG z)) ∧ (∀ j, j < i → S'.1 7 j = S.1 7 j) := by
          intro v hv
          unfold fX6_minuteOn_95 fX6_minuteOn_116
          simp (disch := omega) only [bd_s, bv_s, sv_s, gi_n, gz_n, gb_0, gb_1, gb_b, gn_o, cl_n, nI_add]
          rw [show (mS S18 4 i (nI v)).1 5 i = ov by rw [mS_n (by omega)]; exact r18.2.2.2.2.1]
          obtain ⟨g1, g2, g3, g4, g5, g6⟩ := r18
          dsimp only at *
          have := fin (mS (mS (mS S18 4 i (nI v)) 5 i (ov + nI 1)) 7 i (nI 1)) (by
            unfold qU
            rw [if_neg he, if_pos rfl]
            refine ⟨?_, ?_, ?_, ?_, ?_, ?_⟩
            · rw [mS_n (by omega), mS_n (by omega), mS_n (by omega)]; exact g1
            · rw [mS_n (by omega), mS_n (by omega), mS_n (by omega)]; exact g2
            · rw [mS_n (by omega), mS_n (by omega), mS_n (by omega)]; exact g3
            · rw [mS_n (by omega), mS_n (by omega), mS_s, upd_s, hv]
            · rw [mS_n (by omega), mS_s, upd_s]; rfl
            · intro k z hk; rw [mS_n (by omega), mS_n (by omega), mS_n (by omega)]; exact g6 k z hk) ((hf14.tr f18).tr (by
            refine ⟨rfl, ?_, fun r hr => ?_, fun r j r1 r2 hj => ?_, fun k hk => ?_, fun j hj => ?_⟩
            · rw [mS_n (by omega), mS_n (by omega), mS_n (by omega)]
            · rw [mS_n (by omega), mS_n (by omega), mS_n (by omega)]
            · rw [mS_n (by omega)]
              by_cases c5 : r = 5
              · subst c5; rw [mS_s, upd_n hj, mS_n (by omega)]
              · rw [mS_n c5]
                by_cases c4 : r = 4
                · subst c4; rw [mS_s, upd_n hj]
                · rw [mS_n c4]
            · rw [mS_n (by omega), mS_n (by omega), mS_n (by omega)]
            · rw [mS_s, upd_n hj, mS_n (by omega), mS_n (by omega)])) (by rw [mS_s, upd_s, hg]; rfl)
          rw [hg] at this
          simpa using this
        rw [r18.2.2.1]
        dsimp only
        cases hd1 : ss.drop 1 with
        | nil =>
          rw [if_pos (show nI ([] : List Nat).length ≤ 0 by decide)]
          exact last 0 (by rw [hd1]; rfl)
        | cons s l =>
          obtain ⟨c1, c2, c3⟩ := dropC hd1
          have hs : s < 4 := hss s (List.mem_of_getElem? c1)
          have hrow : S18.1 6 (8 * i) = nI s := r18.2.2.2.2.2 0 s (by dsimp only; rw [hd1]; rfl)
          have hle : (s :: l).length ≤ 8 := by rw [← hd1]; simp; omega
          have hok18 : okQ (kd, fg, 0, ov, ss.drop 1) ∨ True := Or.inr trivial
          have hT : fX6_takesIn S18 (nI i) (nI s) = some (nI (tk kd fg s), S18) := by
            unfold fX6_takesIn
            simp (disch := omega) only [bd_s, bv_s, sv_s, gi_n, gz_n, gb_0, gb_1, gb_b, gn_o, cl_n, r18.1, r18.2.1, m_takesBy hk hs]
          simp only [List.length_cons] at hle
          simp only [List.length_cons]
          simp (disch := omega) only [ile_t, ile_f, ilt_t, ilt_f, ieq_t, ieq_f, i0n_f, i0p_t, i0e_t, i0e_f, i0l_t, i0l_f, i0g_t, i0g_f, b2_if, ↓reduceIte, bd_s, bv_s, sv_s, gi_n, gz_n, gb_0, gb_1, gb_b, gn_o, cl_n, pk_mul, hrow, hT]
          exact last _ (by rw [hd1]; rfl)
      · have hg : qG (kd, fg, lf, ov, ss) = false := by simp [qG, hl1]
        simp (disch := omega) only [ile_t, ile_f, ilt_t, ilt_f, ieq_t, ieq_f, i0n_f, i0p_t, i0e_t, i0e_f, i0l_t, i0l_f, i0g_t, i0g_f, b2_if, ↓reduceIte]
        unfold fX6_minuteOn_116
        rw [nI_add]
        have := fin _ (by
          unfold qU
          rw [if_neg he, if_neg hl1]
          exact hq14) hf14 (by rw [mS_n (by omega), mS_s, upd_s, hg]; rfl)
        rw [hg] at this
        simpa using this
theorem m_minuteOn {S : mM} {x : Xx} (h : rM S x) (ok : okX x) : ∃ S', fX6_minuteOn S = some (nI (mG x.2.2), S') ∧ rM S' (x.1 + nI 1, x.2.1 + nI (mG x.2.2), x.2.2.map qU) ∧ mfr S S' ∧ (∀ j q, x.2.2[j]? = some q → S'.1 7 j = b2 (qG q)) := by
  obtain ⟨a, b, l⟩ := x
  have h' : rM (mS S 0 1 (S.1 0 1 + nI 1)) (a + nI 1, b, [] ++ l) := by
    refine ⟨?_, ?_, ?_, fun i q hq => rmQ_keep (h.2.2.2 i q hq) (fun r r1 r2 => by rw [mS_n (by omega)]) (fun k _ => by rw [mS_n (by omega)])⟩
    · rw [mS_s, upd_n (by omega)]; exact h.1
    · rw [mS_s, upd_s, h.2.1]
    · rw [mS_s, upd_n (by omega)]; exact h.2.2.1
  obtain ⟨S', e, r, f, g, -⟩ := m_min_l l [] lF 0 _ ok.1 ok.2 h' (by have : l.length ≤ 5 := ok.1; simp [lF]; omega)
  refine ⟨S', ?_, ?_, ?_, fun j q hj => ?_⟩
  · unfold fX6_minuteOn
    rw [sv_s]
    simpa using e
  · simpa using r
  · exact mfr.tr (show mfr S (mS S 0 1 (S.1 0 1 + nI 1)) from ⟨rfl, fun k hk => by rw [mS_s, upd_n (by omega)], fun r hr => mS_n (by omega)⟩) f
  · have := g j q hj
    simpa using this
theorem m_goBy_l {t : Nat} (ht : t ≤ 100) : ∀ (d n i w : Nat) (x : Xx) (S : mM), okX x → rM S x → t - i = d → i ≤ t → d < n →
    ∃ S', fX6_goBy_4 n S (nI t) (nI w) (nI i) = some (nI (w + (gB d x.2.2).1), S') ∧ rM S' (xB d x) ∧ mfr S S' := by
  intro d
  induction d with
  | zero =>
    intro n i w x S ok h hd hi hn
    obtain ⟨n, rfl⟩ : ∃ m, n = m + 1 := ⟨n - 1, by omega⟩
    unfold fX6_goBy_4
    simp (disch := omega) only [ile_t, ile_f, ilt_t, ilt_f, ieq_t, ieq_f, i0n_f, i0p_t, i0e_t, i0e_f, i0l_t, i0l_f, i0g_t, i0g_f, b2_if, ↓reduceIte]
    refine ⟨S, rfl, ?_, mfr.rf⟩
    unfold xB
    simp only [gB, nI_0]
    simpa using h
  | succ d ih =>
    intro n i w x S ok h hd hi hn
    obtain ⟨n, rfl⟩ : ∃ m, n = m + 1 := ⟨n - 1, by omega⟩
    obtain ⟨S1, e1, r1, f1, -⟩ := m_minuteOn h ok
    have ok1 : okX (x.1 + nI 1, x.2.1 + nI (mG x.2.2), x.2.2.map qU) := ⟨by dsimp only; rw [List.length_map]; exact ok.1, fun z hz => by
      obtain ⟨y, hy, rfl⟩ := List.mem_map.mp hz
      exact okU (ok.2 y hy)⟩
    obtain ⟨S2, e2, r2, f2⟩ := ih n (i + 1) (w + mG x.2.2) _ S1 ok1 r1 (by omega) (by omega) (by omega)
    unfold fX6_goBy_4
    simp (disch := omega) only [ile_t, ile_f, ilt_t, ilt_f, ieq_t, ieq_f, i0n_f, i0p_t, i0e_t, i0e_f, i0l_t, i0l_f, i0g_t, i0g_f, b2_if, ↓reduceIte, bd_s, bv_s, sv_s, gi_n, gz_n, gb_0, gb_1, gb_b, gn_o, cl_n, e1, nI_add]
    refine ⟨S2, ?_, ?_, f1.tr f2⟩
    · rw [e2]; simp only [gB, Nat.add_assoc]
    · have e3 : xB (d + 1) x = xB d (x.1 + nI 1, x.2.1 + nI (mG x.2.2), x.2.2.map qU) := by
        unfold xB
        simp only [gB, Int32.add_assoc, nI_add]
        rw [Nat.add_comm 1 d]
      rw [e3]
      exact r2
theorem m_goBy {S : mM} {x : Xx} (h : rM S x) (ok : okX x) {t : Nat} (ht : t ≤ 100) : ∃ S', fX6_goBy S (nI t) = some (nI (gB t x.2.2).1, S') ∧ rM S' (xB t x) ∧ mfr S S' := by
  obtain ⟨S', e, r, f⟩ := m_goBy_l ht t lF 0 0 x S ok h rfl (by omega) (by simp [lF]; omega)
  exact ⟨S', by unfold fX6_goBy; rw [e, Nat.zero_add], r, f⟩
