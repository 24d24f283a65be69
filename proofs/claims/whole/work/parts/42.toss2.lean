/-! ===== toss, element: class and reference alike ===== -/
theorem t_toss {Sc : cM} {Sm : mM} {x : Xx} {im : Option Xx} {sh : Nat → Sh} (R : Rl Sc Sm x im sh) (x1 : Int32) : Same (fX5_toss Sc x1) (fX6_toss Sm x1) := by
  rcases shelf_c (SH9 R) (Or.inl rfl) x1 with ⟨rc, h1, -, h2, h3, h4, -⟩ | ⟨d, rfl, hd, hk, h1, -, h2⟩
  · refine same_of R (r := rc) ?_ ?_
    · unfold fX5_toss fX5_keptLaneRefusal; rw [h1, bd_s, bd_s, if_neg h3]
    · unfold fX6_toss; rw [sv_s, h2 rfl, bd_s, if_neg h4, h2 rfl, bd_s]
  · obtain ⟨hok, hc, hm⟩ := SH9 R d hd
    obtain ⟨v, p1, p2⟩ := pay_c (S := Sc) (hok.2.1 hk).2.1 (hok.2.1 hk).2.2 hd (hm.2.1 hk).2.1 (hm.2.1 hk).2.2
    obtain ⟨o1, o2, o3⟩ := hok.2.1 hk
    obtain ⟨c1, c2, c3⟩ := hc.2.1 hk
    obtain ⟨d1, d2, d3⟩ := hm.2.1 hk
    have ec : fX5_toss Sc (nI d) = if nI (sh d).2.1.2.1 = nI 7 ∨ nI (sh d).2.1.2.2 = 0 then some ((-15), Sc) else if nI (sh d).2.1.2.1 = nI 3 then some (nI (sh d).2.1.1 + nI 100, Sc) else if nI (sh d).2.1.2.1 = nI 6 then some (nI 200 + v, Sc) else some (nI (sh d).2.1.1, Sc) := by
      unfold fX5_toss fX5_keptLaneRefusal
      rw [h1, bd_s, bd_s, if_pos nI_0, g8 hd, cl_n (by omega), c1, c2, c3, p1, bd_s]
    have em : fX6_toss Sm (nI d) = if nI (sh d).2.1.2.1 = nI 7 then some ((-15), mS Sm 0 9 (nI 0)) else if nI (sh d).2.1.2.2 = 0 then some ((-15), mS Sm 0 9 (nI 0)) else if nI (sh d).2.1.2.1 = nI 3 then some (nI 100 + nI (sh d).2.1.1, mS Sm 0 9 (nI 0)) else if nI (sh d).2.1.2.1 = nI 6 then some (nI 200 + v, mS Sm 0 9 (nI 0)) else some (nI (sh d).2.1.1, mS Sm 0 9 (nI 0)) := by
      unfold fX6_toss
      rw [sv_s, h2 rfl, bd_s, if_pos (by decide), g8 hd, g8 hd, g8 hd, g8 hd, cl_n (by omega), d1, d2, d3, p2, bd_s]
    rw [ec, em]
    by_cases h7 : nI (sh d).2.1.2.1 = nI 7
    · rw [if_pos (Or.inl h7), if_pos h7]; exact same_of R rfl rfl
    · by_cases h0 : nI (sh d).2.1.2.2 = 0
      · rw [if_pos (Or.inr h0), if_neg h7, if_pos h0]; exact same_of R rfl rfl
      · rw [if_neg (fun q => q.elim h7 h0), if_neg h7, if_neg h0]
        by_cases h3 : nI (sh d).2.1.2.1 = nI 3
        · rw [if_pos h3, if_pos h3]; exact same_of R rfl (by rw [Int32.add_comm])
        · rw [if_neg h3, if_neg h3]
          by_cases h6 : nI (sh d).2.1.2.1 = nI 6
          · rw [if_pos h6, if_pos h6]; exact same_of R rfl rfl
          · rw [if_neg h6, if_neg h6]; exact same_of R rfl rfl
theorem m9v {S : mM} {x : Xx} (h : rM S x) (v : Int32) : rM (mS S 0 9 v) x := rM_core h (fun k hk => by rw [mS_s, upd_n (by omega)]) (fun r r1 r2 => by rw [mS_n (by omega)])
theorem k9v {S : mM} (v : Int32) : mkp S (mS S 0 9 v) := ⟨rfl, mS_n (by omega), by rw [mS_s, upd_n (by omega)], fun r hr => mS_n (by omega)⟩
theorem Rl.told {Sc : cM} {Sm : mM} {x : Xx} {im : Option Xx} {sh : Nat → Sh} (R : Rl Sc Sm x im sh) (v : Int32) : Rl Sc (mS Sm 0 9 v) x im sh := R.step cKp.rf (k9v v) R.1 R.2.1 (m9v R.2.2.1 v)
theorem el_43 {S : mM} {x1 x2 : Int32} {k : Nat} (h1 : 1 ≤ k) (h2 : k ≤ 2) : fX6_element_43 S x1 x2 (nI k) = some (0, mS S 0 9 (nI k)) := by
  unfold fX6_element_43
  rw [sv_s, mS_s, upd_s]
  rcases (show k = 1 ∨ k = 2 by omega) with rfl | rfl <;> rfl
theorem t_element {Sc : cM} {Sm : mM} {x : Xx} {im : Option Xx} {sh : Nat → Sh} (R : Rl Sc Sm x im sh) (x1 x2 : Int32) : ∃ (k : Nat) (v w : Int64) (Sm' : mM), fX5_element Sc x1 x2 = some (k, v, Sc) ∧ fX6_element Sm x1 x2 = some (w, Sm') ∧ Sm'.1 0 9 = nI k ∧ k ≤ 2 ∧ (k = 0 → v = w) ∧ Rl Sc Sm' x im sh := by
  rcases num_c x1 8 (by omega) with h | ⟨d, rfl, hd⟩
  · refine ⟨1, 0, 0, mS Sm 0 9 (nI 1), ?_, ?_, by rw [mS_s, upd_s], by omega, fun _ => rfl, R.told _⟩
    · unfold fX5_element; rw [p_shelf_no h, bd_s]; rfl
    · have e1 : fX6_wrongRow Sm x1 = some (-1, Sm) := by unfold fX6_wrongRow; rw [q_0, q_7, inr_no (by omega) h, bd_s]; rfl
      unfold fX6_element
      rw [e1, bd_s, if_pos rfl, el_43 (by omega) (by omega)]
  · obtain ⟨hok, hc, hm⟩ := R.2.2.2.2.2 d hd
    have hle := hok.1
    have e2 : fX6_wrongRow Sm (nI d) = if nI (sh d).1 = 0 then some (-11, Sm) else if nI (sh d).1 = nI 2 then some (nI 0, Sm) else some (-12, Sm) := by
      unfold fX6_wrongRow
      rw [q_0, q_7, inr_yes (by omega) (by omega), bd_s, i0e_f (by omega) (by omega), g8 hd, g8 hd, cl_n (by omega), hm.1]
    have ec : fX5_element Sc (nI d) x2 = bd (fX4_hasElement (53 + d) Sc x2) fun v2 S2 => ( if v2 = 0 then some (2, 0, S2) else gi (nI d) 8 (gi x2 100 (some (0, (S2.1 (53 + d + 8) (x2).toNatClampNeg).toInt64, S2)))) := by
      unfold fX5_element
      rw [p_shelf_yes hd, bd_s, i0e_f (by omega) (by omega), g8 hd, cl_n (by omega)]
    have no : fX4_hasElement (53 + d) Sc x2 = some (nI 0, Sc) → fX6_element Sm (nI d) x2 = some (0, mS Sm 0 9 (nI 2)) → ∃ (k : Nat) (v w : Int64) (Sm' : mM), fX5_element Sc (nI d) x2 = some (k, v, Sc) ∧ fX6_element Sm (nI d) x2 = some (w, Sm') ∧ Sm'.1 0 9 = nI k ∧ k ≤ 2 ∧ (k = 0 → v = w) ∧ Rl Sc Sm' x im sh := by
      intro q1 q2
      refine ⟨2, 0, 0, mS Sm 0 9 (nI 2), ?_, q2, by rw [mS_s, upd_s], by omega, fun _ => rfl, R.told _⟩
      rw [ec, q1, bd_s]; rfl
    by_cases hk : (sh d).1 = 2
    · obtain ⟨c4, c5, c6⟩ := hc.2.2 hk
      obtain ⟨d4, d5, d6⟩ := hm.2.2 hk
      obtain ⟨o1, o2, o3⟩ := hok.2.2 hk
      have hc0 := hc.1
      rw [hk] at hc0
      rw [hk, i0e_f (by omega) (by omega), ieq_t rfl] at e2
      rcases num_c x2 (sh d).2.2.length (by omega) with h | ⟨i, rfl, hi⟩
      · refine no ?_ ?_
        · unfold fX4_hasElement
          rw [hc0, ieq_t rfl, c5]
          by_cases h1 : x2 < 0
          · rw [if_pos h1]
          · rw [if_neg h1, if_pos (h.resolve_left h1)]
        · unfold fX6_element fX6_element_38
          rw [e2, bd_s, if_neg (by decide), if_neg (by decide), g8 hd, cl_n (by omega), d5, q_0, in_no (h.imp (fun q => by rw [nI_0]; exact q) (fun q => ge_pred (by omega) q)), bd_s, i0e_t rfl, el_43 (by omega) (by omega)] <;> rfl
      · have hv : (sh d).2.2[i]? = some (sh d).2.2[i] := List.getElem?_eq_getElem hi
        generalize (sh d).2.2[i] = w at hv
        refine ⟨0, w.toInt64, w.toInt64, mS Sm 0 9 (nI 0), ?_, ?_, by rw [mS_s, upd_s], by omega, fun _ => rfl, R.told _⟩
        · rw [ec]
          unfold fX4_hasElement
          rw [hc0, ieq_t rfl, c5, i0n_f (by omega), ile_f (by omega) (by omega), bd_s, i0e_f (by omega) (by omega), g8 hd, gi_n (show i < 100 by omega) (by omega), cl_n (by omega), show 53 + d + 8 = 61 + d by omega, c6 i w hv]
        · unfold fX6_element
          rw [e2, bd_s, if_neg (by decide), if_neg (by decide), g8 hd, cl_n (by omega), d5, q_0, in_yes (nI_nlt (by omega) (by omega)) (lt_pred (by omega) hi), bd_s, i0e_f (by omega) (by omega)]
          unfold fX6_element_43
          rw [sv_s, mS_s, upd_s, if_pos (by decide), pk_mul, nI_add, gi_n (show 100 * d + i < 800 by omega) (by omega), cl_n (by omega)]
          show some ((Sm.2.1 26 (100 * d + i)), _) = _
          rw [d6 i w hv]
    · refine no ?_ ?_
      · unfold fX4_hasElement
        rw [hc.1, ieq_f hk (by omega) (by omega)]
      · unfold fX6_element fX6_element_38
        rw [e2]
        by_cases h0 : (sh d).1 = 0
        · rw [i0e_t h0, bd_s, if_neg (by decide), if_pos (by decide), el_43 (by omega) (by omega)]
        · rw [i0e_f (by omega) (by omega), ieq_f hk (by omega) (by omega), bd_s, if_neg (by decide), if_pos (by decide), el_43 (by omega) (by omega)]
