/-! ===== statements carried out ===== -/
theorem p_dig {S : cM} {d k z : Nat} {B : List Nat} (h : TX S d B) (h100 : B.length ≤ 100) (hz : B[k]? = some (48 + z)) (h9 : z ≤ 9) : fX0_digit (53 + d) S (nI k) = some (nI z, S) := by
  have hk := (List.getElem?_eq_some_iff.mp hz).1
  unfold fX0_digit fX4_hasElement
  rw [h.1, if_pos rfl, i0n_f (by omega), h.2.1, ile_f (by omega) (by omega), bd_s, i0e_f (by omega) (by omega), gi_n (show k < 100 by omega) (by omega), cl_n (by omega), show 53 + d + 8 = 61 + d by omega, rel_dig (h.2.2 k _ hz) (by omega) (by omega), su_n (by omega), show 48 + z - 48 = z by omega]
theorem TX.frx {S S' : cM} {d u : Nat} {B : List Nat} (h : TX S d B) (hd : d < 8) (hu : u = 1 ∨ u = 2) (f : frx S S' u) : TX S' d B := by
  unfold TX
  rw [f.2 (53 + d) (by unfold inX; omega), f.2 (61 + d) (by unfold inX; omega)]
  exact h
theorem TM.mfr {S S' : mM} {d : Nat} {B : List Nat} (h : TM S d B) (f : mfr S S') : TM S' d B := by
  unfold TM
  rw [f.2.1 17 (by omega), f.2.1 18 (by omega), f.1]
  exact h
theorem rcd.mfr {S S' : mM} {t k : Nat} {r : Ss} (h : rcd S t r k) (f : mfr S S') : rcd S' t r k := by
  unfold rcd
  rw [f.2.2 10 (by omega), f.2.2 11 (by omega), f.2.2 12 (by omega), f.2.2 13 (by omega), f.2.2 14 (by omega), f.2.2 15 (by omega)]
  exact h
/-- what comes of a statement: it fails on both sides, or both go on alike -/
def exR (u : Nat) (Sc : cM) (Sm : mM) (a : Option (Int32 × cM)) (b : Option (Int32 × mM)) : Prop :=
  (∃ Sc' Sm', a = some (nI 0, Sc') ∧ b = some (nI 0, Sm') ∧ frx Sc Sc' u ∧ mfr Sm Sm') ∨
  (∃ Sc' Sm' x', a = some (nI 1, Sc') ∧ b = some (nI 1, Sm') ∧ frx Sc Sc' u ∧ mfr Sm Sm' ∧ okX x' ∧ rC Sc' u x' ∧ rM Sm' x')
theorem p_addCar_no {S : cM} {u : Nat} {x : Xx} (hC : rC S u x) (ok : okX x) {f s : Nat} (hf : f < 1000) (hs : s < 1000) (h : ∀ q, x.2.2[f]? = some q → s < 4 → ¬ q.2.2.2.2.length < 8) : fX0_addCar u S (nI f) (nI s) = some (nI 0, S) := by
  have hl := ok.1
  unfold fX0_addCar
  by_cases c : f < x.2.2.length
  · have hq : x.2.2[f]? = some x.2.2[f] := List.getElem?_eq_getElem c
    generalize x.2.2[f] = q at hq
    have h8 := (okX_at ok hq).2.2.2.1
    rw [has_yes hC ok c, bd_s, i0e_f (by omega) (by omega)]
    by_cases c4 : s < 4
    · rw [p_sort_yes c4, bd_s, i0e_f (by omega) (by omega), g5 (by omega), cl_n (by omega), p_hasRoom (hC.2.2.2 f q hq) (okX_at ok hq), bd_s, b2_if, show decide (q.2.2.2.2.length < 8) = false from decide_eq_false (h q hq c4)]; rfl
    · rw [p_sort_no (Or.inr (nI_le (by omega) (by omega))), bd_s, if_pos nI_0]
  · rw [has_no hC (Or.inr (nI_le (by omega) (by omega))), bd_s, if_pos nI_0]
theorem p_addCar_yes {S : cM} {u : Nat} (hu : u = 1 ∨ u = 2) {x : Xx} (hC : rC S u x) (ok : okX x) {f s : Nat} {q : Qq} (hq : x.2.2[f]? = some q) (hs : s < 4) (h8 : q.2.2.2.2.length < 8) : ∃ S', fX0_addCar u S (nI f) (nI s) = some (nI 1, S') ∧ rC S' u (xC x f s) ∧ frx S S' u := by
  have hl := ok.1
  have hf := (List.getElem?_eq_some_iff.mp hq).1
  obtain ⟨S', e1, r1, f1⟩ := p_xcome (by omega) hC ok hq hs h8
  refine ⟨S', ?_, r1, f1⟩
  unfold fX0_addCar
  rw [has_yes hC ok hf, bd_s, i0e_f (by omega) (by omega), p_sort_yes hs, bd_s, i0e_f (by omega) (by omega), g5 (by omega), cl_n (by omega), p_hasRoom (hC.2.2.2 f q hq) (okX_at ok hq), bd_s, b2_if, show decide (q.2.2.2.2.length < 8) = true from decide_eq_true h8, if_pos rfl, g5 (by omega), e1, bv_s]
/-- statements c -/
theorem ex_c {u d t k : Nat} (hu : u = 1 ∨ u = 2) (ht : t < 51) {x : Xx} (ok : okX x) {Sc : cM} {Sm : mM} {B : List Nat} (h100 : B.length ≤ 100) (tx : TX Sc d B) (hC : rC Sc u x) (hM : rM Sm x) {r : Ss} (sh : shp (B.drop k) r) (rc : rcd Sm t r k) (h99 : r.2.1 = 99) :
    exR u Sc Sm (fX0_carryOut (53 + d) u Sc (nI k) (nI (k + r.1 - 1))) (fX6_comesOf Sm (nI t)) := by
  have hl := ok.1
  obtain ⟨s0, s1, s2, s3, s4⟩ := sh
  rcases s4 with ⟨g, -⟩ | ⟨-, g1, g2, g3, g4, g5'⟩ | ⟨g, -⟩
  · omega
  · obtain ⟨n, c, f, s, ds⟩ := r
    dsimp only at h99 g1 g2 g3 g4 g5' s0
    subst h99
    rw [List.getElem?_drop] at s0 g2 g3
    rw [Nat.add_zero] at s0
    have hk := (List.getElem?_eq_some_iff.mp s0).1
    obtain ⟨r10, r11, r12, r13, -⟩ := rc
    dsimp only at r11 r12 r13
    have ec : fX0_carryOut (53 + d) u Sc (nI k) (nI (k + n - 1)) = bd (fX0_addCar u Sc (nI f) (nI s)) fun v8 S8 => gb v8 (some (v8, S8)) := by
      unfold fX0_carryOut fX4_hasElement
      rw [tx.1, if_pos rfl, i0n_f (by omega), tx.2.1, ile_f (by omega) (by omega), bd_s, i0e_f (by omega) (by omega), gi_n (show k < 100 by omega) (by omega), cl_n (by omega), show 53 + d + 8 = 61 + d by omega, if_pos ((rel_eq (tx.2.2 k _ s0) (by omega)).mpr rfl), nI_add, p_dig tx h100 g2 g4, bd_s, nI_add, p_dig tx h100 g3 g5', bd_s]
    have em : fX6_comesOf Sm (nI t) = bd (fX6_isLane Sm (nI f)) fun v9 S9 => (if v9 = 0 then some (nI 0, S9) else gi (nI t) 51 (if (nI 3) < (S9.1 13 t) then some (nI 0, S9) else gi (nI t) 51 (gi (S9.1 12 t) 5 (if (S9.1 3 (S9.1 12 t).toNatClampNeg) = (nI 8) then some (nI 0, S9) else gi (nI t) 51 (gi (nI t) 51 (bv (fX6_comeIn S9 (S9.1 12 t) (S9.1 13 t)) fun S23 => (some (nI 1, S23)))))))) := by
      unfold fX6_comesOf
      rw [g51 ht, cl_n (by omega), r11, ieq_f (by omega) (by omega) (by omega), g51 ht, ieq_f (by omega) (by omega) (by omega), g51 ht, r12]
    rw [ec, em]
    by_cases c1 : f < x.2.2.length
    · have hq : x.2.2[f]? = some x.2.2[f] := List.getElem?_eq_getElem c1
      generalize x.2.2[f] = q at hq
      have h8 := (okX_at ok hq).2.2.2.1
      rw [m_isLane_yes hM.1 hl c1, bd_s, i0e_f (by omega) (by omega), g51 ht, r13]
      by_cases c4 : s < 4
      · rw [ilt_f (by omega) (by omega), g51 ht, r12, g5 (by omega), cl_n (by omega), (hM.2.2.2 f q hq).2.2.1]
        by_cases c8 : q.2.2.2.2.length < 8
        · obtain ⟨S', e1, q1, f1⟩ := p_addCar_yes hu hC ok hq c4 c8
          obtain ⟨T', e2, q2, f2⟩ := m_xcome hM ok hq c4 c8
          rw [e1, bd_s, gb_1, ieq_f (by omega) (by omega) (by omega), g51 ht, g51 ht, e2, bv_s]
          exact Or.inr ⟨S', T', xC x f s, rfl, rfl, f1, f2, xC_ok ok hq c4 c8, q1, q2⟩
        · rw [p_addCar_no hC ok (by omega) (by omega) (fun q' hq' _ => by rw [hq] at hq'; simp only [Option.some.injEq] at hq'; subst hq'; exact c8), bd_s, gb_0, ieq_t (by omega)]
          exact Or.inl ⟨_, _, rfl, rfl, frx.rf, mfr.rf⟩
      · rw [p_addCar_no hC ok (by omega) (by omega) (fun q' _ h => absurd h c4), bd_s, gb_0, ilt_t (by omega) (by omega)]
        exact Or.inl ⟨_, _, rfl, rfl, frx.rf, mfr.rf⟩
    · rw [p_addCar_no hC ok (by omega) (by omega) (fun q' hq' _ => by have := (List.getElem?_eq_some_iff.mp hq').1; omega), bd_s, gb_0, m_isLane_no hM.1 hl (Or.inr (nI_le (by omega) (by omega))), bd_s, if_pos nI_0]
      exact Or.inl ⟨_, _, rfl, rfl, frx.rf, mfr.rf⟩
  · omega
/-- statements m -/
theorem ex_m {u d t k : Nat} (hu : u = 1 ∨ u = 2) (ht : t < 51) {x : Xx} (ok : okX x) {Sc : cM} {Sm : mM} {B : List Nat} (h100 : B.length ≤ 100) (tx : TX Sc d B) (hC : rC Sc u x) (hM : rM Sm x) {r : Ss} (sh : shp (B.drop k) r) (rc : rcd Sm t r k) (h109 : r.2.1 = 109) :
    exR u Sc Sm (fX0_carryOut (53 + d) u Sc (nI k) (nI (k + r.1 - 1))) (fX6_comesOf Sm (nI t)) := by
  have hl := ok.1
  have hF : 110 < lF := by simp [lF]
  obtain ⟨s0, s1, s2, s3, s4⟩ := sh
  rcases s4 with ⟨g, -⟩ | ⟨g, -⟩ | ⟨-, g⟩
  · omega
  · omega
  · obtain ⟨n, c, f, s, ds⟩ := r
    dsimp only at h109 g s0 s2
    subst h109
    simp only [List.getElem?_drop] at s0 g s2
    rw [Nat.add_zero] at s0
    have hk := (List.getElem?_eq_some_iff.mp s0).1
    obtain ⟨r10, r11, r12, r13, -⟩ := rc
    dsimp only at r11 r12 r13
    have hf : f ≤ 99 ∧ fX0_number (53 + d) Sc (nI (k + 1)) (nI (k + n - 1)) = some (nI f, Sc) := by
      unfold fX0_number
      generalize lF = F at hF ⊢
      obtain ⟨F, rfl⟩ : ∃ z, F = z + 3 := ⟨F - 3, by omega⟩
      rcases g with ⟨g1, g2, g3⟩ | ⟨g1, a, b, g2, g3, g4, g5', g6⟩
      · refine ⟨by omega, ?_⟩
        unfold fX0_number_5
        rw [ile_f (by omega) (by omega), p_dig tx h100 g2 g3, bd_s, nI_add, pk_mul, nI_add]
        unfold fX0_number_5
        rw [ile_t (by omega) (by omega), show 10 * 0 + f = f by omega]
      · have w := (List.getElem?_eq_some_iff.mp g4).1
        refine ⟨by omega, ?_⟩
        unfold fX0_number_5
        rw [ile_f (by omega) (by omega), p_dig tx h100 g3 g5', bd_s, nI_add, pk_mul, nI_add]
        unfold fX0_number_5
        rw [ile_f (by omega) (by omega), show k + 1 + 1 = k + 2 by omega, p_dig tx h100 g4 g6, bd_s, nI_add, pk_mul, nI_add]
        unfold fX0_number_5
        rw [ile_t (by omega) (by omega), g2, show 10 * (10 * 0 + a) + b = 10 * a + b by omega]
    clear g
    obtain ⟨S', e1, q1, f1⟩ := p_goBy (by omega) hC ok (t := f) (by omega)
    obtain ⟨T', e2, q2, f2⟩ := m_goBy hM ok (t := f) (by omega)
    refine Or.inr ⟨S', T', xB f x, ?_, ?_, f1, f2, xB_ok ok, q1, q2⟩
    · unfold fX0_carryOut fX4_hasElement
      have ne99 : ¬ Sc.1 (61 + d) k = nI 99 := fun q => by have := (rel_eq (tx.2.2 k _ s0) (by omega)).mp q; omega
      have ne108 : ¬ Sc.1 (61 + d) k = nI 108 := fun q => by have := (rel_eq (tx.2.2 k _ s0) (by omega)).mp q; omega
      rw [tx.1, if_pos rfl, i0n_f (by omega), tx.2.1, ile_f (by omega) (by omega), bd_s, i0e_f (by omega) (by omega), gi_n (show k < 100 by omega) (by omega), cl_n (by omega), show 53 + d + 8 = 61 + d by omega, if_neg ne99, if_neg ne108, nI_add, hf.2, bd_s, e1, bd_s]
    · unfold fX6_comesOf
      rw [g51 ht, cl_n (by omega), r11, ieq_f (by omega) (by omega) (by omega), g51 ht, if_pos rfl, g51 ht, r12, e2, bd_s]
