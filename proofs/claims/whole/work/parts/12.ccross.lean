/-! ===== crossings: clock, passed, lanes ===== -/
abbrev Xx : Type := Int32 × Int32 × List Qq
def okX (x : Xx) : Prop := x.2.2.length ≤ 5 ∧ ∀ q ∈ x.2.2, okQ q
def rC (S : cM) (u : Nat) (x : Xx) : Prop := S.1 u 1 = nI x.2.2.length ∧ S.1 u 2 = x.1 ∧ S.1 u 3 = x.2.1 ∧ ∀ i q, x.2.2[i]? = some q → rQ S (5 * u + 2 + i) q
def inX (u r : Nat) : Prop := r = u ∨ (5 * u + 2 ≤ r ∧ r ≤ 5 * u + 6) ∨ (5 * u + 17 ≤ r ∧ r ≤ 5 * u + 21) ∨ (5 * u + 32 ≤ r ∧ r ≤ 5 * u + 36)
def frx (S S' : cM) (u : Nat) : Prop := S'.2 = S.2 ∧ ∀ r, ¬ inX u r → S'.1 r = S.1 r
theorem frx.rf {S : cM} {u : Nat} : frx S S u := ⟨rfl, fun _ _ => rfl⟩
theorem frx.tr {S S1 S2 : cM} {u : Nat} (h1 : frx S S1 u) (h2 : frx S1 S2 u) : frx S S2 u := ⟨h2.1.trans h1.1, fun r a => (h2.2 r a).trans (h1.2 r a)⟩
theorem frx.ofq {S S' : cM} {u i : Nat} (h : frq S S' (5 * u + 2 + i)) (hi : i < 5) : frx S S' u := ⟨h.1, fun r hr => h.2 r (fun e => hr (Or.inr (Or.inl (by omega)))) (fun e => hr (Or.inr (Or.inr (Or.inl (by omega))))) (fun e => hr (Or.inr (Or.inr (Or.inr (by omega)))))⟩
theorem rC_keep {S S' : cM} {u v : Nat} {x : Xx} (hl : x.2.2.length ≤ 5) (h : rC S u x) (hf : frx S S' v) (hu : 1 ≤ u ∧ u ≤ 3) (hv : 1 ≤ v ∧ v ≤ 3) (hne : u ≠ v) : rC S' u x := by
  have k : ∀ r, inX u r → S'.1 r = S.1 r := fun r hr => hf.2 r (fun h2 => by unfold inX at *; omega)
  refine ⟨by rw [k u (Or.inl rfl)]; exact h.1, by rw [k u (Or.inl rfl)]; exact h.2.1, by rw [k u (Or.inl rfl)]; exact h.2.2.1, fun i q hq => ?_⟩
  have hi : i < x.2.2.length := (List.getElem?_eq_some_iff.mp hq).1
  exact rQ_keep (h.2.2.2 i q hq) (k _ (Or.inr (Or.inl (by omega)))) (k _ (Or.inr (Or.inr (Or.inl (by omega))))) (k _ (Or.inr (Or.inr (Or.inr (by omega)))))
theorem rC_rows {S S' : cM} {u : Nat} {x : Xx} (hl : x.2.2.length ≤ 5) (h : rC S u x) (k : ∀ r, inX u r → S'.1 r = S.1 r) : rC S' u x := by
  refine ⟨by rw [k u (Or.inl rfl)]; exact h.1, by rw [k u (Or.inl rfl)]; exact h.2.1, by rw [k u (Or.inl rfl)]; exact h.2.2.1, fun i q hq => ?_⟩
  have hi : i < x.2.2.length := (List.getElem?_eq_some_iff.mp hq).1
  exact rQ_keep (h.2.2.2 i q hq) (k _ (Or.inr (Or.inl (by omega)))) (k _ (Or.inr (Or.inr (Or.inl (by omega))))) (k _ (Or.inr (Or.inr (Or.inr (by omega)))))
theorem rC_set {S S' : cM} {u i : Nat} {a b : Int32} {l : List Qq} {q' : Qq} (hl : l.length ≤ 5) (h : rC S u (a, b, l)) (hi : i < l.length) (hf : frq S S' (5 * u + 2 + i)) (hq : rQ S' (5 * u + 2 + i) q') (hu : 1 ≤ u ∧ u ≤ 3) : rC S' u (a, b, l.set i q') := by
  dsimp only [rC] at *
  have k : S'.1 u = S.1 u := hf.2 u (by omega) (by omega) (by omega)
  refine ⟨by rw [k, List.length_set]; exact h.1, by rw [k]; exact h.2.1, by rw [k]; exact h.2.2.1, fun j q hj => ?_⟩
  rw [List.getElem?_set] at hj
  by_cases c : i = j
  · subst c
    rw [if_pos rfl, if_pos hi] at hj
    cases hj
    exact hq
  · rw [if_neg c] at hj
    have hj2 : j < l.length := (List.getElem?_eq_some_iff.mp hj).1
    exact rQ_keep (h.2.2.2 j q hj) (hf.2 _ (by omega) (by omega) (by omega)) (hf.2 _ (by omega) (by omega) (by omega)) (hf.2 _ (by omega) (by omega) (by omega))
theorem okX_set {a b : Int32} {l : List Qq} {i : Nat} {q : Qq} (ok : okX (a, b, l)) (hq : okQ q) : okX (a, b, l.set i q) := by
  refine ⟨by dsimp only; rw [List.length_set]; exact ok.1, fun z hz => ?_⟩
  rcases List.mem_or_eq_of_mem_set hz with h | h
  · exact ok.2 z h
  · rw [h]; exact hq
theorem okX_at {x : Xx} (ok : okX x) {i : Nat} {q : Qq} (h : x.2.2[i]? = some q) : okQ q := ok.2 q (List.mem_of_getElem? h)
theorem at_mid {α : Type} {a b : List α} {q : α} {i : Nat} (h : a.length = i) : (a ++ q :: b)[i]? = some q := by subst h; simp
theorem set_mid {α : Type} {a b : List α} {q q' : α} {i : Nat} (h : a.length = i) : (a ++ q :: b).set i q' = a ++ q' :: b := by subst h; simp
theorem has_no {S : cM} {u : Nat} {x : Xx} (h : rC S u x) {z : Int32} (hz : z < 0 ∨ nI x.2.2.length ≤ z) : fX1_has u S z = some (nI 0, S) := by
  unfold fX1_has
  rw [h.1]
  rcases hz with h0 | h0
  · rw [if_pos h0]
  · by_cases h1 : z < 0
    · rw [if_pos h1]
    · rw [if_neg h1, if_pos h0]
theorem has_yes {S : cM} {u : Nat} {x : Xx} (h : rC S u x) (ok : okX x) {j : Nat} (hj : j < x.2.2.length) : fX1_has u S (nI j) = some (nI 1, S) := by
  have := ok.1
  unfold fX1_has
  rw [h.1]
  simp (disch := omega) only [ile_t, ile_f, ilt_t, ilt_f, ieq_t, ieq_f, i0n_f, i0p_t, i0e_t, i0e_f, i0l_t, i0l_f, i0g_t, i0g_f, b2_if, ↓reduceIte]
theorem hasCar_no1 {S : cM} {u : Nat} {x : Xx} (h : rC S u x) {z w : Int32} (hz : z < 0 ∨ nI x.2.2.length ≤ z) : fX1_hasCar u S z w = some (nI 0, S) := by
  unfold fX1_hasCar
  rw [has_no h hz]
  rfl
theorem hasCar_no2 {S : cM} {u : Nat} {x : Xx} (h : rC S u x) (ok : okX x) {j : Nat} {q : Qq} (hj : x.2.2[j]? = some q) {w : Int32} (hw : w < 0 ∨ nI q.2.2.2.2.length ≤ w) : fX1_hasCar u S (nI j) w = some (nI 0, S) := by
  have hj2 := (List.getElem?_eq_some_iff.mp hj).1
  have := ok.1
  unfold fX1_hasCar
  rw [has_yes h ok hj2, bd_s]
  simp (disch := omega) only [ile_t, ile_f, ilt_t, ilt_f, ieq_t, ieq_f, i0n_f, i0p_t, i0e_t, i0e_f, i0l_t, i0l_f, i0g_t, i0g_f, b2_if, ↓reduceIte, bd_s, bv_s, sv_s, gi_n, gz_n, gb_0, gb_1, gb_b, gn_o, cl_n]
  rw [(h.2.2.2 j q hj).2.2.1]
  by_cases h1 : w < 0
  · rw [if_pos h1]
  · rw [if_neg h1, if_pos (hw.resolve_left h1)]
theorem hasCar_yes {S : cM} {u : Nat} {x : Xx} (h : rC S u x) (ok : okX x) {j i : Nat} {q : Qq} (hj : x.2.2[j]? = some q) (hi : i < q.2.2.2.2.length) : fX1_hasCar u S (nI j) (nI i) = some (nI 1, S) := by
  have hj2 := (List.getElem?_eq_some_iff.mp hj).1
  have := ok.1
  have := (okX_at ok hj).2.2.2.1
  unfold fX1_hasCar
  rw [has_yes h ok hj2, bd_s]
  simp (disch := omega) only [ile_t, ile_f, ilt_t, ilt_f, ieq_t, ieq_f, i0n_f, i0p_t, i0e_t, i0e_f, i0l_t, i0l_f, i0g_t, i0g_f, b2_if, ↓reduceIte, bd_s, bv_s, sv_s, gi_n, gz_n, gb_0, gb_1, gb_b, gn_o, cl_n]
  rw [(h.2.2.2 j q hj).2.2.1]
  simp (disch := omega) only [ile_t, ile_f, ilt_t, ilt_f, ieq_t, ieq_f, i0n_f, i0p_t, i0e_t, i0e_f, i0l_t, i0l_f, i0g_t, i0g_f, b2_if, ↓reduceIte]
/-! minutes -/
def mG : List Qq → Nat
  | [] => 0
  | q :: l => (if qG q = true then 1 else 0) + mG l
def gB : Nat → List Qq → Nat × List Qq
  | 0, l => (0, l)
  | n + 1, l => (mG l + (gB n (l.map qU)).1, (gB n (l.map qU)).2)
theorem c_goBy_in {u : Nat} (hu : 1 ≤ u ∧ u ≤ 3) {a b x1 x3 : Int32} {K : cM → Int32 → Int32 → Int32 → Option (Int32 × cM)} : ∀ (r d : List Qq) (n w : Nat) (S : cM), (d ++ r).length ≤ 5 → (∀ q ∈ r, okQ q) → rC S u (a, b, d ++ r) → r.length < n →
    ∃ S', fX1_goBy_12 u K n S x1 (nI w) x3 (nI d.length) = K S' x1 (nI (w + mG r)) (x3 + nI 1) ∧ rC S' u (a, b, d ++ r.map qU) ∧ frx S S' u := by
  intro r
  induction r with
  | nil =>
    intro d n w S hl hok h hn
    obtain ⟨n, rfl⟩ : ∃ m, n = m + 1 := ⟨n - 1, by omega⟩
    have h1 := h.1
    simp only [List.append_nil] at h h1 hl
    unfold fX1_goBy_12
    rw [h1]
    simp (disch := omega) only [ile_t, ile_f, ilt_t, ilt_f, ieq_t, ieq_f, i0n_f, i0p_t, i0e_t, i0e_f, i0l_t, i0l_f, i0g_t, i0g_f, b2_if, ↓reduceIte]
    exact ⟨S, by simp [mG], by simpa using h, frx.rf⟩
  | cons q r ih =>
    intro d n w S hl hok h hn
    obtain ⟨n, rfl⟩ : ∃ m, n = m + 1 := ⟨n - 1, by omega⟩
    have hl2 : d.length + (r.length + 1) ≤ 5 := by simpa using hl
    have hq := h.2.2.2 d.length q (at_mid rfl)
    obtain ⟨S1, e1, r1, f1⟩ := p_minuteGoes hq (hok q List.mem_cons_self) (by omega)
    have h1 : rC S1 u (a, b, (d ++ [qU q]) ++ r) := by
      have := rC_set hl h (i := d.length) (by simp) f1 r1 hu
      rw [set_mid rfl] at this
      simpa using this
    have hlen := h.1
    unfold fX1_goBy_12
    rw [hlen]
    simp only [List.length_append, List.length_cons]
    simp (disch := omega) only [ile_t, ile_f, ilt_t, ilt_f, ieq_t, ieq_f, i0n_f, i0p_t, i0e_t, i0e_f, i0l_t, i0l_f, i0g_t, i0g_f, b2_if, ↓reduceIte, bd_s, bv_s, sv_s, gi_n, gz_n, gb_0, gb_1, gb_b, gn_o, cl_n, e1]
    obtain ⟨S2, e2, r2, f2⟩ := ih (d ++ [qU q]) n (w + (if qG q = true then 1 else 0)) S1 (by simpa using hl) (fun z hz => hok z (List.mem_cons_of_mem _ hz)) h1 (by simpa using hn)
    refine ⟨S2, ?_, by simpa using r2, (frx.ofq f1 (by omega)).tr f2⟩
    unfold fX1_goBy_40
    have e3 : (nI (w + mG (q :: r))) = nI (w + (if qG q = true then 1 else 0) + mG r) := by simp only [mG, Nat.add_assoc]
    rw [e3, ← e2]
    simp only [List.length_append, List.length_cons, List.length_nil]
    cases qG q <;> simp only [if_true, nI_add, Nat.add_zero] <;> rfl
theorem c_goBy_out {u : Nat} (hu : 1 ≤ u ∧ u ≤ 3) {a b : Int32} {t : Nat} (ht : t ≤ 100) : ∀ (d n i w : Nat) (l : List Qq) (S : cM), l.length ≤ 5 → (∀ q ∈ l, okQ q) → rC S u (a, b, l) → t - i = d → i ≤ t → d < n →
    ∃ S', fX1_goBy_4 u n S (nI t) (nI w) (nI i) = some (nI (w + (gB d l).1), S') ∧ rC S' u (a + nI t, b + nI (w + (gB d l).1), (gB d l).2) ∧ frx S S' u := by
  intro d
  induction d with
  | zero =>
    intro n i w l S hl hok h hd hi hn
    obtain ⟨n, rfl⟩ : ∃ m, n = m + 1 := ⟨n - 1, by omega⟩
    unfold fX1_goBy_4
    simp (disch := omega) only [ile_t, ile_f, ilt_t, ilt_f, ieq_t, ieq_f, i0n_f, i0p_t, i0e_t, i0e_f, i0l_t, i0l_f, i0g_t, i0g_f, b2_if, ↓reduceIte, bd_s, bv_s, sv_s, gi_n, gz_n, gb_0, gb_1, gb_b, gn_o, cl_n]
    obtain ⟨h1, h2, h3, h4⟩ := h
    dsimp only at *
    refine ⟨cS (cS S u 2 (S.1 u 2 + nI t)) u 3 ((cS S u 2 (S.1 u 2 + nI t)).1 u 3 + nI w), rfl, ⟨?_, ?_, ?_, fun j q hj => ?_⟩, rfl, fun r hr => ?_⟩
    · rw [cS_s, upd_n (by omega), cS_s, upd_n (by omega)]; exact h1
    · rw [cS_s, upd_n (by omega), cS_s, upd_s, h2]
    · rw [cS_s, upd_s, cS_s, upd_n (by omega), h3]; rfl
    · have hj2 : j < l.length := (List.getElem?_eq_some_iff.mp hj).1
      exact rQ_keep (h4 j q hj) (by rw [cS_n (by omega), cS_n (by omega)]) (by rw [cS_n (by omega), cS_n (by omega)]) (by rw [cS_n (by omega), cS_n (by omega)])
    · have : r ≠ u := fun e => hr (Or.inl e)
      rw [cS_n this, cS_n this]
  | succ d ih =>
    intro n i w l S hl hok h hd hi hn
    obtain ⟨n, rfl⟩ : ∃ m, n = m + 1 := ⟨n - 1, by omega⟩
    unfold fX1_goBy_4
    simp (disch := omega) only [ile_t, ile_f, ilt_t, ilt_f, ieq_t, ieq_f, i0n_f, i0p_t, i0e_t, i0e_f, i0l_t, i0l_f, i0g_t, i0g_f, b2_if, ↓reduceIte]
    obtain ⟨S1, e1, r1, f1⟩ := c_goBy_in hu (K := fX1_goBy_4 u n) (x1 := nI t) (x3 := nI i) (a := a) (b := b) l [] lF w S (by simpa using hl) hok (by simpa using h) (by simp [lF]; omega)
    obtain ⟨S2, e2, r2, f2⟩ := ih n (i + 1) (w + mG l) (l.map qU) S1 (by simpa using hl) (fun z hz => by
      obtain ⟨y, hy, rfl⟩ := List.mem_map.mp hz
      exact okU (hok y hy)) (by simpa using r1) (by omega) (by omega) (by omega)
    rw [show nI 0 = nI ([] : List Qq).length from rfl, e1, nI_add, e2]
    refine ⟨S2, by simp only [gB, Nat.add_assoc], ?_, f1.tr f2⟩
    simp only [gB]
    rw [← Nat.add_assoc]
    exact r2
theorem gB_ok : ∀ (n : Nat) (l : List Qq), l.length ≤ 5 → (∀ q ∈ l, okQ q) → (gB n l).2.length = l.length ∧ ∀ q ∈ (gB n l).2, okQ q := by
  intro n
  induction n with
  | zero => intro l _ h2; exact ⟨rfl, h2⟩
  | succ n ih =>
    intro l h1 h2
    have := ih (l.map qU) (by simpa using h1) (fun z hz => by
      obtain ⟨y, hy, rfl⟩ := List.mem_map.mp hz
      exact okU (h2 y hy))
    exact ⟨by simp only [gB]; rw [this.1, List.length_map], by simp only [gB]; exact this.2⟩
def xB (n : Nat) (x : Xx) : Xx := (x.1 + nI n, x.2.1 + nI (gB n x.2.2).1, (gB n x.2.2).2)
theorem xB_ok {n : Nat} {x : Xx} (ok : okX x) : okX (xB n x) := by
  have := gB_ok n x.2.2 ok.1 ok.2
  exact ⟨by show (gB n x.2.2).2.length ≤ 5; rw [this.1]; exact ok.1, this.2⟩
theorem p_goBy {S : cM} {u : Nat} {x : Xx} (hu : 1 ≤ u ∧ u ≤ 3) (h : rC S u x) (ok : okX x) {t : Nat} (ht : t ≤ 100) : ∃ S', fX1_goBy u S (nI t) = some (nI (gB t x.2.2).1, S') ∧ rC S' u (xB t x) ∧ frx S S' u := by
  obtain ⟨a, b, l⟩ := x
  obtain ⟨S', e, r, f⟩ := c_goBy_out hu (a := a) (b := b) ht t lF 0 0 l S ok.1 ok.2 h rfl (by omega) (by simp [lF]; omega)
  refine ⟨S', ?_, ?_, f⟩
  · unfold fX1_goBy
    rw [e, Nat.zero_add]
  · rw [Nat.zero_add] at r
    exact r
