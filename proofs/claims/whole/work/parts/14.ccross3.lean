/-! ===== the change that pays most ===== -/
def bc (x : Xx) (a i : Nat) : List Qq → Nat → Option Nat × Int32 → Option Nat × Int32
  | [], _, b => b
  | q :: l, t, b => bc x a i l (t + 1) (if t = a then b else if qM q = true then (if xG x a i t ≤ b.2 then b else (some t, xG x a i t)) else b)
def gI : Option Nat → Int32
  | none => -4
  | some t => nI t
theorem c_bc_l {S : cM} {u : Nat} {x : Xx} (h : rC S u x) (ok : okX x) {a i : Nat} {q0 : Qq} (ha : x.2.2[a]? = some q0) (hi : i < q0.2.2.2.2.length) : ∀ (l : List Qq) (n t : Nat) (b : Option Nat × Int32), x.2.2.drop t = l → t ≤ 5 → l.length < n →
    fX1_bestChange_10 u n S (nI a) (nI i) (gI b.1) b.2 (nI t) = some (gI (bc x a i l t b).1, S) := by
  have hl := ok.1
  have ha2 := (List.getElem?_eq_some_iff.mp ha).1
  intro l
  induction l with
  | nil =>
    intro n t b e ht hn
    have := dropN e
    obtain ⟨n, rfl⟩ : ∃ m, n = m + 1 := ⟨n - 1, by omega⟩
    unfold fX1_bestChange_10
    rw [h.1]
    simp (disch := omega) only [ile_t, ile_f, ilt_t, ilt_f, ieq_t, ieq_f, i0n_f, i0p_t, i0e_t, i0e_f, i0l_t, i0l_f, i0g_t, i0g_f, b2_if, ↓reduceIte, bc]
  | cons q l ih =>
    intro n t b e ht hn
    obtain ⟨e1, e2, e3⟩ := dropC e
    simp only [List.length_cons] at hn
    obtain ⟨n, rfl⟩ : ∃ m, n = m + 1 := ⟨n - 1, by omega⟩
    have hq := h.2.2.2 t q e1
    have okq := okX_at ok e1
    unfold fX1_bestChange_10 fX1_bestChange_63
    rw [h.1, p_gain h ok ha e1 hi]
    simp only [bc]
    by_cases c : t = a
    · rw [if_pos c]
      simp (disch := omega) only [ile_t, ile_f, ilt_t, ilt_f, ieq_t, ieq_f, i0n_f, i0p_t, i0e_t, i0e_f, i0l_t, i0l_f, i0g_t, i0g_f, b2_if, ↓reduceIte, bd_s, bv_s, sv_s, gi_n, gz_n, gb_0, gb_1, gb_b, gn_o, cl_n, nI_add]
      exact ih n (t + 1) b e2 (by omega) (by omega)
    · rw [if_neg c]
      simp (disch := omega) only [ile_t, ile_f, ilt_t, ilt_f, ieq_t, ieq_f, i0n_f, i0p_t, i0e_t, i0e_f, i0l_t, i0l_f, i0g_t, i0g_f, b2_if, ↓reduceIte, bd_s, bv_s, sv_s, gi_n, gz_n, gb_0, gb_1, gb_b, gn_o, cl_n, p_mayBeChosen hq okq, nI_add]
      cases hM : qM q with
      | false => exact ih n (t + 1) b e2 (by omega) (by omega)
      | true =>
        simp only [if_true]
        by_cases c2 : xG x a i t ≤ b.2
        · rw [if_pos c2, if_pos c2]
          exact ih n (t + 1) b e2 (by omega) (by omega)
        · rw [if_neg c2, if_neg c2]
          exact ih n (t + 1) (some t, xG x a i t) e2 (by omega) (by omega)
theorem p_bc {S : cM} {u : Nat} {x : Xx} (h : rC S u x) (ok : okX x) {a i : Nat} {q0 : Qq} (ha : x.2.2[a]? = some q0) (hi : i < q0.2.2.2.2.length) (m : Int32) : fX1_bestChange u S (nI a) (nI i) m = some (gI (bc x a i x.2.2 0 (none, m)).1, S) := by
  unfold fX1_bestChange
  exact c_bc_l h ok ha hi x.2.2 lF 0 (none, m) rfl (by omega) (by have := ok.1; simp [lF]; omega)
theorem bc_val {x : Xx} {a i : Nat} : ∀ (l : List Qq) (t : Nat) (b : Option Nat × Int32), x.2.2.drop t = l → (∀ z, b.1 = some z → b.2 = xG x a i z ∧ z ≠ a ∧ ∃ q, x.2.2[z]? = some q ∧ qM q = true) →
    ∀ z, (bc x a i l t b).1 = some z → (bc x a i l t b).2 = xG x a i z ∧ z ≠ a ∧ ∃ q, x.2.2[z]? = some q ∧ qM q = true := by
  intro l
  induction l with
  | nil => intro t b _ hb; exact hb
  | cons q l ih =>
    intro t b e hb
    obtain ⟨e1, e2, e3⟩ := dropC e
    simp only [bc]
    apply ih _ _ e2
    intro z
    by_cases c : t = a
    · rw [if_pos c]; exact hb z
    · rw [if_neg c]
      cases hM : qM q with
      | false => exact hb z
      | true =>
        simp only [if_true]
        split
        · exact hb z
        · intro hz
          cases hz
          exact ⟨rfl, c, q, e1, hM⟩
theorem bc_keep {x : Xx} {a i : Nat} : ∀ (l : List Qq) (t : Nat) (b : Option Nat × Int32), (bc x a i l t b).1 = none → (bc x a i l t b).2 = b.2 ∧ b.1 = none := by
  intro l
  induction l with
  | nil => intro t b h; exact ⟨rfl, h⟩
  | cons q l ih =>
    intro t b h
    simp only [bc] at h ⊢
    have := ih _ _ h
    by_cases c : t = a
    · rw [if_pos c] at this ⊢; exact this
    · rw [if_neg c] at this ⊢
      cases hM : qM q with
      | false => rw [hM] at this; exact this
      | true =>
        rw [hM] at this
        simp only [if_true] at this ⊢
        split at this
        · rename_i c2; rw [if_pos c2]; exact this
        · cases this.2
def ggS (a i : Nat) (f : Int32) (r : Option Nat × Int32) : Int32 × Int32 := match r.1 with
  | none => (f, r.2)
  | some t => (nI (100 * a + 10 * i + t), r.2)
def ggP (x : Xx) (a : Nat) : Nat → Nat → Int32 × Int32 → Int32 × Int32
  | 0, _, b => b
  | d + 1, i, b => ggP x a d (i + 1) (ggS a i b.1 (bc x a i x.2.2 0 (none, b.2)))
def ggL (x : Xx) : List Qq → Nat → Int32 × Int32 → Int32 × Int32
  | [], _, b => b
  | q :: l, a, b => ggL x l (a + 1) (ggP x a (q.2.2.2.2.length - 1) 1 b)
def xP (x : Xx) (c : Int32) : Int32 := (ggL x x.2.2 0 (-4, c)).1
theorem c_gg_in {S : cM} {u : Nat} {x : Xx} (h : rC S u x) (ok : okX x) {K : cM → Int32 → Int32 → Int32 → Option (Int32 × cM)} {a : Nat} {q0 : Qq} (ha : x.2.2[a]? = some q0) : ∀ (d n i : Nat) (b : Int32 × Int32), q0.2.2.2.2.length - i = d → i ≤ 9 → d < n →
    fX1_greatestGain_20 u K n S b.1 b.2 (nI a) (nI i) = K S (ggP x a d i b).1 (ggP x a d i b).2 (nI (a + 1)) := by
  have hl := ok.1
  have ha2 := (List.getElem?_eq_some_iff.mp ha).1
  have hlen := (okX_at ok ha).2.2.2.1
  intro d
  induction d with
  | zero =>
    intro n i b hd hi hn
    obtain ⟨n, rfl⟩ : ∃ m, n = m + 1 := ⟨n - 1, by omega⟩
    unfold fX1_greatestGain_20
    simp (disch := omega) only [bd_s, bv_s, sv_s, gi_n, gz_n, gb_0, gb_1, gb_b, gn_o, cl_n]
    rw [(h.2.2.2 a q0 ha).2.2.1]
    simp (disch := omega) only [ile_t, ile_f, ilt_t, ilt_f, ieq_t, ieq_f, i0n_f, i0p_t, i0e_t, i0e_f, i0l_t, i0l_f, i0g_t, i0g_f, b2_if, ↓reduceIte, nI_add, ggP]
  | succ d ih =>
    intro n i b hd hi hn
    obtain ⟨n, rfl⟩ : ∃ m, n = m + 1 := ⟨n - 1, by omega⟩
    unfold fX1_greatestGain_20 fX1_greatestGain_77
    simp (disch := omega) only [bd_s, bv_s, sv_s, gi_n, gz_n, gb_0, gb_1, gb_b, gn_o, cl_n]
    rw [(h.2.2.2 a q0 ha).2.2.1, p_bc h ok ha (by omega), bd_s]
    simp (disch := omega) only [ile_t, ile_f, ilt_t, ilt_f, ieq_t, ieq_f, i0n_f, i0p_t, i0e_t, i0e_f, i0l_t, i0l_f, i0g_t, i0g_f, b2_if, ↓reduceIte, nI_add]
    simp only [ggP]
    cases hb : (bc x a i x.2.2 0 (none, b.2)).1 with
    | none =>
      have hk := bc_keep _ _ _ hb
      rw [if_pos (show gI none < 0 by decide), ih n (i + 1) b (by omega) (by omega) (by omega)]
      simp only [ggS, hb, hk.1]
    | some t =>
      obtain ⟨hv, -, q, hq, -⟩ := bc_val x.2.2 0 (none, b.2) rfl (fun z hz => by cases hz) t hb
      have ht := (List.getElem?_eq_some_iff.mp hq).1
      rw [if_neg (show ¬ gI (some t) < 0 from nI_pos (by omega))]
      simp only [gI]
      rw [p_gain h ok ha hq (by omega), bd_s]
      simp (disch := omega) only [pk_mul, nI_add]
      rw [ih n (i + 1) (nI (100 * a + 10 * i + t), xG x a i t) (by omega) (by omega) (by omega)]
      simp only [ggS, hb, hv]
theorem c_gg_out {S : cM} {u : Nat} {x : Xx} (h : rC S u x) (ok : okX x) : ∀ (l : List Qq) (n a : Nat) (b : Int32 × Int32), x.2.2.drop a = l → a ≤ 5 → l.length < n → fX1_greatestGain_8 u n S b.1 b.2 (nI a) = some ((ggL x l a b).1, S) := by
  have hl := ok.1
  intro l
  induction l with
  | nil =>
    intro n a b e ha hn
    have := dropN e
    obtain ⟨n, rfl⟩ : ∃ m, n = m + 1 := ⟨n - 1, by omega⟩
    unfold fX1_greatestGain_8
    rw [h.1]
    simp (disch := omega) only [ile_t, ile_f, ilt_t, ilt_f, ieq_t, ieq_f, i0n_f, i0p_t, i0e_t, i0e_f, i0l_t, i0l_f, i0g_t, i0g_f, b2_if, ↓reduceIte, ggL]
  | cons q l ih =>
    intro n a b e ha hn
    obtain ⟨e1, e2, e3⟩ := dropC e
    have hlen := (okX_at ok e1).2.2.2.1
    simp only [List.length_cons] at hn
    obtain ⟨n, rfl⟩ : ∃ m, n = m + 1 := ⟨n - 1, by omega⟩
    unfold fX1_greatestGain_8
    rw [h.1]
    simp (disch := omega) only [ile_t, ile_f, ilt_t, ilt_f, ieq_t, ieq_f, i0n_f, i0p_t, i0e_t, i0e_f, i0l_t, i0l_f, i0g_t, i0g_f, b2_if, ↓reduceIte]
    rw [c_gg_in h ok e1 (q.2.2.2.2.length - 1) lF 1 b rfl (by omega) (by simp [lF]; omega), ih n (a + 1) _ e2 (by omega) (by omega)]
    simp only [ggL]
theorem p_gg {S : cM} {u : Nat} {x : Xx} (h : rC S u x) (ok : okX x) (c : Int32) : fX1_greatestGain u S c = some (xP x c, S) := by
  unfold fX1_greatestGain
  exact c_gg_out h ok x.2.2 lF 0 (-4, c) rfl (by omega) (by have := ok.1; simp [lF]; omega)
/-- what is found is none, or a change that can be made -/
def cOk (x : Xx) (f : Int32) : Prop := f = -4 ∨ ∃ a i t q q', f = nI (100 * a + 10 * i + t) ∧ x.2.2[a]? = some q ∧ x.2.2[t]? = some q' ∧ 1 ≤ i ∧ i < q.2.2.2.2.length ∧ a ≠ t ∧ qM q' = true
theorem ggP_ok {x : Xx} {a : Nat} {q0 : Qq} (ha : x.2.2[a]? = some q0) : ∀ (d i : Nat) (b : Int32 × Int32), q0.2.2.2.2.length - i = d → 1 ≤ i → cOk x b.1 → cOk x (ggP x a d i b).1 := by
  intro d
  induction d with
  | zero => intro i b _ _ hb; exact hb
  | succ d ih =>
    intro i b hd hi hb
    simp only [ggP]
    apply ih _ _ (by omega) (by omega)
    unfold ggS
    cases hz : (bc x a i x.2.2 0 (none, b.2)).1 with
    | none => exact hb
    | some t =>
      obtain ⟨-, hne, q, hq, hM⟩ := bc_val x.2.2 0 (none, b.2) rfl (fun z hz => by cases hz) t hz
      exact Or.inr ⟨a, i, t, q0, q, rfl, ha, hq, hi, by omega, fun e => hne e.symm, hM⟩
theorem ggL_ok {x : Xx} : ∀ (l : List Qq) (a : Nat) (b : Int32 × Int32), x.2.2.drop a = l → cOk x b.1 → cOk x (ggL x l a b).1 := by
  intro l
  induction l with
  | nil => intro a b _ hb; exact hb
  | cons q l ih =>
    intro a b e hb
    obtain ⟨e1, e2, e3⟩ := dropC e
    simp only [ggL]
    exact ih _ _ e2 (ggP_ok e1 _ 1 b rfl (by omega) hb)
theorem xP_ok {x : Xx} (c : Int32) : cOk x (xP x c) := ggL_ok x.2.2 0 (-4, c) rfl (Or.inl rfl)
/-! ===== a crossing becomes like another one; a lane more ===== -/
theorem c_like_l {u0 u1 : Nat} (h0 : 1 ≤ u0 ∧ u0 ≤ 3) (h1 : 1 ≤ u1 ∧ u1 ≤ 3) (hne : u0 ≠ u1) {x : Xx} (ok : okX x) : ∀ (d n i : Nat) (S : cM), rC S u1 x → S.1 u0 1 = nI x.2.2.length → S.1 u0 2 = x.1 → S.1 u0 3 = x.2.1 → (∀ j q, j < i → x.2.2[j]? = some q → rQ S (5 * u0 + 2 + j) q) → x.2.2.length - i = d → i ≤ 5 → d < n →
    ∃ S', fX1_becomeLike_26 u0 u1 n S (nI i) = some S' ∧ rC S' u0 x ∧ frx S S' u0 := by
  have hl := ok.1
  intro d
  induction d with
  | zero =>
    intro n i S hC ha hb hc hj hd hi hn
    obtain ⟨n, rfl⟩ : ∃ m, n = m + 1 := ⟨n - 1, by omega⟩
    unfold fX1_becomeLike_26
    rw [ha]
    simp (disch := omega) only [ile_t, ile_f, ilt_t, ilt_f, ieq_t, ieq_f, i0n_f, i0p_t, i0e_t, i0e_f, i0l_t, i0l_f, i0g_t, i0g_f, b2_if, ↓reduceIte]
    exact ⟨S, rfl, ⟨ha, hb, hc, fun j q hq => hj j q (by have := (List.getElem?_eq_some_iff.mp hq).1; omega) hq⟩, frx.rf⟩
  | succ d ih =>
    intro n i S hC ha hb hc hj hd hi hn
    obtain ⟨n, rfl⟩ : ∃ m, n = m + 1 := ⟨n - 1, by omega⟩
    have hil : i < x.2.2.length := by omega
    have hq : x.2.2[i]? = some x.2.2[i] := List.getElem?_eq_getElem hil
    obtain ⟨S1, e1, r1, f1⟩ := p_copyQ (u0 := 5 * u0 + 2 + i) (hC.2.2.2 i _ hq) (okX_at ok hq) (by omega) (by omega) (by omega)
    have hk : S1.1 u0 = S.1 u0 := f1.2 u0 (by omega) (by omega) (by omega)
    have fx := frx.ofq f1 (show i < 5 by omega)
    obtain ⟨S2, e2, r2, f2⟩ := ih n (i + 1) S1 (rC_keep hl hC fx h1 h0 (Ne.symm hne)) (by rw [hk]; exact ha) (by rw [hk]; exact hb) (by rw [hk]; exact hc) (fun j q hj1 hj2 => by
      by_cases c : j = i
      · subst c
        rw [hq] at hj2
        cases hj2
        exact r1
      · have := (List.getElem?_eq_some_iff.mp hj2).1
        exact rQ_keep (hj j q (by omega) hj2) (f1.2 _ (by omega) (by omega) (by omega)) (f1.2 _ (by omega) (by omega) (by omega)) (f1.2 _ (by omega) (by omega) (by omega))) (by omega) (by omega) (by omega)
    refine ⟨S2, ?_, r2, fx.tr f2⟩
    unfold fX1_becomeLike_26
    rw [ha]
    simp (disch := omega) only [ile_t, ile_f, ilt_t, ilt_f, ieq_t, ieq_f, i0n_f, i0p_t, i0e_t, i0e_f, i0l_t, i0l_f, i0g_t, i0g_f, b2_if, ↓reduceIte, bd_s, bv_s, sv_s, gi_n, gz_n, gb_0, gb_1, gb_b, gn_o, cl_n, e1, nI_add]
    exact e2
theorem p_like {S : cM} {u0 u1 : Nat} (h0 : 1 ≤ u0 ∧ u0 ≤ 3) (h1 : 1 ≤ u1 ∧ u1 ≤ 3) (hne : u0 ≠ u1) {x : Xx} (ok : okX x) (h : rC S u1 x) : ∃ S', fX1_becomeLike u0 u1 S = some S' ∧ rC S' u0 x ∧ frx S S' u0 := by
  have hl := ok.1
  unfold fX1_becomeLike
  simp only [sv_s]
  have f0 : frx S (cS (cS (cS S u0 1 (S.1 u1 1)) u0 2 ((cS S u0 1 (S.1 u1 1)).1 u1 2)) u0 3 ((cS (cS S u0 1 (S.1 u1 1)) u0 2 ((cS S u0 1 (S.1 u1 1)).1 u1 2)).1 u1 3)) u0 := ⟨rfl, fun r hr => by
    have : r ≠ u0 := fun e => hr (Or.inl e)
    rw [cS_n this, cS_n this, cS_n this]⟩
  obtain ⟨S', e, r, f⟩ := c_like_l h0 h1 hne ok x.2.2.length lF 0 _ (rC_keep hl h f0 h1 h0 (Ne.symm hne)) (by
    rw [cS_s, upd_n (by omega), cS_s, upd_n (by omega), cS_s, upd_s]; exact h.1) (by
    rw [cS_s, upd_n (by omega), cS_s, upd_s, cS_n (Ne.symm hne)]; exact h.2.1) (by
    rw [cS_s, upd_s, cS_n (Ne.symm hne), cS_n (Ne.symm hne)]; exact h.2.2.1) (fun j q hj => by omega) rfl (by omega) (by simp [lF]; omega)
  exact ⟨S', e, r, f0.tr f⟩
def xL (x : Xx) (kd fg : Nat) : Xx := (x.1, x.2.1, x.2.2 ++ [(kd, fg, 0, 0, [])])
theorem p_addLane_no {S : cM} {u : Nat} {x : Xx} (h : rC S u x) (hl : x.2.2.length = 5) (a b : Int32) : fX1_addLane u S a b = some (nI 0, S) := by
  unfold fX1_addLane
  rw [h.1, hl]
  rfl
theorem p_addLane {S : cM} {u : Nat} {x : Xx} (hu : 1 ≤ u ∧ u ≤ 3) (h : rC S u x) (hl : x.2.2.length < 5) {kd fg : Nat} (hk : kd ≤ 7) : ∃ S', fX1_addLane u S (nI kd) (nI fg) = some (nI 1, S') ∧ rC S' u (xL x kd fg) ∧ frx S S' u := by
  obtain ⟨S1, e1, r1, f1⟩ := p_begin (S := S) (p := 5 * u + 2 + x.2.2.length) (kd := kd) (fg := fg) (by omega) hk
  have hk : S1.1 u = S.1 u := f1.2 u (by omega) (by omega) (by omega)
  refine ⟨cS S1 u 1 (nI (x.2.2.length + 1)), ?_, ⟨?_, ?_, ?_, fun j q hj => ?_⟩, ?_⟩
  · unfold fX1_addLane
    rw [h.1]
    simp (disch := omega) only [ile_t, ile_f, ilt_t, ilt_f, ieq_t, ieq_f, i0n_f, i0p_t, i0e_t, i0e_f, i0l_t, i0l_f, i0g_t, i0g_f, b2_if, ↓reduceIte, bd_s, bv_s, sv_s, gi_n, gz_n, gb_0, gb_1, gb_b, gn_o, cl_n, e1]
    rw [hk, h.1, nI_add]
  · rw [cS_s, upd_s]; simp [xL]
  · rw [cS_s, upd_n (by omega), hk]; exact h.2.1
  · rw [cS_s, upd_n (by omega), hk]; exact h.2.2.1
  · simp only [xL] at hj
    by_cases c : j < x.2.2.length
    · rw [List.getElem?_append_left c] at hj
      exact rQ_keep (h.2.2.2 j q hj) (by rw [cS_n (by omega)]; exact f1.2 _ (by omega) (by omega) (by omega)) (by rw [cS_n (by omega)]; exact f1.2 _ (by omega) (by omega) (by omega)) (by rw [cS_n (by omega)]; exact f1.2 _ (by omega) (by omega) (by omega))
    · have hj2 := (List.getElem?_eq_some_iff.mp hj).1
      simp at hj2
      have hj3 : j = x.2.2.length := by omega
      subst hj3
      rw [List.getElem?_append_right (Nat.le_refl _)] at hj
      simp at hj
      subst hj
      exact rQ_keep r1 (by rw [cS_n (by omega)]) (by rw [cS_n (by omega)]) (by rw [cS_n (by omega)])
  · exact (frx.ofq f1 (by omega)).tr ⟨rfl, fun r hr => cS_n (fun e => hr (Or.inl e))⟩
theorem xL_ok {x : Xx} (ok : okX x) (hl : x.2.2.length < 5) {kd fg : Nat} (hk : kd ≤ 7) (hf : fg ≤ 9) : okX (xL x kd fg) := by
  refine ⟨by simp [xL]; omega, fun q hq => ?_⟩
  simp only [xL, List.mem_append, List.mem_singleton] at hq
  rcases hq with h | h
  · exact ok.2 q h
  · rw [h]; exact okB hk hf
