/-! ===== one line: the cars behind the first ones ===== -/
def c1 (r : Nat) (S S' : cM) : Prop := S'.2 = S.2 ∧ ∀ q, q ≠ r → S'.1 q = S.1 q
def m1 (r : Nat) (S S' : mM) : Prop := S'.2 = S.2 ∧ ∀ q, q ≠ r → S'.1 q = S.1 q
theorem c1.rf {r : Nat} {S : cM} : c1 r S S := ⟨rfl, fun _ _ => rfl⟩
theorem m1.rf {r : Nat} {S : mM} : m1 r S S := ⟨rfl, fun _ _ => rfl⟩
theorem c1.tr {r : Nat} {S S1 S2 : cM} (h1 : c1 r S S1) (h2 : c1 r S1 S2) : c1 r S S2 := ⟨h2.1.trans h1.1, fun q hq => (h2.2 q hq).trans (h1.2 q hq)⟩
theorem m1.tr {r : Nat} {S S1 S2 : mM} (h1 : m1 r S S1) (h2 : m1 r S1 S2) : m1 r S S2 := ⟨h2.1.trans h1.1, fun q hq => (h2.2 q hq).trans (h1.2 q hq)⟩
theorem c1.set {r k : Nat} {v : Int32} {S : cM} : c1 r S (cS S r k v) := ⟨rfl, fun _ hq => cS_n hq⟩
theorem m1.set {r k : Nat} {v : Int32} {S : mM} : m1 r S (mS S r k v) := ⟨rfl, fun _ hq => mS_n hq⟩
theorem c1.rC {r u : Nat} {S S' : cM} {x : Xx} (h : c1 r S S') (hr : 69 ≤ r) (hu : u = 1 ∨ u = 2) (hl : x.2.2.length ≤ 5) (hC : rC S u x) : rC S' u x := rC_rows hl hC (fun q hq => h.2 q (fun e => by unfold inX at hq; omega))
theorem m1.rM {r : Nat} {S S' : mM} {x : Xx} (h : m1 r S S') (hr : 8 ≤ r) (hM : rM S x) : rM S' x := rM_core hM (fun k _ => by rw [h.2 0 (by omega)]) (fun q h1 h2 => h.2 q (by omega))
theorem c1.kp {r : Nat} {S S' : cM} (h : c1 r S S') (hr : 69 ≤ r) : cKp S S' := ⟨h.1, fun q hq => h.2 q (fun e => by unfold inX at hq; omega)⟩
theorem m1.kp {r : Nat} {S S' : mM} (h : m1 r S S') (hr : 10 ≤ r ∧ r < 20) : mkp S S' := ⟨by rw [h.1], h.2 9 (by omega), by rw [h.2 0 (by omega)], fun q hq => h.2 q (by omega)⟩
def ln : List Qq → List Nat
  | [] => []
  | q :: l => q.2.2.2.2.drop 1 ++ ln l
def hL (f : Nat → Int32) (L : List Nat) : Prop := ∀ k s, L[k]? = some s → f k = nI s
theorem hL_push {f : Nat → Int32} {L : List Nat} {s : Nat} (h : hL f L) : hL (upd f L.length (nI s)) (L ++ [s]) := by
  intro k z hk
  rcases Nat.lt_or_ge k L.length with hlt | hge
  · rw [List.getElem?_append_left hlt] at hk
    rw [upd_n (by omega)]; exact h k z hk
  · have hk2 : k = L.length := by
      have := (List.getElem?_eq_some_iff.mp hk).1
      simp at this
      omega
    subst hk2
    rw [List.getElem?_append_right (by omega), Nat.sub_self] at hk
    simp only [List.getElem?_cons_zero, Option.some.injEq] at hk
    subst hk
    exact upd_s
theorem hL_nil {f : Nat → Int32} : hL f [] := fun k s h => by simp at h
theorem ln_lt {l : List Qq} (h : ∀ q ∈ l, okQ q) : ∀ s ∈ ln l, s < 4 := by
  induction l with
  | nil => intro s hs; cases hs
  | cons q l ih =>
    intro s hs
    rcases List.mem_append.mp hs with h1 | h1
    · exact (h q List.mem_cons_self).2.2.2.2.1 s (List.mem_of_mem_drop h1)
    · exact ih (fun z hz => h z (List.mem_cons_of_mem _ hz)) s h1
theorem ln_len {l : List Qq} (h : ∀ q ∈ l, okQ q) : (ln l).length ≤ 8 * l.length := by
  induction l with
  | nil => exact Nat.le_refl _
  | cons q l ih =>
    have h1 := (h q List.mem_cons_self).2.2.2.1
    have h2 := ih (fun z hz => h z (List.mem_cons_of_mem _ hz))
    simp only [ln, List.length_append, List.length_drop, List.length_cons]
    omega
theorem c_line_in {u p : Nat} (hu : u = 1 ∨ u = 2) (hp : p ≤ 21) {q : Qq} {K : cM → Int32 → Int32 → Option (Int32 × cM)} {x2 : Int32} : ∀ (l : List Nat) (n i : Nat) (L : List Nat) (S : cM), q.2.2.2.2.drop i = l → i ≤ 8 → q.2.2.2.2.length ≤ 8 → l.length < n → L.length + l.length ≤ 40 → rQ S p q → hL (S.1 70) L →
    ∃ S', fX5_gatherLine_28 K n S (nI L.length) x2 p (nI i) = K S' (nI (L ++ l).length) (x2 + nI 1) ∧ c1 70 S S' ∧ hL (S'.1 70) (L ++ l) := by
  intro l
  induction l with
  | nil =>
    intro n i L S e hi h8 hn hb hq hl
    have := dropN e
    obtain ⟨n, rfl⟩ : ∃ z, n = z + 1 := ⟨n - 1, by omega⟩
    unfold fX5_gatherLine_28
    rw [hq.2.2.1, ile_t (by omega) (by omega), List.append_nil]
    exact ⟨S, rfl, c1.rf, hl⟩
  | cons s l ih =>
    intro n i L S e hi h8 hn hb hq hl
    obtain ⟨e1, e2, e3⟩ := dropC e
    simp only [List.length_cons] at hn hb
    obtain ⟨n, rfl⟩ : ∃ z, n = z + 1 := ⟨n - 1, by omega⟩
    have hq2 : rQ (cS S 70 L.length (nI s)) p q := rQ_keep hq (cS_n (by omega)) (cS_n (by omega)) (cS_n (by omega))
    obtain ⟨S', k1, k2, k3⟩ := ih n (i + 1) (L ++ [s]) (cS S 70 L.length (nI s)) e2 (by omega) h8 (by omega) (by simp; omega) hq2 (by rw [cS_s]; exact hL_push hl)
    unfold fX5_gatherLine_28
    rw [hq.2.2.1, ile_f (by omega) (by omega), gi_n (show i < 8 by omega) (by omega), gi_n (show L.length < 40 by omega) (by omega), cl_n (by omega), cl_n (by omega), hq.2.2.2.2.2.1 i s e1, sv_s, nI_add, nI_add]
    rw [List.length_append, List.length_cons, List.length_nil] at k1
    rw [List.append_assoc] at k1 k3
    exact ⟨S', k1, c1.set.tr k2, k3⟩
theorem c_line_l {u : Nat} (hu : u = 1 ∨ u = 2) {x : Xx} (ok : okX x) : ∀ (r : List Qq) (n a : Nat) (L : List Nat) (S : cM), x.2.2.drop a = r → a ≤ 5 → r.length < n → L.length + (ln r).length ≤ 40 → S.2.1 = u → rC S u x → hL (S.1 70) L →
    ∃ S', fX5_gatherLine_4 n S (nI L.length) (nI a) = some (nI (L ++ ln r).length, S') ∧ c1 70 S S' ∧ hL (S'.1 70) (L ++ ln r) := by
  have hl := ok.1
  intro r
  induction r with
  | nil =>
    intro n a L S e ha hn hb hs hC hl'
    have := dropN e
    obtain ⟨n, rfl⟩ : ∃ z, n = z + 1 := ⟨n - 1, by omega⟩
    unfold fX5_gatherLine_4
    rw [hs, gN hu, hC.1, ile_t (by omega) (by omega)]
    simp only [ln, List.append_nil]
    exact ⟨S, rfl, c1.rf, hl'⟩
  | cons q r ih =>
    intro n a L S e ha hn hb hs hC hl'
    obtain ⟨e1, e2, e3⟩ := dropC e
    simp only [List.length_cons] at hn
    simp only [ln, List.length_append] at hb
    obtain ⟨n, rfl⟩ : ∃ z, n = z + 1 := ⟨n - 1, by omega⟩
    have hF : 10 < lF := by simp [lF]
    have h8 := (okX_at ok e1).2.2.2.1
    unfold fX5_gatherLine_4
    rw [hs, gN hu, gN hu, hC.1, ile_f (by omega) (by omega), g5 (by omega), cl_n (by omega)]
    generalize lF = F at hF ⊢
    obtain ⟨S1, k1, k2, k3⟩ := c_line_in hu (p := 5 * u + 2 + a) (by omega) (q := q) (K := fX5_gatherLine_4 n) (x2 := nI a) (q.2.2.2.2.drop 1) F 1 L S rfl (by omega) h8 (by rw [List.length_drop]; omega) (by omega) (hC.2.2.2 a q e1) hl'
    obtain ⟨S2, j1, j2, j3⟩ := ih n (a + 1) (L ++ q.2.2.2.2.drop 1) S1 e2 (by omega) (by omega) (by rw [List.length_append]; omega) (by rw [k2.1]; exact hs) (k2.rC (by omega) hu hl hC) k3
    rw [k1, nI_add, j1]
    refine ⟨S2, ?_, k2.tr j2, ?_⟩
    · simp only [ln, List.append_assoc]
    · simp only [ln, ← List.append_assoc]; exact j3
theorem p_line {S : cM} {x : Xx} {u : Nat} (hu : u = 1 ∨ u = 2) (hs : S.2.1 = u) (hC : rC S u x) (ok : okX x) : ∃ S', fX5_gatherLine S = some (nI (ln x.2.2).length, S') ∧ c1 70 S S' ∧ hL (S'.1 70) (ln x.2.2) := by
  have hl := ok.1
  have h2 := ln_len ok.2
  have hF : 10 < lF := by simp [lF]
  unfold fX5_gatherLine
  generalize lF = F at hF ⊢
  exact c_line_l hu ok x.2.2 F 0 [] S rfl (by omega) (by omega) (by simp; omega) hs hC hL_nil
/-- the reference's line -/
def m29 (S S' : mM) : Prop := S'.2 = S.2 ∧ (∀ k, k ≠ 29 → S'.1 0 k = S.1 0 k) ∧ ∀ q, q ≠ 0 → q ≠ 16 → S'.1 q = S.1 q
theorem m29.rf {S : mM} : m29 S S := ⟨rfl, fun _ _ => rfl, fun _ _ _ => rfl⟩
theorem m29.tr {S S1 S2 : mM} (h1 : m29 S S1) (h2 : m29 S1 S2) : m29 S S2 := ⟨h2.1.trans h1.1, fun k hk => (h2.2.1 k hk).trans (h1.2.1 k hk), fun q a b => (h2.2.2 q a b).trans (h1.2.2 q a b)⟩
theorem m29.rM {S S' : mM} {x : Xx} (h : m29 S S') (hM : rM S x) : rM S' x := rM_core hM (fun k hk => h.2.1 k (by omega)) (fun q h1 h2 => h.2.2 q (by omega) (by omega))
theorem m29.kp {S S' : mM} (h : m29 S S') : mkp S S' := ⟨by rw [h.1], h.2.2 9 (by omega) (by omega), h.2.1 13 (by omega), fun q hq => h.2.2 q (by omega) (by omega)⟩
theorem m_line_in {a : Nat} (ha : a < 5) {q : Qq} {K : mM → Int32 → Option mM} : ∀ (l : List Nat) (n i : Nat) (L : List Nat) (S : mM), q.2.2.2.2.drop i = l → i ≤ 8 → q.2.2.2.2.length ≤ 8 → l.length < n → L.length + l.length ≤ 40 → rmQ S a q → hL (S.1 16) L → S.1 0 29 = nI L.length →
    ∃ S', fX6_findLine_17 K n S (nI a) (nI i) = K S' (nI (a + 1)) ∧ m29 S S' ∧ hL (S'.1 16) (L ++ l) ∧ S'.1 0 29 = nI (L ++ l).length := by
  intro l
  induction l with
  | nil =>
    intro n i L S e hi h8 hn hb hq hl h29
    have := dropN e
    obtain ⟨n, rfl⟩ : ∃ z, n = z + 1 := ⟨n - 1, by omega⟩
    unfold fX6_findLine_17
    rw [g5 ha, cl_n (by omega), hq.2.2.1, ile_t (by omega) (by omega), List.append_nil, nI_add]
    exact ⟨S, rfl, m29.rf, hl, h29⟩
  | cons s l ih =>
    intro n i L S e hi h8 hn hb hq hl h29
    obtain ⟨e1, e2, e3⟩ := dropC e
    simp only [List.length_cons] at hn hb
    obtain ⟨n, rfl⟩ : ∃ z, n = z + 1 := ⟨n - 1, by omega⟩
    have st : m29 S (mS (mS S 16 L.length (nI s)) 0 29 (nI (L.length + 1))) := ⟨rfl, fun k hk => by rw [mS_s, upd_n hk, mS_n (by omega)], fun q h1 h2 => by rw [mS_n h1, mS_n h2]⟩
    have hq2 : rmQ (mS (mS S 16 L.length (nI s)) 0 29 (nI (L.length + 1))) a q := rmQ_keep hq (fun r r1 r2 => by rw [st.2.2 r (by omega) (by omega)]) (fun k hk => by rw [st.2.2 6 (by omega) (by omega)])
    obtain ⟨S', k1, k2, k3, k4⟩ := ih n (i + 1) (L ++ [s]) _ e2 (by omega) h8 (by omega) (by simp; omega) hq2 (by rw [mS_n (by omega), mS_s]; exact hL_push hl) (by rw [mS_s, upd_s]; simp)
    unfold fX6_findLine_17
    rw [g5 ha, cl_n (by omega), hq.2.2.1, ile_f (by omega) (by omega), pk_mul, nI_add, gi_n (show 8 * a + i < 40 by omega) (by omega), h29, gi_n (show L.length < 40 by omega) (by omega), cl_n (by omega), cl_n (by omega), hq.2.2.2.2.2 i s e1, sv_s, mS_n (by omega), h29, sv_s, nI_add, nI_add]
    rw [List.append_assoc] at k3 k4
    exact ⟨S', k1, st.tr k2, k3, k4⟩
theorem m_line_l {x : Xx} (ok : okX x) : ∀ (r : List Qq) (n a : Nat) (L : List Nat) (S : mM), x.2.2.drop a = r → a ≤ 5 → r.length < n → L.length + (ln r).length ≤ 40 → rM S x → hL (S.1 16) L → S.1 0 29 = nI L.length →
    ∃ S', fX6_findLine_7 n S (nI a) = some S' ∧ m29 S S' ∧ hL (S'.1 16) (L ++ ln r) ∧ S'.1 0 29 = nI (L ++ ln r).length := by
  have hl := ok.1
  intro r
  induction r with
  | nil =>
    intro n a L S e ha hn hb hM hl' h29
    have := dropN e
    obtain ⟨n, rfl⟩ : ∃ z, n = z + 1 := ⟨n - 1, by omega⟩
    unfold fX6_findLine_7
    rw [hM.1, ile_t (by omega) (by omega)]
    simp only [ln, List.append_nil]
    exact ⟨S, rfl, m29.rf, hl', h29⟩
  | cons q r ih =>
    intro n a L S e ha hn hb hM hl' h29
    obtain ⟨e1, e2, e3⟩ := dropC e
    simp only [List.length_cons] at hn
    simp only [ln, List.length_append] at hb
    obtain ⟨n, rfl⟩ : ∃ z, n = z + 1 := ⟨n - 1, by omega⟩
    have hF : 10 < lF := by simp [lF]
    have h8 := (okX_at ok e1).2.2.2.1
    unfold fX6_findLine_7
    rw [hM.1, ile_f (by omega) (by omega)]
    generalize lF = F at hF ⊢
    obtain ⟨S1, k1, k2, k3, k4⟩ := m_line_in (a := a) (by omega) (q := q) (K := fX6_findLine_7 n) (q.2.2.2.2.drop 1) F 1 L S rfl (by omega) h8 (by rw [List.length_drop]; omega) (by omega) (hM.2.2.2 a q e1) hl' h29
    obtain ⟨S2, j1, j2, j3, j4⟩ := ih n (a + 1) (L ++ q.2.2.2.2.drop 1) S1 e2 (by omega) (by omega) (by rw [List.length_append]; omega) (k2.rM hM) k3 k4
    rw [k1, j1]
    refine ⟨S2, rfl, k2.tr j2, ?_, ?_⟩
    · simp only [ln, ← List.append_assoc]; exact j3
    · simp only [ln, ← List.append_assoc]; exact j4
theorem m_line {S : mM} {x : Xx} (hM : rM S x) (ok : okX x) : ∃ S', fX6_findLine S = some S' ∧ m29 S S' ∧ hL (S'.1 16) (ln x.2.2) ∧ S'.1 0 29 = nI (ln x.2.2).length := by
  have hl := ok.1
  have h2 := ln_len ok.2
  have hF : 10 < lF := by simp [lF]
  have st : m29 S (mS S 0 29 (nI 0)) := ⟨rfl, fun k hk => by rw [mS_s, upd_n hk], fun q h1 h2 => by rw [mS_n h1]⟩
  unfold fX6_findLine
  rw [sv_s]
  generalize lF = F at hF ⊢
  obtain ⟨S', k1, k2, k3⟩ := m_line_l ok x.2.2 F 0 [] _ rfl (by omega) (by omega) (by simp; omega) (st.rM hM) hL_nil (by rw [mS_s, upd_s]; rfl)
  exact ⟨S', k1, st.tr k2, k3⟩
/-! ===== ends, free ===== -/
def eqE (B n : Nat) (Sc : cM) (Sm : mM) : Prop := ∀ j, j < n → ∃ e, e ≤ B ∧ Sc.1 69 j = nI e ∧ Sm.1 17 j = nI e
theorem go_c {u : Nat} (hu : u = 1 ∨ u = 2) {x : Xx} (ok : okX x) {Sc : cM} {Sm : mM} (hs : Sc.2.1 = u) (hC : rC Sc u x) (hM : rM Sm x) {B j s : Nat} (hB : B < 2000000) (hE : eqE B x.2.2.length Sc Sm) (hj : j < x.2.2.length) (hs4 : s < 4) :
    ∃ v Sc' Sm', v ≤ B + 25 ∧ fX5_goTo Sc (nI j) (nI s) = some (nI v, Sc') ∧ fX6_sendTo Sm (nI j) (nI s) = some (nI v, Sm') ∧ eqE (B + 25) x.2.2.length Sc' Sm' ∧ c1 69 Sc Sc' ∧ m1 17 Sm Sm' := by
  have hl := ok.1
  have hq : x.2.2[j]? = some x.2.2[j] := List.getElem?_eq_getElem hj
  generalize x.2.2[j] = q at hq
  have okq := okX_at ok hq
  obtain ⟨e, he, h1, h2⟩ := hE j hj
  have ht := @tk_le q.1 q.2.1 s okq.2.1
  refine ⟨e + tk q.1 q.2.1 s, cS Sc 69 j (nI (e + tk q.1 q.2.1 s)), mS Sm 17 j (nI (e + tk q.1 q.2.1 s)), by omega, ?_, ?_, ?_, c1.set, m1.set⟩
  · unfold fX5_goTo
    rw [g5 (by omega), g5 (by omega), hs, gN hu, cl_n (by omega), p_needs (hC.2.2.2 j q hq) hs4, bd_s, g5 (by omega), h1, nI_add, sv_s, g5 (by omega), cS_s, upd_s]
  · unfold fX6_sendTo
    rw [g5 (by omega), cl_n (by omega), m_takesIn (hM.2.2.2 j q hq) okq (by omega) hs4, bd_s, g5 (by omega), h2, nI_add, sv_s, g5 (by omega), mS_s, upd_s]
  · intro i hi
    rw [cS_s, mS_s]
    by_cases c : i = j
    · subst c
      exact ⟨_, by omega, upd_s, upd_s⟩
    · obtain ⟨e', he', g1, g2⟩ := hE i hi
      exact ⟨e', by omega, by rw [upd_n c]; exact g1, by rw [upd_n c]; exact g2⟩
def sL : List Qq → Nat
  | [] => 0
  | q :: l => q.2.2.1 + sL l
theorem sL_le {l : List Qq} (h : ∀ q ∈ l, okQ q) : sL l ≤ 25 * l.length := by
  induction l with
  | nil => exact Nat.le_refl _
  | cons q l ih =>
    have h1 := (h q List.mem_cons_self).2.2.1
    have h2 := ih (fun z hz => h z (List.mem_cons_of_mem _ hz))
    simp only [sL, List.length_cons]
    omega
theorem c_begin_l {u : Nat} (hu : u = 1 ∨ u = 2) {x : Xx} (ok : okX x) : ∀ (r : List Qq) (n a w : Nat) (S : cM), x.2.2.drop a = r → a ≤ 5 → r.length < n → S.2.1 = u → rC S u x → (∀ j q, j < a → x.2.2[j]? = some q → S.1 69 j = nI q.2.2.1) →
    ∃ S', fX5_beginWithFirstOnes_4 n S (nI w) (nI a) = some (nI (w + sL r), S') ∧ c1 69 S S' ∧ ∀ j q, x.2.2[j]? = some q → S'.1 69 j = nI q.2.2.1 := by
  have hl := ok.1
  intro r
  induction r with
  | nil =>
    intro n a w S e ha hn hs hC hE
    have := dropN e
    obtain ⟨n, rfl⟩ : ∃ z, n = z + 1 := ⟨n - 1, by omega⟩
    unfold fX5_beginWithFirstOnes_4
    rw [hs, gN hu, hC.1, ile_t (by omega) (by omega)]
    exact ⟨S, rfl, c1.rf, fun j q hj => hE j q (by have := (List.getElem?_eq_some_iff.mp hj).1; omega) hj⟩
  | cons q r ih =>
    intro n a w S e ha hn hs hC hE
    obtain ⟨e1, e2, e3⟩ := dropC e
    simp only [List.length_cons] at hn
    obtain ⟨n, rfl⟩ : ∃ z, n = z + 1 := ⟨n - 1, by omega⟩
    obtain ⟨S', k1, k2, k3⟩ := ih n (a + 1) (w + q.2.2.1) (cS S 69 a (nI q.2.2.1)) e2 (by omega) (by omega) hs (c1.set.rC (by omega) hu hl hC) (fun j z hj hz => by
      rw [cS_s]
      by_cases c : j = a
      · subst c
        rw [e1] at hz
        simp only [Option.some.injEq] at hz
        subst hz
        exact upd_s
      · rw [upd_n c]; exact hE j z (by omega) hz)
    unfold fX5_beginWithFirstOnes_4
    rw [hs, gN hu, gN hu, hC.1, ile_f (by omega) (by omega), g5 (by omega), g5 (by omega), cl_n (by omega), (hC.2.2.2 a q e1).2.2.2.1, sv_s, g5 (by omega), cS_s, upd_s, nI_add, nI_add, k1]
    exact ⟨S', by rw [show w + q.2.2.1 + sL r = w + sL (q :: r) by simp only [sL]; omega], c1.set.tr k2, k3⟩
theorem m_free_l {x : Xx} (ok : okX x) : ∀ (d n a : Nat) (S : mM), 5 - a = d → a ≤ 5 → d < n → rM S x → (∀ j q, j < a → x.2.2[j]? = some q → S.1 17 j = nI q.2.2.1) →
    ∃ S', fX6_beginFree_2 n S (nI 0) (nI a) = some S' ∧ m1 17 S S' ∧ ∀ j q, x.2.2[j]? = some q → S'.1 17 j = nI q.2.2.1 := by
  have hl := ok.1
  intro d
  induction d with
  | zero =>
    intro n a S e ha hn hM hE
    obtain ⟨n, rfl⟩ : ∃ z, n = z + 1 := ⟨n - 1, by omega⟩
    unfold fX6_beginFree_2
    rw [ile_t (by omega) (by omega)]
    exact ⟨S, rfl, m1.rf, fun j q hj => hE j q (by have := (List.getElem?_eq_some_iff.mp hj).1; omega) hj⟩
  | succ d ih =>
    intro n a S e ha hn hM hE
    obtain ⟨n, rfl⟩ : ∃ z, n = z + 1 := ⟨n - 1, by omega⟩
    have go : ∀ v : Nat, (∀ q, x.2.2[a]? = some q → q.2.2.1 = v) → ∃ S', fX6_beginFree_43 (fX6_beginFree_2 n) S (nI 0) (nI a) (nI a) (nI v) = some S' ∧ m1 17 S S' ∧ ∀ j q, x.2.2[j]? = some q → S'.1 17 j = nI q.2.2.1 := by
      intro v hv
      obtain ⟨S', k1, k2, k3⟩ := ih n (a + 1) (mS S 17 a (nI v)) (by omega) (by omega) (by omega) (m1.set.rM (by omega) hM) (fun j z hj hz => by
        rw [mS_s]
        by_cases c : j = a
        · subst c
          rw [hv z hz]
          exact upd_s
        · rw [upd_n c]; exact hE j z (by omega) hz)
      unfold fX6_beginFree_43
      rw [g5 (by omega), cl_n (by omega), sv_s, nI_add]
      exact ⟨S', k1, m1.set.tr k2, k3⟩
    unfold fX6_beginFree_2 fX6_beginFree_42
    rw [ile_f (by omega) (by omega), if_pos nI_0, hM.1]
    by_cases c : x.2.2.length ≤ a
    · rw [ile_t c (by omega)]
      exact go 0 (fun q hq => by have := (List.getElem?_eq_some_iff.mp hq).1; omega)
    · have hq : x.2.2[a]? = some x.2.2[a] := List.getElem?_eq_getElem (by omega)
      generalize x.2.2[a] = q at hq
      have okq := okX_at ok hq
      have hm := hM.2.2.2 a q hq
      have h8 := okq.2.2.2.1
      rw [ile_f (by omega) (by omega), g5 (by omega), g5 (by omega), cl_n (by omega), hm.2.2.1, hm.2.2.2.1]
      by_cases c0 : q.2.2.2.2.length = 0
      · rw [i0l_t c0]
        exact go 0 (fun z hz => by
          rw [hq] at hz
          simp only [Option.some.injEq] at hz
          subst hz
          exact okq.2.2.2.2.2.1 (List.eq_nil_of_length_eq_zero c0))
      · rw [i0l_f (by omega) (by omega)]
        exact go q.2.2.1 (fun z hz => by
          rw [hq] at hz
          simp only [Option.some.injEq] at hz
          subst hz
          rfl)
theorem m_first_l {S : mM} {x : Xx} (hM : rM S x) (ok : okX x) : ∀ (r : List Qq) (n a w : Nat), x.2.2.drop a = r → a ≤ 5 → r.length < n → fX6_sumOfFirst_4 n S (nI w) (nI a) = some (nI (w + sL r), S) := by
  have hl := ok.1
  intro r
  induction r with
  | nil =>
    intro n a w e ha hn
    have := dropN e
    obtain ⟨n, rfl⟩ : ∃ z, n = z + 1 := ⟨n - 1, by omega⟩
    unfold fX6_sumOfFirst_4
    rw [hM.1, ile_t (by omega) (by omega)]
    rfl
  | cons q r ih =>
    intro n a w e ha hn
    obtain ⟨e1, e2, e3⟩ := dropC e
    simp only [List.length_cons] at hn
    obtain ⟨n, rfl⟩ : ∃ z, n = z + 1 := ⟨n - 1, by omega⟩
    have okq := okX_at ok e1
    have hm := hM.2.2.2 a q e1
    have h8 := okq.2.2.2.1
    have k := ih n (a + 1) (w + q.2.2.1) e2 (by omega) (by omega)
    unfold fX6_sumOfFirst_4 fX6_sumOfFirst_32
    rw [hM.1, ile_f (by omega) (by omega), g5 (by omega), g5 (by omega), cl_n (by omega), hm.2.2.1, hm.2.2.2.1, nI_add, nI_add]
    have fin : fX6_sumOfFirst_4 n S (nI (w + q.2.2.1)) (nI (a + 1)) = some (nI (w + sL (q :: r)), S) := by rw [k, show w + q.2.2.1 + sL r = w + sL (q :: r) by simp only [sL]; omega]
    by_cases c0 : q.2.2.2.2.length = 0
    · rw [okq.2.2.2.2.2.1 (List.eq_nil_of_length_eq_zero c0)] at fin
      rw [i0l_t c0]; exact fin
    · rw [i0l_f (by omega) (by omega), nI_add]; exact fin
/-- both begin with the first ones -/
theorem begin_c {u : Nat} (hu : u = 1 ∨ u = 2) {x : Xx} (ok : okX x) {Sc : cM} {Sm : mM} (hs : Sc.2.1 = u) (hC : rC Sc u x) (hM : rM Sm x) :
    ∃ Sc' Sm', fX5_beginWithFirstOnes Sc = some (nI (sL x.2.2), Sc') ∧ fX6_beginFree Sm (nI 0) = some Sm' ∧ fX6_sumOfFirst Sm' = some (nI (sL x.2.2), Sm') ∧ eqE 25 x.2.2.length Sc' Sm' ∧ c1 69 Sc Sc' ∧ m1 17 Sm Sm' := by
  have hl := ok.1
  have hF : 10 < lF := by simp [lF]
  unfold fX5_beginWithFirstOnes fX6_beginFree fX6_sumOfFirst
  generalize lF = F at hF ⊢
  obtain ⟨S1, k1, k2, k3⟩ := c_begin_l hu ok x.2.2 F 0 0 Sc rfl (by omega) (by omega) hs hC (fun j q hj => by omega)
  obtain ⟨T1, j1, j2, j3⟩ := m_free_l ok 5 F 0 Sm (by omega) (by omega) (by omega) hM (fun j q hj => by omega)
  have j4 := m_first_l (j2.rM (by omega) hM) ok x.2.2 F 0 0 rfl (by omega) (by omega)
  rw [Nat.zero_add] at k1 j4
  refine ⟨S1, T1, k1, j1, j4, fun j hj => ?_, k2, j2⟩
  have hq : x.2.2[j]? = some x.2.2[j] := List.getElem?_eq_getElem hj
  generalize x.2.2[j] = q at hq
  exact ⟨q.2.2.1, (okX_at ok hq).2.2.1, k3 j q hq, j3 j q hq⟩
