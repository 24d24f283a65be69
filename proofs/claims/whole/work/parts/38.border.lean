/-! ===== borders ===== -/
def chn (B : List Nat) : Nat → List (Nat × Ss) → Prop
  | k, [] => k = B.length
  | k, (p, r) :: Q => p = k ∧ shp (B.drop k) r ∧ k + r.1 ≤ B.length ∧ chn B (k + r.1) Q
def frL (S S' : mM) : Prop := S'.2 = S.2 ∧ ∀ r j, ¬ (r = 0 ∧ 19 ≤ j ∧ j ≤ 21) → ¬ (10 ≤ r ∧ r ≤ 15) → S'.1 r j = S.1 r j
theorem fr.L {t : Nat} {S S' : mM} (h : fr t S S') : frL S S' := ⟨h.1, fun r j a b => h.2 r j a (fun q => b ⟨q.1, q.2.1⟩)⟩
theorem frL.tr {S S1 S2 : mM} (h1 : frL S S1) (h2 : frL S1 S2) : frL S S2 := ⟨h2.1.trans h1.1, fun r j a b => (h2.2 r j a b).trans (h1.2 r j a b)⟩
theorem frL.rf {S : mM} : frL S S := ⟨rfl, fun _ _ _ _ => rfl⟩
theorem frL.rM {S S' : mM} {x : Xx} (h : frL S S') (hM : rM S x) : rM S' x := rM_core hM (fun k hk => h.2 0 k (by omega) (by omega)) (fun r h1 h2 => by funext j; exact h.2 r j (by omega) (by omega))
theorem frL.kp {S S' : mM} (h : frL S S') : mkp S S' := ⟨by rw [h.1], by funext j; exact h.2 9 j (by omega) (by omega), h.2 0 13 (by omega) (by omega), fun r hr => by funext j; exact h.2 r j (by omega) (by omega)⟩
theorem read_l {d : Nat} {B : List Nat} (hd : d < 8) (h100 : B.length ≤ 100) (h256 : ∀ c ∈ B, c < 256) : ∀ (e n t k : Nat) (S : mM), B.length - k ≤ e → k ≤ B.length → e + 1 < n → 3 * t ≤ k → (t = 0 ↔ k = 0) → TM S d B → S.1 0 20 = nI 0 → S.1 0 19 = nI k → S.1 0 21 = nI t →
    (∃ j S', fbs (B.drop k) 0 k = some j ∧ j ≤ B.length ∧ fX6_border_50 n S = some ((-1000) - nI j, S') ∧ frL S S') ∨
    (fbs (B.drop k) 0 k = none ∧ ∃ Q S', chn B k Q ∧ fX6_border_50 n S = fX6_border_82 S' ∧ S'.1 0 20 = nI 0 ∧ S'.1 0 21 = nI (t + Q.length) ∧ t + Q.length < 51 ∧ (∀ i p r, Q[i]? = some (p, r) → rcd S' (t + i) r p) ∧ (∀ q j, 10 ≤ q → q ≤ 15 → j < t → S'.1 q j = S.1 q j) ∧ TM S' d B ∧ frL S S') := by
  intro e
  induction e with
  | zero =>
    intro n t k S he hk hn h3 htk tm h20 h19 h21
    have hkB : k = B.length := by omega
    have hdr : B.drop k = [] := List.drop_eq_nil_of_le (by omega)
    obtain ⟨n, rfl⟩ : ∃ z, n = z + 1 := ⟨n - 1, by omega⟩
    by_cases ht0 : t = 0
    · have hk0 : k = 0 := htk.mp ht0
      have rd := m_read (t := t) (l := []) (by omega) tm hd h100 h256 h20 h21 h19 hk hdr
      obtain ⟨S', k1, k2, k3, k4⟩ := rd
      left
      refine ⟨0, S', by rw [hdr, hk0]; rfl, by omega, ?_, k4.L⟩
      obtain ⟨n, rfl⟩ : ∃ z, n = z + 1 := ⟨n - 1, by omega⟩
      unfold fX6_border_50 fX6_border_75
      rw [h20, if_pos nI_0, h21, i0e_t ht0, k1, bv_s]
      unfold fX6_border_50 fX6_border_82
      rw [k2, i0e_f (by omega) (by omega), i0e_f (by omega) (by omega), k3, hk0]
    · right
      refine ⟨by rw [hdr]; unfold fbs; rw [if_pos (by omega)], [], S, hkB, ?_, h20, h21, by simp; omega, fun i p r h => by simp at h, fun q j _ _ _ => rfl, tm, frL.rf⟩
      unfold fX6_border_50
      rw [h20, if_pos nI_0, h21, i0e_f (by omega) (by omega), tm.2.1, h19, ile_t (by omega) (by omega)]
  | succ e ih =>
    intro n t k S he hk hn h3 htk tm h20 h19 h21
    obtain ⟨n, rfl⟩ : ∃ z, n = z + 1 := ⟨n - 1, by omega⟩
    by_cases hend : k = B.length ∧ t ≠ 0
    · have hdr : B.drop k = [] := List.drop_eq_nil_of_le (by omega)
      right
      refine ⟨by rw [hdr]; unfold fbs; rw [if_pos (by omega)], [], S, hend.1, ?_, h20, h21, by simp; omega, fun i p r h => by simp at h, fun q j _ _ _ => rfl, tm, frL.rf⟩
      unfold fX6_border_50
      rw [h20, if_pos nI_0, h21, i0e_f (by omega) (by omega), tm.2.1, h19, ile_t (by omega) (by omega)]
    · have loop : fX6_border_50 (n + 1) S = bv (fX6_readStatement S) fun S21 => fX6_border_50 n S21 := by
        conv => lhs; unfold fX6_border_50
        unfold fX6_border_75
        rw [h20, if_pos nI_0, h21, tm.2.1, h19]
        by_cases ht0 : t = 0
        · rw [i0e_t ht0]
        · rw [i0e_f (by omega) (by omega), ile_f (by omega) (by omega)]
      have rd := m_read (t := t) (by omega) tm hd h100 h256 h20 h21 h19 hk rfl
      rcases rs_c (B.drop k) k (fun h => by have := dropN h; omega) with ⟨j, q1, q2, q3⟩ | ⟨r, q1, q2, q3, q4⟩
      · rw [q1] at rd
        obtain ⟨S', k1, k2, k3, k4⟩ := rd
        left
        rw [List.length_drop] at q3
        refine ⟨k + j, S', q2, by omega, ?_, k4.L⟩
        rw [loop, k1, bv_s]
        obtain ⟨n, rfl⟩ : ∃ z, n = z + 1 := ⟨n - 1, by omega⟩
        unfold fX6_border_50 fX6_border_82
        rw [k2, i0e_f (by omega) (by omega), i0e_f (by omega) (by omega), k3]
      · rw [q1] at rd
        obtain ⟨S1, k1, k2, k3, k4, k5, k6⟩ := rd
        rw [List.length_drop] at q3
        have hr3 := q2.2.1
        rw [List.drop_drop] at q4
        rw [loop, k1, bv_s]
        rcases ih n (t + 1) (k + r.1) S1 (by omega) (by omega) (by omega) (by omega) (by omega) (tm.fr k6) k2 k3 k4 with ⟨j, S', w1, w2, w3, w4⟩ | ⟨w0, Q, S', w1, w2, w3, w4, w5, w6, w7, w8, w9⟩
        · left
          exact ⟨j, S', by rw [q4]; exact w1, w2, w3, k6.L.tr w4⟩
        · right
          refine ⟨by rw [q4]; exact w0, (k, r) :: Q, S', ⟨rfl, q2, by omega, w1⟩, w2, w3, by rw [w4, List.length_cons]; congr 1; omega, by rw [List.length_cons]; omega, fun i p r' hi => ?_, fun q j a b c => by rw [w7 q j a b (by omega), k6.2 q j (by omega) (by omega)], w8, k6.L.tr w9⟩
          cases i with
          | zero =>
            simp only [List.getElem?_cons_zero, Option.some.injEq, Prod.mk.injEq] at hi
            obtain ⟨rfl, rfl⟩ := hi
            obtain ⟨g1, g2, g3, g4, g5'⟩ := k5
            exact ⟨by rw [Nat.add_zero, w7 10 t (by omega) (by omega) (by omega)]; exact g1, by rw [Nat.add_zero, w7 11 t (by omega) (by omega) (by omega)]; exact g2, by rw [Nat.add_zero, w7 12 t (by omega) (by omega) (by omega)]; exact g3, by rw [Nat.add_zero, w7 13 t (by omega) (by omega) (by omega)]; exact g4, fun hc => ⟨by rw [Nat.add_zero, w7 14 t (by omega) (by omega) (by omega)]; exact (g5' hc).1, by rw [Nat.add_zero, w7 15 t (by omega) (by omega) (by omega)]; exact (g5' hc).2⟩⟩
          | succ i =>
            simp only [List.getElem?_cons_succ] at hi
            have := w6 i p r' hi
            rw [show t + 1 + i = t + (i + 1) by omega] at this
            exact this
theorem ex_any {u d t k : Nat} (hu : u = 1 ∨ u = 2) (hd : d < 8) (ht : t < 51) {x : Xx} (ok : okX x) {Sc : cM} {Sm : mM} {B : List Nat} (h100 : B.length ≤ 100) (tx : TX Sc d B) (tm : TM Sm d B) (hC : rC Sc u x) (hM : rM Sm x) {r : Ss} (sh : shp (B.drop k) r) (rc : rcd Sm t r k) :
    exR u Sc Sm (fX0_carryOut (53 + d) u Sc (nI k) (nI (k + r.1 - 1))) (fX6_comesOf Sm (nI t)) := by
  rcases id sh with ⟨-, -, -, -, ⟨h, -⟩ | ⟨h, -⟩ | ⟨h, -⟩⟩
  · exact ex_l hu hd ht ok h100 tx tm hC hM sh rc h
  · exact ex_c hu ht ok h100 tx hC hM sh rc h
  · exact ex_m hu ht ok h100 tx hC hM sh rc h
theorem skip_l {S : cM} {d q : Nat} {B : List Nat} (tx : TX S d B) (h100 : B.length ≤ 100) (hq : q < B.length) {cnt beg : Int32} : ∀ (e n p : Nat), q - p = e → p ≤ q → (∀ i, p ≤ i → i < q → B[i]? ≠ some 59) → fX5_border_57 (n + e) S (53 + d) cnt beg (nI p) = fX5_border_57 n S (53 + d) cnt beg (nI q) := by
  intro e
  induction e with
  | zero =>
    intro n p he hp h
    rw [show p = q by omega, Nat.add_zero]
  | succ e ih =>
    intro n p he hp h
    rw [show n + (e + 1) = (n + e) + 1 by omega]
    have hpl : B[p]? = some B[p] := List.getElem?_eq_getElem (by omega)
    generalize B[p] = c at hpl
    have hne := h p (Nat.le_refl _) (by omega)
    have hv : ¬ S.1 (61 + d) p = nI 59 := fun z => by
      have := (rel_eq (tx.2.2 p c hpl) (by omega)).mp z
      exact hne (by rw [hpl, this])
    conv => lhs; unfold fX5_border_57
    unfold fX5_border_109
    rw [tx.2.1, ile_f (by omega) (by omega), gi_n (show p < 100 by omega) (by omega), cl_n (by omega), show 53 + d + 8 = 61 + d by omega, if_neg hv, nI_add]
    exact ih n (p + 1) (by omega) (by omega) (fun i a b => h i (by omega) b)
theorem do_l {u d T : Nat} (hu : u = 1 ∨ u = 2) (hd : d < 8) {x0 : Xx} (ok0 : okX x0) {B : List Nat} (h100 : B.length ≤ 100) (hT : T < 51) : ∀ (Q : List (Nat × Ss)) (n m t k : Nat) (x : Xx) (Sc : cM) (Sm : mM), chn B k Q → k ≤ B.length → t + Q.length = T → B.length - k < n → Q.length < m → okX x → (Sc.2.1 = 1 ∨ Sc.2.1 = 2) → Sc.2.2 = u → rC Sc u x → rM Sm x → rI (Sm.1 8) x0 → TX Sc d B → TM Sm d B → Sm.1 0 21 = nI T → (∀ i p r, Q[i]? = some (p, r) → rcd Sm (t + i) r p) →
    (∃ r Sc' Sm', fX5_border_57 n Sc (53 + d) (nI t) (nI k) (nI k) = some (r, Sc') ∧ fX6_border_104 m Sm (nI t) = some (r, Sm') ∧ frx Sc Sc' u ∧ rM Sm' x0 ∧ mkp Sm Sm') ∨
    (∃ r Sc' Sm' x', fX5_border_57 n Sc (53 + d) (nI t) (nI k) (nI k) = some (r, (Sc'.1, Sc'.2.2, Sc'.2.1)) ∧ fX6_border_104 m Sm (nI t) = some (r, Sm') ∧ frx Sc Sc' u ∧ okX x' ∧ rC Sc' u x' ∧ rM Sm' x' ∧ mkp Sm Sm') := by
  intro Q
  induction Q with
  | nil =>
    intro n m t k x Sc Sm ch hk hQ hn hm ok hn1 hs hC hM hI tx tm h21 hr
    have hkB : k = B.length := ch
    obtain ⟨n, rfl⟩ : ∃ z, n = z + 1 := ⟨n - 1, by omega⟩
    obtain ⟨m, rfl⟩ : ∃ z, m = z + 1 := ⟨m - 1, by omega⟩
    simp only [List.length_nil] at hQ
    right
    refine ⟨nI t, Sc, Sm, x, ?_, ?_, frx.rf, ok, hC, hM, mkp.rf⟩
    · unfold fX5_border_57
      rw [tx.2.1, ile_t (by omega) (by omega), gN hn1, hs, gN hu, sv_s, sv_s]
    · unfold fX6_border_104
      rw [h21, ile_t (by omega) (by omega), ← hQ, Nat.add_zero]
  | cons pr Q ih =>
    intro n m t k x Sc Sm ch hk hQ hn hm ok hn1 hs hC hM hI tx tm h21 hr
    obtain ⟨p, r⟩ := pr
    obtain ⟨rfl, sh, hle, ch2⟩ := ch
    simp only [List.length_cons] at hQ hm
    have hr0 := hr 0 p r rfl
    rw [Nat.add_zero] at hr0
    have h3 := sh.2.1
    have h59 : B[p + r.1 - 1]? = some 59 := by
      have := sh.2.2.1
      rw [List.getElem?_drop] at this
      rw [show p + r.1 - 1 = p + (r.1 - 1) by omega]; exact this
    have hn59 : ∀ i, p ≤ i → i < p + r.1 - 1 → B[i]? ≠ some 59 := by
      intro i h1 h2
      have := sh.2.2.2.1 (i - p) (by omega)
      rw [List.getElem?_drop, show p + (i - p) = i by omega] at this
      exact this
    obtain ⟨n, rfl⟩ : ∃ z, n = (z + 1) + (r.1 - 1) := ⟨n - 1 - (r.1 - 1), by omega⟩
    obtain ⟨m, rfl⟩ : ∃ z, m = z + 1 := ⟨m - 1, by omega⟩
    have ec : fX5_border_57 ((n + 1) + (r.1 - 1)) Sc (53 + d) (nI t) (nI p) (nI p) = bd (fX0_carryOut (53 + d) u Sc (nI p) (nI (p + r.1 - 1))) fun v19 S19 => if v19 = 0 then some ((-2000) - nI p, S19) else fX5_border_57 n S19 (53 + d) (nI (t + 1)) (nI (p + r.1)) (nI (p + r.1)) := by
      rw [skip_l tx h100 (q := p + r.1 - 1) (by omega) (r.1 - 1) (n + 1) p (by omega) (by omega) hn59]
      conv => lhs; unfold fX5_border_57
      unfold fX5_border_109
      rw [tx.2.1, ile_f (by omega) (by omega), gi_n (show p + r.1 - 1 < 100 by omega) (by omega), cl_n (by omega), show 53 + d + 8 = 61 + d by omega, if_pos ((rel_eq (tx.2.2 _ _ h59) (by omega)).mpr rfl), hs, gN hu, nI_add, nI_add, show p + r.1 - 1 + 1 = p + r.1 by omega]
    have em : fX6_border_104 (m + 1) Sm (nI t) = bd (fX6_comesOf Sm (nI t)) fun v15 S15 => if v15 = 0 then bv (fX6_close S15) fun S17 => gi (nI t) 51 (some ((-2000) - (S17.1 10 (nI t).toNatClampNeg), S17)) else fX6_border_104 m S15 (nI (t + 1)) := by
      conv => lhs; unfold fX6_border_104
      rw [h21, ile_f (by omega) (by omega), nI_add]
    rw [ec, em]
    rcases ex_any (t := t) hu hd (by omega) ok h100 tx tm hC hM sh hr0 with ⟨S1, T1, a1, a2, a3, a4⟩ | ⟨S1, T1, x', a1, a2, a3, a4, a5, a6, a7⟩
    · left
      obtain ⟨T3, g3, q3, c3, -, -, z3⟩ := m_close (S := T1) (x := x0) (by rw [a4.2.2 8 (by omega)]; exact hI) ok0
      rw [a1, bd_s, if_pos nI_0, a2, bd_s, if_pos nI_0, g3, bv_s, g51 (by omega), cl_n (by omega), z3 10 (by omega), a4.2.2 10 (by omega), hr0.1]
      exact ⟨_, _, _, rfl, rfl, a3, q3, a4.kp.tr c3⟩
    · rw [a1, bd_s, i0e_f (by omega) (by omega), a2, bd_s, i0e_f (by omega) (by omega)]
      rcases ih n m (t + 1) (p + r.1) x' S1 T1 ch2 hle (by omega) (by omega) (by omega) a5 (by rw [a3.1]; exact hn1) (by rw [a3.1]; exact hs) a6 a7 (by rw [a4.2.2 8 (by omega)]; exact hI) (tx.frx hd hu a3) (tm.mfr a4) (by rw [a4.2.1 21 (by omega)]; exact h21) (fun i p' r' hi => by
        have := hr (i + 1) p' r' (by simpa using hi)
        rw [show t + (i + 1) = t + 1 + i by omega] at this
        exact this.mfr a4) with ⟨r', Sc', Sm', w1, w2, w3, w4, w5⟩ | ⟨r', Sc', Sm', x2, w1, w2, w3, w4⟩
      · left; exact ⟨r', Sc', Sm', w1, w2, a3.tr w3, w4, a4.kp.tr w5⟩
      · right; exact ⟨r', Sc', Sm', x2, w1, w2, a3.tr w3, w4.1, w4.2.1, w4.2.2.1, a4.kp.tr w4.2.2.2⟩
theorem t_border {Sc : cM} {Sm : mM} {x : Xx} {im : Option Xx} {sh : Nat → Sh} (R : Rl Sc Sm x im sh) (x1 : Int32) : Same (fX5_border Sc x1) (fX6_border Sm x1) := by
  have hn := R.now
  obtain ⟨ok, hC, hM, r4, r5, r6⟩ := id R
  have hM9 := m9 hM
  have hl := ok.1
  have H9 := SH9 R
  rcases bytes_c H9 x1 with ⟨rc, h1, h2, h3, h4⟩ | ⟨d, rfl, hd, hk, hb, h1, h2⟩
  · refine same_of R (r := rc) ?_ ?_
    · unfold fX5_border; rw [h1, bd_s, if_neg h3]
    · unfold fX6_border; rw [sv_s, h2, bd_s, if_neg h4]
  · obtain ⟨okd, cd, md⟩ := H9 d hd
    have hlen := (okd.2.2 hk).2.1
    have hby := (okd.2.2 hk).2.2 hb
    have hF : 1000 < lF := by simp [lF]
    generalize hB : (sh d).2.2.map cod = B
    have hBl : B.length = (sh d).2.2.length := by rw [← hB, List.length_map]
    have h100 : B.length ≤ 100 := by omega
    have h256 : ∀ c ∈ B, c < 256 := by
      intro c hc
      rw [← hB] at hc
      obtain ⟨v, -, rfl⟩ := List.mem_map.mp hc
      exact Nat.mod_lt _ (by omega)
    have hat : ∀ (k c : Nat), B[k]? = some c → ∃ v : Int32, (sh d).2.2[k]? = some v ∧ rel v c := by
      intro k c h
      rw [← hB, List.getElem?_map] at h
      cases hv : (sh d).2.2[k]? with
      | none => rw [hv] at h; simp at h
      | some v =>
        rw [hv] at h
        simp only [Option.map_some, Option.some.injEq] at h
        subst h
        have := hby v (List.mem_of_getElem? hv)
        exact ⟨v, rfl, rel_cod this.1 this.2⟩
    have tx : TX Sc d B := ⟨by rw [cd.1, hk], by rw [(cd.2.2 hk).2.1, hBl], fun k c h => by
      obtain ⟨v, hv, hr⟩ := hat k c h
      rw [(cd.2.2 hk).2.2 k v hv]; exact hr⟩
    generalize hT : mS (mS (mS (mS (mS (mS Sm 0 9 (nI 0)) 0 17 (nI (100 * d))) 0 18 (nI B.length)) 0 19 (nI 0)) 0 20 (nI 0)) 0 21 (nI 0) = T0
    have em : fX6_border Sm (nI d) = fX6_border_50 lF T0 := by
      unfold fX6_border
      rw [sv_s, h2, bd_s, if_pos (by decide), pk_mul, sv_s, g8 hd, cl_n (by omega), mgn (by omega), (md.2.2 hk).2.1, sv_s, sv_s, sv_s, sv_s, ← hBl, hT]
    have t17 : T0.1 0 17 = nI (100 * d) := by rw [← hT]; simp (disch := omega) only [mgy, mgn]
    have t18 : T0.1 0 18 = nI B.length := by rw [← hT]; simp (disch := omega) only [mgy, mgn]
    have t19 : T0.1 0 19 = nI 0 := by rw [← hT]; simp (disch := omega) only [mgy, mgn]
    have t20 : T0.1 0 20 = nI 0 := by rw [← hT]; simp (disch := omega) only [mgy, mgn]
    have t21 : T0.1 0 21 = nI 0 := by rw [← hT]; simp (disch := omega) only [mgy, mgn]
    have tM : rM T0 x := by
      rw [← hT]
      exact rM_core hM (fun k hk => by simp (disch := omega) only [mgy, mgn]) (fun r a b => by simp (disch := omega) only [mS_n])
    have tk : mkp Sm T0 := by
      rw [← hT]
      exact ⟨rfl, by simp (disch := omega) only [mS_n], by simp (disch := omega) only [mgy, mgn], fun r hr => by simp (disch := omega) only [mS_n]⟩
    have tm : TM T0 d B := ⟨t17, t18, fun k c h => by
      obtain ⟨v, hv, hr⟩ := hat k c h
      refine ⟨v, ?_, hr⟩
      rw [← hT]
      exact (md.2.2 hk).2.2 k v hv⟩
    have ec : fX5_border Sc (nI d) = if bad (fbs B 0 0) < 0 then gn Sc.2.2 1 3 (gn Sc.2.1 1 3 (bv (fX1_becomeLike Sc.2.2 Sc.2.1 Sc) fun S9 => (fX5_border_57 lF S9 (53 + d) (nI 0) (nI 0) (nI 0)))) else some ((-1000) - bad (fbs B 0 0), Sc) := by
      unfold fX5_border
      rw [h1, bd_s, if_pos nI_0, g8 hd, cl_n (by omega), p_fb tx h100, bd_s]
    rw [ec, em]
    have rl := read_l hd h100 h256 B.length lF 0 0 T0 (by omega) (by omega) (by omega) (by omega) (Iff.rfl) tm t20 t19 t21
    rw [List.drop_zero] at rl
    rcases rl with ⟨j, T1, w1, w2, w3, w4⟩ | ⟨w0, Q, T1, w1, w2, w3, w4, w5, w6, -, w8, w9⟩
    · rw [w1, w3]
      refine ⟨(-1000) - nI j, Sc, T1, x, im, sh, ?_, rfl, R.step cKp.rf (tk.tr w4.kp) ok hC (w4.rM tM)⟩
      rw [if_neg (show ¬ bad (some j) < 0 from nI_pos (by omega))]; rfl
    · rw [w0, w2, if_pos (show bad none < 0 by decide)]
      obtain ⟨S1, e1, r1, f1⟩ := p_like (u0 := Sc.2.2) (u1 := Sc.2.1) (by omega) (by omega) (Ne.symm hn.2.2) ok hC
      have s1 : S1.2 = Sc.2 := f1.1
      have hM1 := w9.rM tM
      obtain ⟨T2, g2, a2, b2, c2, d2, e2, f2⟩ := m_open hM1 ok
      unfold fX6_border_82
      rw [gN hn.2.1, gN hn.1, e1, bv_s, w3, if_pos nI_0, g2, bv_s]
      rw [Nat.zero_add] at w4 w5
      have tm2 : TM T2 d B := by
        unfold TM
        rw [e2 17 (by omega) (by omega), e2 18 (by omega) (by omega), d2]
        exact w8
      have rc2 : ∀ i p r, Q[i]? = some (p, r) → rcd T2 (0 + i) r p := by
        intro i p r hi
        have := w6 i p r hi
        unfold rcd at this ⊢
        rw [f2 10 (by omega) (by omega), f2 11 (by omega) (by omega), f2 12 (by omega) (by omega), f2 13 (by omega) (by omega), f2 14 (by omega) (by omega), f2 15 (by omega) (by omega)]
        exact this
      rcases do_l (T := Q.length) (u := Sc.2.2) hn.2.1 hd ok h100 w5 Q lF lF 0 0 x S1 T2 w1 (by omega) (by omega) (by omega) (by omega) ok (by rw [s1]; exact hn.1) (by rw [s1]) r1 a2 b2 (tx.frx hd hn.2.1 f1) tm2 (by rw [e2 21 (by omega) (by omega)]; exact w4) rc2 with ⟨r, Sc', Sm', k1, k2, k3, k4, k5⟩ | ⟨r, Sc', Sm', x', k1, k2, k3, k4, k5, k6, k7⟩
      · exact ⟨r, Sc', Sm', x, im, sh, k1, k2, R.step ((f1.tr k3).kp hn.2.1) (((tk.tr w9.kp).tr c2).tr k5) ok (rC_keep ok.1 hC (f1.tr k3) (by omega) (by omega) hn.2.2) k4⟩
      · have f3 := f1.tr k3
        have q2 : Sc'.2 = Sc.2 := f3.1
        refine ⟨r, _, Sm', x', im, sh, k1, k2, ?_⟩
        have ck := f3.kp hn.2.1
        have mk := ((tk.tr w9.kp).tr c2).tr k7
        refine ⟨k4, ?_, k6, ?_, ?_, fun e he => ?_⟩
        · show rC (Sc'.1, Sc'.2.2, Sc'.2.1) Sc'.2.2 x'
          rw [q2]
          exact rC_rows (S := Sc') k4.1 k5 (fun _ _ => rfl)
        · show (Sc'.2.2, Sc'.2.1) = (1, 2) ∨ (Sc'.2.2, Sc'.2.1) = (2, 1)
          rw [q2]
          rcases r4 with h | h
          · right; rw [h]
          · left; rw [h]
        · have q := imR_keep r5 ck mk
          cases im with
          | none => exact q
          | some y => exact ⟨q.1, q.2.1, q.2.2.1, rC_rows (S := Sc') q.2.2.1.1 q.2.2.2.1 (fun _ _ => rfl), q.2.2.2.2⟩
        · obtain ⟨z1, z2, z3⟩ := r6 e he
          exact ⟨z1, rsC_keep (S' := (Sc'.1, Sc'.2.2, Sc'.2.1)) he z2 (fun r hr => ck.2 r (Or.inr (Or.inr hr))), rsM_keep z3 mk⟩
