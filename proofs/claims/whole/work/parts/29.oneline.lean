/-! ===== one line for all ===== -/
def mi (f : Nat → Int32) : Nat → Nat → Nat → Nat
  | 0, _, c => c
  | d + 1, i, c => mi f d (i + 1) (if f c ≤ f i then c else i)
theorem mi_lt {f : Nat → Int32} : ∀ (d i c n : Nat), i + d ≤ n → c < n → mi f d i c < n := by
  intro d
  induction d with
  | zero => intro i c n _ hc; exact hc
  | succ d ih =>
    intro i c n h hc
    refine ih (i + 1) _ n (by omega) ?_
    split <;> omega
theorem mi_eq {f g : Nat → Int32} {n : Nat} (h : ∀ j, j < n → f j = g j) : ∀ (d i c : Nat), i + d ≤ n → c < n → mi f d i c = mi g d i c := by
  intro d
  induction d with
  | zero => intro i c _ _; rfl
  | succ d ih =>
    intro i c h1 hc
    simp only [mi]
    rw [h c hc, h i (by omega)]
    exact ih (i + 1) _ (by omega) (by split <;> omega)
theorem c_free_l {u : Nat} (hu : u = 1 ∨ u = 2) {S : cM} {x : Xx} (hs : S.2.1 = u) (hC : rC S u x) (ok : okX x) : ∀ (d n i c : Nat), x.2.2.length - i = d → d < n → i ≤ 5 → c < x.2.2.length → fX5_firstFree_4 n S (nI c) (nI i) = some (nI (mi (S.1 69) d i c), S) := by
  have hl := ok.1
  intro d
  induction d with
  | zero =>
    intro n i c h1 hn hi hc
    obtain ⟨n, rfl⟩ : ∃ z, n = z + 1 := ⟨n - 1, by omega⟩
    unfold fX5_firstFree_4
    rw [hs, gN hu, hC.1, ile_t (by omega) (by omega)]
    rfl
  | succ d ih =>
    intro n i c h1 hn hi hc
    obtain ⟨n, rfl⟩ : ∃ z, n = z + 1 := ⟨n - 1, by omega⟩
    unfold fX5_firstFree_4 fX5_firstFree_32
    rw [hs, gN hu, hC.1, ile_f (by omega) (by omega), g5 (by omega), g5 (by omega), cl_n (by omega), cl_n (by omega), nI_add]
    simp only [mi]
    by_cases h : S.1 69 c ≤ S.1 69 i
    · rw [if_pos h, if_pos h]; exact ih n (i + 1) c (by omega) (by omega) (by omega) hc
    · rw [if_neg h, if_neg h]; exact ih n (i + 1) i (by omega) (by omega) (by omega) (by omega)
theorem m_free2_l {S : mM} {x : Xx} (hM : rM S x) (ok : okX x) {K : mM → Int32 → Int32 → Option (Int32 × mM)} {v : Int32} {k : Nat} (hk : k < 40) : ∀ (d n i c : Nat), x.2.2.length - i = d → d < n → i ≤ 5 → c < x.2.2.length → fX6_oneLine_44 K n S v (nI k) (nI c) (nI i) = bd (fX6_sendTo S (nI (mi (S.1 17) d i c)) (S.1 16 k)) fun v10 S10 => K S10 (v + v10) (nI (k + 1)) := by
  have hl := ok.1
  intro d
  induction d with
  | zero =>
    intro n i c h1 hn hi hc
    obtain ⟨n, rfl⟩ : ∃ z, n = z + 1 := ⟨n - 1, by omega⟩
    unfold fX6_oneLine_44
    rw [hM.1, ile_t (by omega) (by omega), gi_n (show k < 40 by omega) (by omega), cl_n (by omega), nI_add]
    rfl
  | succ d ih =>
    intro n i c h1 hn hi hc
    obtain ⟨n, rfl⟩ : ∃ z, n = z + 1 := ⟨n - 1, by omega⟩
    unfold fX6_oneLine_44 fX6_oneLine_75
    rw [hM.1, ile_f (by omega) (by omega), g5 (by omega), g5 (by omega), cl_n (by omega), cl_n (by omega), nI_add]
    simp only [mi]
    by_cases h : S.1 17 c ≤ S.1 17 i
    · rw [if_pos h, if_pos h]; exact ih n (i + 1) c (by omega) (by omega) (by omega) hc
    · rw [if_neg h, if_neg h]; exact ih n (i + 1) i (by omega) (by omega) (by omega) (by omega)
theorem one_l {u : Nat} (hu : u = 1 ∨ u = 2) {x : Xx} (ok : okX x) (h1 : 1 ≤ x.2.2.length) {L0 : List Nat} (hLl : L0.length ≤ 40) (hL4 : ∀ s ∈ L0, s < 4) : ∀ (L : List Nat) (n m k B : Nat) (v : Int32) (Sc : cM) (Sm : mM), L0.drop k = L → k ≤ 40 → L.length < n → L.length < m → B + 25 * L.length < 2000000 → Sc.2.1 = u → rC Sc u x → rM Sm x → hL (Sc.1 70) L0 → hL (Sm.1 16) L0 → Sm.1 0 29 = nI L0.length → eqE B x.2.2.length Sc Sm →
    ∃ r Sc' Sm', fX5_oneLine_25 n Sc (nI L0.length) v (nI k) = some (r, Sc') ∧ fX6_oneLine_31 m Sm v (nI k) = some (r, Sm') ∧ c1 69 Sc Sc' ∧ m1 17 Sm Sm' := by
  have hl := ok.1
  intro L
  induction L with
  | nil =>
    intro n m k B v Sc Sm e hk hn hm hB hs hC hM l1 l2 h29 hE
    have := dropN e
    obtain ⟨n, rfl⟩ : ∃ z, n = z + 1 := ⟨n - 1, by omega⟩
    obtain ⟨m, rfl⟩ : ∃ z, m = z + 1 := ⟨m - 1, by omega⟩
    unfold fX5_oneLine_25 fX6_oneLine_31
    rw [h29, ile_t (by omega) (by omega), ile_t (by omega) (by omega)]
    exact ⟨_, _, _, rfl, rfl, c1.rf, m1.rf⟩
  | cons s L ih =>
    intro n m k B v Sc Sm e hk hn hm hB hs hC hM l1 l2 h29 hE
    obtain ⟨e1, e2, e3⟩ := dropC e
    simp only [List.length_cons] at hn hm hB
    obtain ⟨n, rfl⟩ : ∃ z, n = z + 1 := ⟨n - 1, by omega⟩
    obtain ⟨m, rfl⟩ : ∃ z, m = z + 1 := ⟨m - 1, by omega⟩
    have hs4 := hL4 s (List.mem_of_getElem? e1)
    have hF : 10 < lF := by simp [lF]
    have hmi := mi_lt (f := Sc.1 69) (x.2.2.length - 1) 1 0 x.2.2.length (by omega) (by omega)
    have hme : mi (Sc.1 69) (x.2.2.length - 1) 1 0 = mi (Sm.1 17) (x.2.2.length - 1) 1 0 := mi_eq (n := x.2.2.length) (fun j hj => by obtain ⟨e, -, g1, g2⟩ := hE j hj; rw [g1, g2]) _ _ _ (by omega) (by omega)
    obtain ⟨w, S1, T1, hw, k1, k2, k3, k4, k5⟩ := go_c hu ok hs hC hM (by omega) hE hmi hs4
    obtain ⟨r, Sc', Sm', j1, j2, j3, j4⟩ := ih n m (k + 1) (B + 25) (v + nI w) S1 T1 e2 (by omega) (by omega) (by omega) (by omega) (by rw [k4.1]; exact hs) (k4.rC (by omega) hu hl hC) (k5.rM (by omega) hM) (by rw [k4.2 70 (by omega)]; exact l1) (by rw [k5.2 16 (by omega)]; exact l2) (by rw [k5.2 0 (by omega)]; exact h29) k3
    refine ⟨r, Sc', Sm', ?_, ?_, k4.tr j3, k5.tr j4⟩
    · unfold fX5_oneLine_25 fX5_firstFree
      rw [ile_f (by omega) (by omega)]
      generalize lF = F at hF ⊢
      rw [c_free_l hu hs hC ok (x.2.2.length - 1) F 1 0 rfl (by omega) (by omega) (by omega), bd_s, gi_n (show k < 40 by omega) (by omega), cl_n (by omega), l1 k s e1, k1, bd_s, nI_add]
      exact j1
    · unfold fX6_oneLine_31
      rw [h29, ile_f (by omega) (by omega)]
      generalize lF = F at hF ⊢
      rw [m_free2_l hM ok (K := fX6_oneLine_31 m) (v := v) (k := k) (by omega) (x.2.2.length - 1) F 1 0 rfl (by omega) (by omega) (by omega), l2 k s e1, ← hme, k2, bd_s]
      exact j2
theorem t_oneLine {Sc : cM} {Sm : mM} {x : Xx} {im : Option Xx} {sh : Nat → Sh} (R : Rl Sc Sm x im sh) : Same (fX5_oneLine Sc) (fX6_oneLine Sm) := by
  have hn := R.now
  obtain ⟨ok, hC, hM, -⟩ := id R
  have hM9 := m9 hM
  have hl := ok.1
  have hb := ln_len ok.2
  by_cases h0 : x.2.2.length = 0
  · refine same_of R (r := -4) ?_ ?_
    · unfold fX5_oneLine; rw [gN hn.1, hC.1, i0e_t h0]
    · unfold fX6_oneLine; rw [sv_s, hM9.1, i0e_t h0]
  · obtain ⟨S1, e1, f1, l1⟩ := p_line hn.1 rfl hC ok
    obtain ⟨T1, g1, b1, l2, h29⟩ := m_line hM9 ok
    have hC1 := f1.rC (by omega) hn.1 hl hC
    have hM1 := b1.rM hM9
    obtain ⟨S2, T2, w1, w2, w3, w4, w5, w6⟩ := begin_c hn.1 ok (by rw [f1.1]) hC1 hM1
    have hC2 := w5.rC (by omega) hn.1 hl hC1
    have hM2 := w6.rM (by omega) hM1
    have hF : 110 < lF := by simp [lF]
    unfold fX5_oneLine fX6_oneLine
    generalize lF = F at hF ⊢
    obtain ⟨r, Sc', Sm', j1, j2, j3, j4⟩ := one_l hn.1 ok (by omega) (L0 := ln x.2.2) (by omega) (ln_lt ok.2) (ln x.2.2) F F 0 25 (nI (sL x.2.2)) S2 T2 rfl (by omega) (by omega) (by omega) (by omega) (by rw [w5.1, f1.1]) hC2 hM2 (by rw [w5.2 70 (by omega)]; exact l1) (by rw [w6.2 16 (by omega)]; exact l2) (by rw [w6.2 0 (by omega)]; exact h29) w4
    refine ⟨r, Sc', Sm', x, im, sh, ?_, ?_, R.step (((f1.kp (by omega)).tr (w5.kp (by omega))).tr (j3.kp (by omega))) (((k9.tr b1.kp).tr (w6.kp (by omega))).tr (j4.kp (by omega))) ok (j3.rC (by omega) hn.1 hl hC2) (j4.rM (by omega) hM2)⟩
    · rw [gN hn.1, hC.1, i0e_f (by omega) (by omega), e1, bd_s, w1, bd_s]
      exact j1
    · rw [sv_s, hM9.1, i0e_f (by omega) (by omega), g1, bv_s, w2, bv_s, w3, bd_s]
      exact j2
/-! ===== the least that all can wait ===== -/
def us : List Qq → Nat → List Nat
  | [], _ => []
  | q :: l, i => if q.1 = 5 then us l (i + 1) else i :: us l (i + 1)
theorem us_lt : ∀ (l : List Qq) (i : Nat), ∀ s ∈ us l i, s < i + l.length := by
  intro l
  induction l with
  | nil => intro i s hs; cases hs
  | cons q l ih =>
    intro i s hs
    simp only [us] at hs
    simp only [List.length_cons]
    split at hs
    · have := ih (i + 1) s hs; omega
    · rcases List.mem_cons.mp hs with rfl | hs
      · omega
      · have := ih (i + 1) s hs; omega
theorem us_len : ∀ (l : List Qq) (i : Nat), (us l i).length ≤ l.length := by
  intro l
  induction l with
  | nil => intro i; exact Nat.le_refl _
  | cons q l ih =>
    intro i
    have := ih (i + 1)
    simp only [us, List.length_cons]
    split
    · omega
    · simp only [List.length_cons]; omega
theorem c_us_l {u : Nat} (hu : u = 1 ∨ u = 2) {x : Xx} (ok : okX x) : ∀ (r : List Qq) (n a : Nat) (L : List Nat) (S : cM), x.2.2.drop a = r → a ≤ 5 → r.length < n → L.length ≤ a → S.2.1 = u → rC S u x → hL (S.1 71) L →
    ∃ S', fX5_gatherUsable_4 n S (nI L.length) (nI a) = some (nI (L ++ us r a).length, S') ∧ c1 71 S S' ∧ hL (S'.1 71) (L ++ us r a) := by
  have hl := ok.1
  intro r
  induction r with
  | nil =>
    intro n a L S e ha hn hb hs hC hl'
    have := dropN e
    obtain ⟨n, rfl⟩ : ∃ z, n = z + 1 := ⟨n - 1, by omega⟩
    unfold fX5_gatherUsable_4
    rw [hs, gN hu, hC.1, ile_t (by omega) (by omega)]
    simp only [us, List.append_nil]
    exact ⟨S, rfl, c1.rf, hl'⟩
  | cons q r ih =>
    intro n a L S e ha hn hb hs hC hl'
    obtain ⟨e1, e2, e3⟩ := dropC e
    simp only [List.length_cons] at hn
    obtain ⟨n, rfl⟩ : ∃ z, n = z + 1 := ⟨n - 1, by omega⟩
    have okq := okX_at ok e1
    have h7 := okq.1
    unfold fX5_gatherUsable_4 fX5_gatherUsable_41
    rw [hs, gN hu, gN hu, hC.1, ile_f (by omega) (by omega), g5 (by omega), cl_n (by omega), (hC.2.2.2 a q e1).1, nI_add]
    by_cases h5 : q.1 = 5
    · rw [ieq_t h5]
      simp only [us, if_pos h5]
      exact ih n (a + 1) L S e2 (by omega) (by omega) (by omega) hs hC hl'
    · rw [ieq_f h5 (by omega) (by omega), g5 (by omega), cl_n (by omega), sv_s, nI_add]
      obtain ⟨S', k1, k2, k3⟩ := ih n (a + 1) (L ++ [a]) (cS S 71 L.length (nI a)) e2 (by omega) (by omega) (by simp; omega) hs (c1.set.rC (by omega) hu hl hC) (by rw [cS_s]; exact hL_push hl')
      rw [List.length_append, List.length_cons, List.length_nil] at k1
      rw [List.append_assoc] at k1 k3
      simp only [us, if_neg h5]
      exact ⟨S', k1, c1.set.tr k2, k3⟩
theorem p_us {S : cM} {x : Xx} {u : Nat} (hu : u = 1 ∨ u = 2) (hs : S.2.1 = u) (hC : rC S u x) (ok : okX x) : ∃ S', fX5_gatherUsable S = some (nI (us x.2.2 0).length, S') ∧ c1 71 S S' ∧ hL (S'.1 71) (us x.2.2 0) := by
  have hl := ok.1
  have hF : 10 < lF := by simp [lF]
  unfold fX5_gatherUsable
  generalize lF = F at hF ⊢
  exact c_us_l hu ok x.2.2 F 0 [] S rfl (by omega) (by omega) (by simp) hs hC hL_nil
/-- the reference's tests behind its loop -/
def lsT (S : mM) (x1 : Int32) : Option (Int32 × mM) := if (nI 6) < (S.1 0 29) then some ((-4), S) else if (nI 3) < x1 then some ((-4), S) else if (S.1 0 29) ≤ 0 then fX6_least_75 S x1 else if x1 = 0 then some ((-4), S) else fX6_least_75 S x1
theorem m_us_l {x : Xx} (ok : okX x) : ∀ (r : List Qq) (n a : Nat) (L : List Nat) (S : mM), x.2.2.drop a = r → a ≤ 5 → r.length < n → L.length ≤ a → rM S x → hL (S.1 18) L →
    ∃ S', fX6_least_13 n S (nI L.length) (nI a) = lsT S' (nI (L ++ us r a).length) ∧ m1 18 S S' ∧ hL (S'.1 18) (L ++ us r a) := by
  have hl := ok.1
  intro r
  induction r with
  | nil =>
    intro n a L S e ha hn hb hM hl'
    have := dropN e
    obtain ⟨n, rfl⟩ : ∃ z, n = z + 1 := ⟨n - 1, by omega⟩
    unfold fX6_least_13
    rw [hM.1, ile_t (by omega) (by omega)]
    simp only [us, List.append_nil]
    exact ⟨S, rfl, m1.rf, hl'⟩
  | cons q r ih =>
    intro n a L S e ha hn hb hM hl'
    obtain ⟨e1, e2, e3⟩ := dropC e
    simp only [List.length_cons] at hn
    obtain ⟨n, rfl⟩ : ∃ z, n = z + 1 := ⟨n - 1, by omega⟩
    have okq := okX_at ok e1
    have h7 := okq.1
    unfold fX6_least_13 fX6_least_41
    rw [hM.1, ile_f (by omega) (by omega), g5 (by omega), cl_n (by omega), (hM.2.2.2 a q e1).1, nI_add]
    by_cases h5 : q.1 = 5
    · rw [ieq_t h5]
      simp only [us, if_pos h5]
      exact ih n (a + 1) L S e2 (by omega) (by omega) (by omega) hM hl'
    · rw [ieq_f h5 (by omega) (by omega), g5 (by omega), cl_n (by omega), sv_s, nI_add]
      obtain ⟨S', k1, k2, k3⟩ := ih n (a + 1) (L ++ [a]) (mS S 18 L.length (nI a)) e2 (by omega) (by omega) (by simp; omega) (m1.set.rM (by omega) hM) (by rw [mS_s]; exact hL_push hl')
      rw [List.length_append, List.length_cons, List.length_nil] at k1
      rw [List.append_assoc] at k1 k3
      simp only [us, if_neg h5]
      exact ⟨S', k1, m1.set.tr k2, k3⟩
theorem p_pow {S : cM} {b e : Nat} (he : e < 100) : ∀ (d n i w : Nat), e - i = d → i ≤ e → d < n → fX5_power_4 n S (nI b) (nI e) (nI w) (nI i) = some (nI (w * b ^ d), S) := by
  intro d
  induction d with
  | zero =>
    intro n i w h1 hi hn
    obtain ⟨n, rfl⟩ : ∃ z, n = z + 1 := ⟨n - 1, by omega⟩
    unfold fX5_power_4
    rw [ile_t (by omega) (by omega), Nat.pow_zero, Nat.mul_one]
  | succ d ih =>
    intro n i w h1 hi hn
    obtain ⟨n, rfl⟩ : ∃ z, n = z + 1 := ⟨n - 1, by omega⟩
    unfold fX5_power_4
    rw [ile_f (by omega) (by omega), pk_mul, nI_add, ih n (i + 1) (w * b) (by omega) (by omega) (by omega), Nat.pow_succ', Nat.mul_assoc]
theorem m_pow {S : mM} {b e : Nat} (he : e < 100) (h29 : S.1 0 29 = nI e) : ∀ (d n i w : Nat), e - i = d → i ≤ e → d < n → fX6_least_79 n S (nI b) (nI w) (nI i) = fX6_least_102 lF S (nI b) (nI (w * b ^ d)) (-1) (nI 0) := by
  intro d
  induction d with
  | zero =>
    intro n i w h1 hi hn
    obtain ⟨n, rfl⟩ : ∃ z, n = z + 1 := ⟨n - 1, by omega⟩
    unfold fX6_least_79
    rw [h29, ile_t (by omega) (by omega), Nat.pow_zero, Nat.mul_one]
  | succ d ih =>
    intro n i w h1 hi hn
    obtain ⟨n, rfl⟩ : ∃ z, n = z + 1 := ⟨n - 1, by omega⟩
    unfold fX6_least_79
    rw [h29, ile_f (by omega) (by omega), pk_mul, nI_add, ih n (i + 1) (w * b) (by omega) (by omega) (by omega), Nat.pow_succ', Nat.mul_assoc]
theorem part_l {u : Nat} (hu : u = 1 ∨ u = 2) {x : Xx} (ok : okX x) {L0 U : List Nat} (hLl : L0.length ≤ 6) (hL4 : ∀ s ∈ L0, s < 4) (hU3 : U.length ≤ 3) (hU : ∀ s ∈ U, s < x.2.2.length) (hU0 : L0 ≠ [] → U ≠ []) {K : mM → Int32 → Int32 → Int32 → Int32 → Option (Int32 × mM)} {ways best way : Int32} : ∀ (L : List Nat) (n m k B v rest : Nat) (Sc : cM) (Sm : mM), L0.drop k = L → k ≤ 6 → L.length < n → L.length < m → B + 25 * L.length < 2000 → v + 2000 * L.length < 20000 → rest < 2147483648 → Sc.2.1 = u → rC Sc u x → rM Sm x → hL (Sc.1 70) L0 → hL (Sm.1 16) L0 → hL (Sc.1 71) U → hL (Sm.1 18) U → Sm.1 0 29 = nI L0.length → eqE B x.2.2.length Sc Sm →
    ∃ w Sc' Sm', w < 20000 ∧ fX5_partedSum_12 n Sc (nI L0.length) (nI U.length) (nI v) (nI rest) (nI k) = some (nI w, Sc') ∧ fX6_least_126 K m Sm (nI U.length) ways best way (nI v) (nI rest) (nI k) = K Sm' (nI U.length) ways (if best < 0 then nI w else if best ≤ nI w then best else nI w) (way + nI 1) ∧ c1 69 Sc Sc' ∧ m1 17 Sm Sm' := by
  have hl := ok.1
  intro L
  induction L with
  | nil =>
    intro n m k B v rest Sc Sm e hk hn hm hB hv hr hs hC hM l1 l2 u1 u2 h29 hE
    have := dropN e
    obtain ⟨n, rfl⟩ : ∃ z, n = z + 1 := ⟨n - 1, by omega⟩
    obtain ⟨m, rfl⟩ : ∃ z, m = z + 1 := ⟨m - 1, by omega⟩
    refine ⟨v, Sc, Sm, by simp only [List.length_nil] at hv; omega, ?_, ?_, c1.rf, m1.rf⟩
    · unfold fX5_partedSum_12
      rw [ile_t (by omega) (by omega)]
    · unfold fX6_least_126 fX6_least_182 fX6_least_188
      rw [h29, ile_t (by omega) (by omega)]
      split
      · rfl
      · split <;> rfl
  | cons s L ih =>
    intro n m k B v rest Sc Sm e hk hn hm hB hv hr hs hC hM l1 l2 u1 u2 h29 hE
    obtain ⟨e1, e2, e3⟩ := dropC e
    simp only [List.length_cons] at hn hm hB hv
    obtain ⟨n, rfl⟩ : ∃ z, n = z + 1 := ⟨n - 1, by omega⟩
    obtain ⟨m, rfl⟩ : ∃ z, m = z + 1 := ⟨m - 1, by omega⟩
    have hs4 := hL4 s (List.mem_of_getElem? e1)
    have hUp : 0 < U.length := List.length_pos_iff.mpr (hU0 (fun h => by rw [h] at e3; simp at e3))
    have hj : rest % U.length < U.length := Nat.mod_lt _ hUp
    have hz : U[rest % U.length]? = some U[rest % U.length] := List.getElem?_eq_getElem hj
    have hzl := hU _ (List.mem_of_getElem? hz)
    generalize U[rest % U.length] = z at hz hzl
    obtain ⟨w, S1, T1, hw, k1, k2, k3, k4, k5⟩ := go_c hu ok hs hC hM (by omega) hE hzl hs4
    have hdiv : rest / U.length ≤ rest := Nat.div_le_self _ _
    obtain ⟨r, Sc', Sm', j0, j1, j2, j3, j4⟩ := ih n m (k + 1) (B + 25) (v + w) (rest / U.length) S1 T1 e2 (by omega) (by omega) (by omega) (by omega) (by omega) (by omega) (by rw [k4.1]; exact hs) (k4.rC (by omega) hu hl hC) (k5.rM (by omega) hM) (by rw [k4.2 70 (by omega)]; exact l1) (by rw [k5.2 16 (by omega)]; exact l2) (by rw [k4.2 71 (by omega)]; exact u1) (by rw [k5.2 18 (by omega)]; exact u2) (by rw [k5.2 0 (by omega)]; exact h29) k3
    refine ⟨r, Sc', Sm', j0, ?_, ?_, k4.tr j3, k5.tr j4⟩
    · unfold fX5_partedSum_12
      rw [ile_f (by omega) (by omega), i0l_f (by omega) (by omega), gz_n (by omega) (by omega), pk_rem (by omega) (by omega) (by omega), g5 (by omega), gi_n (show k < 40 by omega) (by omega), cl_n (by omega), cl_n (by omega), u1 _ z hz, l1 k s e1, k1, bd_s, gz_n (by omega) (by omega), nI_add, nI_add, pk_div (by omega) (by omega) (by omega)]
      exact j1
    · unfold fX6_least_126
      rw [h29, ile_f (by omega) (by omega), gz_n (by omega) (by omega), pk_rem (by omega) (by omega) (by omega), g5 (by omega), gi_n (show k < 40 by omega) (by omega), cl_n (by omega), cl_n (by omega), u2 _ z hz, l2 k s e1, k2, bd_s, gz_n (by omega) (by omega), nI_add, nI_add, pk_div (by omega) (by omega) (by omega)]
      exact j2
theorem least_l {u : Nat} (hu : u = 1 ∨ u = 2) {x : Xx} (ok : okX x) {L0 U : List Nat} (hLl : L0.length ≤ 6) (hL4 : ∀ s ∈ L0, s < 4) (hU3 : U.length ≤ 3) (hU : ∀ s ∈ U, s < x.2.2.length) (hU0 : L0 ≠ [] → U ≠ []) {ways : Nat} (hw1 : 1 ≤ ways) (hw2 : ways ≤ 1000) : ∀ (d n m k : Nat) (lc lm : Int32) (Sc : cM) (Sm : mM), ways - k = d → k ≤ ways → d < n → d < m → ((k = 0 ∧ lc = nI 2147483647 ∧ lm = -1) ∨ (∃ b, b < 20000 ∧ lc = nI b ∧ lm = nI b)) → Sc.2.1 = u → rC Sc u x → rM Sm x → hL (Sc.1 70) L0 → hL (Sm.1 16) L0 → hL (Sc.1 71) U → hL (Sm.1 18) U → Sm.1 0 29 = nI L0.length →
    ∃ r Sc' Sm', fX5_least_45 n Sc (nI L0.length) (nI U.length) (nI ways) lc (nI k) = some (r, Sc') ∧ fX6_least_102 m Sm (nI U.length) (nI ways) lm (nI k) = some (r, Sm') ∧ c1 69 Sc Sc' ∧ m1 17 Sm Sm' := by
  have hl := ok.1
  have hsl := sL_le ok.2
  intro d
  induction d with
  | zero =>
    intro n m k lc lm Sc Sm hd hk hn hm hb hs hC hM l1 l2 u1 u2 h29
    obtain ⟨n, rfl⟩ : ∃ z, n = z + 1 := ⟨n - 1, by omega⟩
    obtain ⟨m, rfl⟩ : ∃ z, m = z + 1 := ⟨m - 1, by omega⟩
    rcases hb with ⟨h0, -⟩ | ⟨b, hb, rfl, rfl⟩
    · omega
    · unfold fX5_least_45 fX6_least_102
      rw [ile_t (by omega) (by omega), ile_t (by omega) (by omega)]
      exact ⟨_, _, _, rfl, rfl, c1.rf, m1.rf⟩
  | succ d ih =>
    intro n m k lc lm Sc Sm hd hk hn hm hb hs hC hM l1 l2 u1 u2 h29
    obtain ⟨n, rfl⟩ : ∃ z, n = z + 1 := ⟨n - 1, by omega⟩
    obtain ⟨m, rfl⟩ : ∃ z, m = z + 1 := ⟨m - 1, by omega⟩
    obtain ⟨S2, T2, w1, w2, w3, w4, w5, w6⟩ := begin_c hu ok hs hC hM
    have hC2 := w5.rC (by omega) hu hl hC
    have hM2 := w6.rM (by omega) hM
    have hF : 110 < lF := by simp [lF]
    have a1 : hL (S2.1 70) L0 := by rw [w5.2 70 (by omega)]; exact l1
    have a2 : hL (T2.1 16) L0 := by rw [w6.2 16 (by omega)]; exact l2
    have a3 : hL (S2.1 71) U := by rw [w5.2 71 (by omega)]; exact u1
    have a4 : hL (T2.1 18) U := by rw [w6.2 18 (by omega)]; exact u2
    have a5 : T2.1 0 29 = nI L0.length := by rw [w6.2 0 (by omega)]; exact h29
    unfold fX5_least_45 fX6_least_102 fX5_partedSum
    rw [ile_f (by omega) (by omega), ile_f (by omega) (by omega), w1, bd_s, w2, bv_s, w3, bd_s]
    generalize lF = F at hF ⊢
    obtain ⟨v, S3, T3, j0, j1, j2, j3, j4⟩ := part_l hu ok hLl hL4 hU3 hU hU0 (K := fX6_least_102 m) (ways := nI ways) (best := lm) (way := nI k) L0 F F 0 25 (sL x.2.2) k S2 T2 rfl (by omega) (by omega) (by omega) (by omega) (by omega) (by omega) (by rw [w5.1]; exact hs) hC2 hM2 a1 a2 a3 a4 a5 w4
    rw [j1, bd_s, j2, nI_add]
    have st : (if nI v < lc then nI v else lc) = (if lm < 0 then nI v else if lm ≤ nI v then lm else nI v) ∧ ∃ b, b < 20000 ∧ (if nI v < lc then nI v else lc) = nI b := by
      rcases hb with ⟨h0, rfl, rfl⟩ | ⟨b, hb, rfl, rfl⟩
      · rw [ilt_t (by omega) (by omega), if_pos (by decide)]; exact ⟨rfl, v, j0, rfl⟩
      · rw [i0n_f (by omega)]
        by_cases c : v < b
        · rw [ilt_t (by omega) (by omega), ile_f (by omega) (by omega)]; exact ⟨rfl, v, j0, rfl⟩
        · rw [ilt_f (by omega) (by omega), ile_t (by omega) (by omega)]; exact ⟨rfl, b, hb, rfl⟩
    clear hb
    obtain ⟨st1, b, hb2, hb3⟩ := st
    obtain ⟨r, Sc', Sm', q1, q2, q3, q4⟩ := ih n m (k + 1) (nI b) (nI b) S3 T3 (by omega) (by omega) (by omega) (by omega) (Or.inr ⟨b, hb2, rfl, rfl⟩) (by rw [j3.1, w5.1]; exact hs) (j3.rC (by omega) hu hl hC2) (j4.rM (by omega) hM2) (by rw [j3.2 70 (by omega)]; exact a1) (by rw [j4.2 16 (by omega)]; exact a2) (by rw [j3.2 71 (by omega)]; exact a3) (by rw [j4.2 18 (by omega)]; exact a4) (by rw [j4.2 0 (by omega)]; exact a5)
    rw [← st1, hb3]
    exact ⟨r, Sc', Sm', q1, q2, (w5.tr j3).tr q3, (w6.tr j4).tr q4⟩
theorem t_least {Sc : cM} {Sm : mM} {x : Xx} {im : Option Xx} {sh : Nat → Sh} (R : Rl Sc Sm x im sh) : Same (fX5_least Sc) (fX6_least Sm) := by
  have hn := R.now
  obtain ⟨ok, hC, hM, -⟩ := id R
  have hM9 := m9 hM
  have hl := ok.1
  have hb := ln_len ok.2
  have hul := us_len x.2.2 0
  obtain ⟨S1, e1, f1, l1⟩ := p_line hn.1 rfl hC ok
  obtain ⟨T1, g1, b1, l2, h29⟩ := m_line hM9 ok
  have hC1 := f1.rC (by omega) hn.1 hl hC
  have hM1 := b1.rM hM9
  obtain ⟨S2, e2, f2, u1⟩ := p_us hn.1 (by rw [f1.1]) hC1 ok
  have hC2 := f2.rC (by omega) hn.1 hl hC1
  have hF : 2000 < lF := by simp [lF]
  obtain ⟨T2, g2, b2, u2⟩ : ∃ T2, fX6_least_13 lF T1 (nI 0) (nI 0) = lsT T2 (nI (us x.2.2 0).length) ∧ m1 18 T1 T2 ∧ hL (T2.1 18) (us x.2.2 0) := by
    generalize lF = F at hF ⊢
    exact m_us_l ok x.2.2 F 0 [] T1 rfl (by omega) (by omega) (by simp) hM1 hL_nil
  have hM2 := b2.rM (by omega) hM1
  have h29' : T2.1 0 29 = nI (ln x.2.2).length := by rw [b2.2 0 (by omega)]; exact h29
  have ck : cKp Sc S2 := (f1.kp (by omega)).tr (f2.kp (by omega))
  have mk : mkp Sm T2 := (k9.tr b1.kp).tr (b2.kp (by omega))
  have ec : fX5_least Sc = if nI 6 < nI (ln x.2.2).length then some (-4, S2) else if nI 3 < nI (us x.2.2 0).length then some (-4, S2) else if nI (ln x.2.2).length ≤ 0 then fX5_least_32 S2 (nI (ln x.2.2).length) (nI (us x.2.2 0).length) else if nI (us x.2.2 0).length = 0 then some (-4, S2) else fX5_least_32 S2 (nI (ln x.2.2).length) (nI (us x.2.2 0).length) := by
    unfold fX5_least
    rw [e1, bd_s, e2, bd_s]
  have em : fX6_least Sm = if nI 6 < nI (ln x.2.2).length then some (-4, T2) else if nI 3 < nI (us x.2.2 0).length then some (-4, T2) else if nI (ln x.2.2).length ≤ 0 then fX6_least_75 T2 (nI (us x.2.2 0).length) else if nI (us x.2.2 0).length = 0 then some (-4, T2) else fX6_least_75 T2 (nI (us x.2.2 0).length) := by
    unfold fX6_least
    rw [sv_s, g1, bv_s, g2]
    unfold lsT
    rw [h29']
  have no : Same (some ((-4 : Int32), S2)) (some ((-4 : Int32), T2)) := ⟨-4, S2, T2, x, im, sh, rfl, rfl, R.step ck mk ok hC2 hM2⟩
  rw [ec, em]
  by_cases c6 : 6 < (ln x.2.2).length
  · rw [ilt_t c6 (by omega), ilt_t c6 (by omega)]; exact no
  rw [ilt_f (a := 6) (by omega) (by omega), ilt_f (a := 6) (by omega) (by omega)]
  by_cases c3 : 3 < (us x.2.2 0).length
  · rw [ilt_t c3 (by omega), ilt_t c3 (by omega)]; exact no
  rw [ilt_f (a := 3) (by omega) (by omega), ilt_f (a := 3) (by omega) (by omega)]
  have go : (ln x.2.2 ≠ [] → us x.2.2 0 ≠ []) → Same (fX5_least_32 S2 (nI (ln x.2.2).length) (nI (us x.2.2 0).length)) (fX6_least_75 T2 (nI (us x.2.2 0).length)) := by
    intro h0
    have hw2 : (us x.2.2 0).length ^ (ln x.2.2).length ≤ 3 ^ 6 := by
      calc (us x.2.2 0).length ^ (ln x.2.2).length ≤ 3 ^ (ln x.2.2).length := Nat.pow_le_pow_left (by omega) _
        _ ≤ 3 ^ 6 := Nat.pow_le_pow_right (by omega) (by omega)
    have hw1 : 1 ≤ (us x.2.2 0).length ^ (ln x.2.2).length := by
      by_cases hn0 : ln x.2.2 = []
      · rw [hn0]; exact Nat.le_refl 1
      · exact Nat.pos_of_ne_zero (fun h => by
          have := (Nat.pow_eq_zero.mp h).1
          exact h0 hn0 (List.eq_nil_of_length_eq_zero this))
    have h729 : (3 : Nat) ^ 6 = 729 := by decide
    unfold fX5_least_32 fX6_least_75 fX5_power
    have p1 := p_pow (S := S2) (b := (us x.2.2 0).length) (e := (ln x.2.2).length) (by omega) (ln x.2.2).length lF 0 1 (by omega) (by omega) (by omega)
    have p2 := m_pow (S := T2) (b := (us x.2.2 0).length) (e := (ln x.2.2).length) (by omega) h29' (ln x.2.2).length lF 0 1 (by omega) (by omega) (by omega)
    rw [p1, bd_s, p2, Nat.one_mul]
    generalize lF = F at hF ⊢
    obtain ⟨r, Sc', Sm', q1, q2, q3, q4⟩ := least_l hn.1 ok (L0 := ln x.2.2) (U := us x.2.2 0) (by omega) (ln_lt ok.2) (by omega) (fun s hs => by have := us_lt x.2.2 0 s hs; omega) h0 hw1 (by omega) _ F F 0 (nI 2147483647) (-1) S2 T2 rfl (by omega) (by omega) (by omega) (Or.inl ⟨rfl, rfl, rfl⟩) (by rw [f2.1, f1.1]) hC2 hM2 (by rw [f2.2 70 (by omega)]; exact l1) (by rw [b2.2 16 (by omega)]; exact l2) u1 u2 h29'
    exact ⟨r, Sc', Sm', x, im, sh, q1, q2, R.step (ck.tr (q3.kp (by omega))) (mk.tr (q4.kp (by omega))) ok (q3.rC (by omega) hn.1 hl hC2) (q4.rM (by omega) hM2)⟩
  by_cases c0 : (ln x.2.2).length = 0
  · rw [i0l_t c0, i0l_t c0]
    exact go (fun h => absurd (List.eq_nil_of_length_eq_zero c0) h)
  · rw [i0l_f (by omega) (by omega), i0l_f (by omega) (by omega)]
    by_cases cu : (us x.2.2 0).length = 0
    · rw [i0e_t cu, i0e_t cu]; exact no
    · rw [i0e_f (by omega) (by omega), i0e_f (by omega) (by omega)]
      exact go (fun _ h => cu (by rw [h]; rfl))
