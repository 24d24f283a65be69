/-! ===== lanes by sorts ===== -/
def dgt (t0 t1 t2 t3 : Nat) : Nat := t0 + 10 * t1 + 100 * t2 + 1000 * t3
def dg (n w : Nat) : Nat := dgt (w % n) (w / n % n) (w / n / n % n) (w / n / n / n % n)
def may (n D : Nat) : Bool := decide (D % 10 < n) && decide (D / 10 % 10 < n) && decide (D / 100 % 10 < n) && decide (D / 1000 < n)
theorem ways_1 : (List.range' 0 (1 ^ 4)).map (dg 1) = (List.range' 0 5000).filter (may 1) := by decide +kernel
theorem ways_2 : (List.range' 0 (2 ^ 4)).map (dg 2) = (List.range' 0 5000).filter (may 2) := by decide +kernel
theorem ways_3 : (List.range' 0 (3 ^ 4)).map (dg 3) = (List.range' 0 5000).filter (may 3) := by decide +kernel
theorem ways_4 : (List.range' 0 (4 ^ 4)).map (dg 4) = (List.range' 0 5000).filter (may 4) := by decide +kernel
theorem ways_5 : (List.range' 0 (5 ^ 4)).map (dg 5) = (List.range' 0 5000).filter (may 5) := by decide +kernel
theorem ways_n {n : Nat} (h1 : 1 ≤ n) (h5 : n ≤ 5) : (List.range' 0 (n ^ 4)).map (dg n) = (List.range' 0 5000).filter (may n) := by
  rcases (show n = 1 ∨ n = 2 ∨ n = 3 ∨ n = 4 ∨ n = 5 by omega) with rfl | rfl | rfl | rfl | rfl
  · exact ways_1
  · exact ways_2
  · exact ways_3
  · exact ways_4
  · exact ways_5
def tds (b : Nat) : Nat → Nat → List Nat
  | 0, _ => []
  | d + 1, w => w % b :: tds b d (w / b)
theorem tell_l {u : Nat} (hu : u = 1 ∨ u = 2) {x : Xx} (ok : okX x) (h1 : 1 ≤ x.2.2.length) : ∀ (d n w : Nat) (L : List Nat) (S : cM), 4 - L.length = d → L.length ≤ 4 → d < n → w < 2147483648 → S.2.1 = u → rC S u x → hL (S.1 72) L →
    ∃ S', fX5_tell_4 n S (nI w) (nI L.length) = some S' ∧ c1 72 S S' ∧ hL (S'.1 72) (L ++ tds x.2.2.length d w) := by
  have hl := ok.1
  intro d
  induction d with
  | zero =>
    intro n w L S e h4 hn hw hs hC hl'
    obtain ⟨n, rfl⟩ : ∃ z, n = z + 1 := ⟨n - 1, by omega⟩
    unfold fX5_tell_4
    rw [ile_t (by omega) (by omega)]
    simp only [tds, List.append_nil]
    exact ⟨S, rfl, c1.rf, hl'⟩
  | succ d ih =>
    intro n w L S e h4 hn hw hs hC hl'
    obtain ⟨n, rfl⟩ : ∃ z, n = z + 1 := ⟨n - 1, by omega⟩
    have hdiv : w / x.2.2.length ≤ w := Nat.div_le_self _ _
    have hC1 : rC (cS S 72 L.length (nI (w % x.2.2.length))) u x := c1.set.rC (by omega) hu hl hC
    obtain ⟨S', k1, k2, k3⟩ := ih n (w / x.2.2.length) (L ++ [w % x.2.2.length]) (cS S 72 L.length (nI (w % x.2.2.length))) (by simp; omega) (by simp; omega) (by omega) (by omega) hs hC1 (by rw [cS_s]; exact hL_push hl')
    rw [List.length_append, List.length_cons, List.length_nil] at k1
    rw [List.append_assoc] at k3
    refine ⟨S', ?_, c1.set.tr k2, k3⟩
    unfold fX5_tell_4
    rw [ile_f (by omega) (by omega), hs, gN hu, gN hu, hC.1, i0l_f (by omega) (by omega), gz_n (by omega) (by omega), gi_n (show L.length < 4 by omega) (by omega), cl_n (by omega), pk_rem (by omega) (by omega) (by omega), sv_s, cS_2, hs, gN hu, hC1.1, gz_n (by omega) (by omega), pk_div (by omega) (by omega) (by omega), nI_add]
    exact k1
theorem p_tell {u : Nat} (hu : u = 1 ∨ u = 2) {x : Xx} (ok : okX x) (h1 : 1 ≤ x.2.2.length) {S : cM} {w : Nat} (hw : w < 2147483648) (hs : S.2.1 = u) (hC : rC S u x) : ∃ S', fX5_tell S (nI w) = some S' ∧ c1 72 S S' ∧ hL (S'.1 72) (tds x.2.2.length 4 w) := by
  have hF : 10 < lF := by simp [lF]
  unfold fX5_tell
  generalize lF = F at hF ⊢
  exact tell_l hu ok h1 4 F w [] S rfl (by simp) (by omega) hw hs hC hL_nil
theorem p_digits {u : Nat} (hu : u = 1 ∨ u = 2) {x : Xx} (ok : okX x) (h1 : 1 ≤ x.2.2.length) {S : cM} {w : Nat} (hw : w < 2147483648) (hs : S.2.1 = u) (hC : rC S u x) : ∃ S', fX5_asDigits S (nI w) = some (nI (dg x.2.2.length w), S') ∧ c1 72 S S' := by
  obtain ⟨S', k1, k2, k3⟩ := p_tell hu ok h1 hw hs hC
  have hF : 10 < lF := by simp [lF]
  refine ⟨S', ?_, k2⟩
  unfold fX5_asDigits
  rw [k1, bv_s]
  generalize lF = F at hF ⊢
  obtain ⟨F, rfl⟩ : ∃ z, F = z + 5 := ⟨F - 5, by omega⟩
  have t0 := k3 0 _ rfl
  have t1 := k3 1 _ rfl
  have t2 := k3 2 _ rfl
  have t3 := k3 3 _ rfl
  have m3 : nI 3 + (-1 : Int32) = nI 2 := by decide
  have m2 : nI 2 + (-1 : Int32) = nI 1 := by decide
  have m1 : nI 1 + (-1 : Int32) = nI 0 := by decide
  unfold fX5_asDigits_9
  rw [i0n_f (by omega), gi_n (show 3 < 4 by omega) (by omega), cl_n (by omega), t3, pk_mul, nI_add, m3]
  unfold fX5_asDigits_9
  rw [i0n_f (by omega), gi_n (show 2 < 4 by omega) (by omega), cl_n (by omega), t2, pk_mul, nI_add, m2]
  unfold fX5_asDigits_9
  rw [i0n_f (by omega), gi_n (show 1 < 4 by omega) (by omega), cl_n (by omega), t1, pk_mul, nI_add, m1]
  unfold fX5_asDigits_9
  rw [i0n_f (by omega), gi_n (show 0 < 4 by omega) (by omega), cl_n (by omega), t0, pk_mul, nI_add]
  unfold fX5_asDigits_9
  rw [if_pos (by decide)]
  unfold dg dgt
  rw [show 10 * (10 * (10 * (10 * 0 + w / x.2.2.length / x.2.2.length / x.2.2.length % x.2.2.length) + w / x.2.2.length / x.2.2.length % x.2.2.length) + w / x.2.2.length % x.2.2.length) + w % x.2.2.length = w % x.2.2.length + 10 * (w / x.2.2.length % x.2.2.length) + 100 * (w / x.2.2.length / x.2.2.length % x.2.2.length) + 1000 * (w / x.2.2.length / x.2.2.length / x.2.2.length % x.2.2.length) by omega]
theorem zero_l {u p : Nat} (hu : u = 1 ∨ u = 2) {x : Xx} (ok : okX x) : ∀ (d n a : Nat) (S : cM), x.2.2.length - a = d → a ≤ 5 → d < n → S.2.1 = u → rC S u x → (∀ j, j < a → S.1 69 j = nI 0) →
    ∃ S', fX5_toldSum_7 p n S (nI a) = fX5_toldSum_36 p lF S' (nI 0) (nI 0) ∧ c1 69 S S' ∧ ∀ j, j < x.2.2.length → S'.1 69 j = nI 0 := by
  have hl := ok.1
  intro d
  induction d with
  | zero =>
    intro n a S e ha hn hs hC hE
    obtain ⟨n, rfl⟩ : ∃ z, n = z + 1 := ⟨n - 1, by omega⟩
    unfold fX5_toldSum_7
    rw [hs, gN hu, hC.1, ile_t (by omega) (by omega)]
    exact ⟨S, rfl, c1.rf, fun j hj => hE j (by omega)⟩
  | succ d ih =>
    intro n a S e ha hn hs hC hE
    obtain ⟨n, rfl⟩ : ∃ z, n = z + 1 := ⟨n - 1, by omega⟩
    obtain ⟨S', k1, k2, k3⟩ := ih n (a + 1) (cS S 69 a (nI 0)) (by omega) (by omega) (by omega) hs (c1.set.rC (by omega) hu hl hC) (fun j hj => by
      rw [cS_s]
      by_cases c : j = a
      · subst c; exact upd_s
      · rw [upd_n c]; exact hE j (by omega))
    unfold fX5_toldSum_7
    rw [hs, gN hu, hC.1, ile_f (by omega) (by omega), g5 (by omega), cl_n (by omega), sv_s, nI_add]
    exact ⟨S', k1, c1.set.tr k2, k3⟩
theorem m_zero_l : ∀ (d n a : Nat) (S : mM), 5 - a = d → a ≤ 5 → d < n → (∀ j, j < a → S.1 17 j = nI 0) →
    ∃ S', fX6_beginFree_2 n S (nI 1) (nI a) = some S' ∧ m1 17 S S' ∧ ∀ j, j < 5 → S'.1 17 j = nI 0 := by
  intro d
  induction d with
  | zero =>
    intro n a S e ha hn hE
    obtain ⟨n, rfl⟩ : ∃ z, n = z + 1 := ⟨n - 1, by omega⟩
    unfold fX6_beginFree_2
    rw [ile_t (by omega) (by omega)]
    exact ⟨S, rfl, m1.rf, fun j hj => hE j (by omega)⟩
  | succ d ih =>
    intro n a S e ha hn hE
    obtain ⟨n, rfl⟩ : ∃ z, n = z + 1 := ⟨n - 1, by omega⟩
    obtain ⟨S', k1, k2, k3⟩ := ih n (a + 1) (mS S 17 a (nI 0)) (by omega) (by omega) (by omega) (fun j hj => by
      rw [mS_s]
      by_cases c : j = a
      · subst c; exact upd_s
      · rw [upd_n c]; exact hE j (by omega))
    unfold fX6_beginFree_2 fX6_beginFree_42 fX6_beginFree_43
    rw [ile_f (by omega) (by omega), i0e_f (by omega) (by omega), g5 (by omega), cl_n (by omega), sv_s, nI_add]
    exact ⟨S', k1, m1.set.tr k2, k3⟩
theorem g800 {α : Type} {j : Nat} {k : Option α} (h : j < 800) : gi (nI j) 800 k = k := gi_n h (by omega)
theorem cl800 {a : Nat} (h : a < 800) : (nI a).toNatClampNeg = a := cl_n (by omega)
theorem dig_0 {D : Nat} (hD : D < 5000) : nI D - nI D / nI 10 * nI 10 = nI (D % 10) := pk_rem (by omega) (by omega) (by omega)
theorem dig_1 {D : Nat} (hD : D < 5000) : nI D / nI 10 - nI D / nI 10 / nI 10 * nI 10 = nI (D / 10 % 10) := by
  rw [pk_div (a := D) (d := 10) (by omega) (by omega) (by omega), pk_rem (by omega) (by omega) (by omega)]
theorem dig_2 {D : Nat} (hD : D < 5000) : nI D / nI 100 - nI D / nI 100 / nI 10 * nI 10 = nI (D / 100 % 10) := by
  rw [pk_div (a := D) (d := 100) (by omega) (by omega) (by omega), pk_rem (by omega) (by omega) (by omega)]
theorem dig_3 {D : Nat} (hD : D < 5000) : nI D / nI 1000 = nI (D / 1000) := pk_div (by omega) (by omega) (by omega)
/-- what comes of one more way -/
def upS (best least D v : Int32) : Int32 × Int32 := if best < 0 then (D, v) else if least ≤ v then (best, least) else (D, v)
theorem told_l {u : Nat} (hu : u = 1 ∨ u = 2) {x : Xx} (ok : okX x) {d : Nat} (hd : d < 8) {h : Sh} (hk : h.1 = 2) {L0 : List Nat} (hL0 : h.2.2 = L0.map nI) (hLl : L0.length ≤ 20) (hL4 : ∀ s ∈ L0, s < 4) {T0 T1 T2 T3 : Nat} (b0 : T0 < x.2.2.length) (b1 : T1 < x.2.2.length) (b2 : T2 < x.2.2.length) (b3 : T3 < x.2.2.length) {K : mM → Int32 → Int32 → Int32 → Int32 → Int32 → Option (Int32 × mM)} {x2 best least : Int32} : ∀ (L : List Nat) (n m k B v : Nat) (Sc : cM) (Sm : mM), L0.drop k = L → k ≤ 20 → L.length < n → L.length < m → B + 25 * L.length < 600 → v + 600 * L.length < 20000 → Sc.2.1 = u → rC Sc u x → rM Sm x → rsC Sc d h → rsM Sm d h → hL (Sc.1 72) [T0, T1, T2, T3] → eqE B x.2.2.length Sc Sm →
    ∃ w Sc' Sm', w < 20000 ∧ fX5_toldSum_36 (53 + d) n Sc (nI v) (nI k) = some (nI w, Sc') ∧ fX6_bySorts_128 K m Sm (nI d) x2 best least (nI (dgt T0 T1 T2 T3)) (nI v) (nI k) = K Sm' (nI d) x2 (upS best least (nI (dgt T0 T1 T2 T3)) (nI w)).1 (upS best least (nI (dgt T0 T1 T2 T3)) (nI w)).2 (nI (dgt T0 T1 T2 T3 + 1)) ∧ c1 69 Sc Sc' ∧ m1 17 Sm Sm' := by
  have hl := ok.1
  have hlen : h.2.2.length = L0.length := by rw [hL0, List.length_map]
  have hD : dgt T0 T1 T2 T3 < 5000 := by unfold dgt; omega
  have d0 : dgt T0 T1 T2 T3 % 10 = T0 := by unfold dgt; omega
  have d1 : dgt T0 T1 T2 T3 / 10 % 10 = T1 := by unfold dgt; omega
  have d2 : dgt T0 T1 T2 T3 / 100 % 10 = T2 := by unfold dgt; omega
  have d3 : dgt T0 T1 T2 T3 / 1000 = T3 := by unfold dgt; omega
  generalize dgt T0 T1 T2 T3 = D at hD d0 d1 d2 d3 ⊢
  intro L
  induction L with
  | nil =>
    intro n m k B v Sc Sm e hk1 hn hm hB hv hs hC hM sc sm ht hE
    have := dropN e
    obtain ⟨n, rfl⟩ : ∃ z, n = z + 1 := ⟨n - 1, by omega⟩
    obtain ⟨m, rfl⟩ : ∃ z, m = z + 1 := ⟨m - 1, by omega⟩
    refine ⟨v, Sc, Sm, by simp only [List.length_nil] at hv; omega, ?_, ?_, c1.rf, m1.rf⟩
    · unfold fX5_toldSum_36
      rw [(sc.2.2 hk).2.1, ile_t (by omega) (by omega)]
    · unfold fX6_bySorts_128 fX6_bySorts_240 fX6_bySorts_248 upS
      rw [g8 hd, cl_n (by omega), (sm.2.2 hk).2.1, ile_t (by omega) (by omega), nI_add]
      split
      · rfl
      · split <;> rfl
  | cons s L ih =>
    intro n m k B v Sc Sm e hk1 hn hm hB hv hs hC hM sc sm ht hE
    obtain ⟨e1, e2, e3⟩ := dropC e
    simp only [List.length_cons] at hn hm hB hv
    obtain ⟨n, rfl⟩ : ∃ z, n = z + 1 := ⟨n - 1, by omega⟩
    obtain ⟨m, rfl⟩ : ∃ z, m = z + 1 := ⟨m - 1, by omega⟩
    have hs4 := hL4 s (List.mem_of_getElem? e1)
    have ev : h.2.2[k]? = some (nI s) := by rw [hL0, List.getElem?_map, e1]; rfl
    obtain ⟨z, hz, hzl, hzm⟩ : ∃ z, Sc.1 72 s = nI z ∧ z < x.2.2.length ∧ ∀ (A : Int32 → Option (Int32 × mM)), (if nI s = 0 then A (nI D - nI D / nI 10 * nI 10) else if nI s = nI 1 then A (nI D / nI 10 - nI D / nI 10 / nI 10 * nI 10) else if nI s = nI 2 then A (nI D / nI 100 - nI D / nI 100 / nI 10 * nI 10) else A (nI D / nI 1000)) = A (nI z) := by
      rw [dig_0 hD, dig_1 hD, dig_2 hD, dig_3 hD, d0, d1, d2, d3]
      rcases (show s = 0 ∨ s = 1 ∨ s = 2 ∨ s = 3 by omega) with rfl | rfl | rfl | rfl
      · exact ⟨T0, ht 0 _ rfl, b0, fun A => rfl⟩
      · exact ⟨T1, ht 1 _ rfl, b1, fun A => rfl⟩
      · exact ⟨T2, ht 2 _ rfl, b2, fun A => rfl⟩
      · exact ⟨T3, ht 3 _ rfl, b3, fun A => rfl⟩
    clear d0 d1 d2 d3 b0 b1 b2 b3
    obtain ⟨w, S1, T1, hw, k1, k2, k3, k4, k5⟩ := go_c hu ok hs hC hM (by omega) hE hzl hs4
    obtain ⟨r, Sc', Sm', j0, j1, j2, j3, j4⟩ := ih n m (k + 1) (B + 25) (v + w) S1 T1 e2 (by omega) (by omega) (by omega) (by omega) (by omega) (by rw [k4.1]; exact hs) (k4.rC (by omega) hu hl hC) (k5.rM (by omega) hM) (rsC_keep hd sc (fun r hr => k4.2 r (by omega))) (rsM_keep sm (k5.kp (by omega))) (by rw [k4.2 72 (by omega)]; exact ht) k3
    refine ⟨r, Sc', Sm', j0, ?_, ?_, k4.tr j3, k5.tr j4⟩
    · unfold fX5_toldSum_36
      rw [(sc.2.2 hk).2.1, ile_f (by omega) (by omega), gi_n (show k < 100 by omega) (by omega), cl_n (a := k) (by omega), show 53 + d + 8 = 61 + d by omega, (sc.2.2 hk).2.2 k _ ev, gi_n (show s < 4 by omega) (by omega), cl_n (by omega), hz, k1, bd_s, nI_add, nI_add]
      exact j1
    · have hk8 : 100 * d + k < 800 := by omega
      unfold fX6_bySorts_128
      rw [g8 hd, cl_n (a := d) (by omega), (sm.2.2 hk).2.1, ile_f (by omega) (by omega), pk_mul, nI_add, g800 hk8, cl800 hk8, (sm.2.2 hk).2.2 k _ ev, Int32.toInt32_toInt64]
      rw [hzm (fun z => fX6_bySorts_207 K (fX6_bySorts_128 K m) Sm (nI d) x2 best least (nI D) (nI v) (nI k) (nI s) z)]
      unfold fX6_bySorts_207
      rw [k2, bd_s, nI_add, nI_add]
      exact j2
theorem m_step {S : mM} {x : Xx} (hM : rM S x) (hl : x.2.2.length ≤ 5) {m D : Nat} (hD : D < 5000) {x1 x2 best least : Int32} : fX6_bySorts_42 (m + 1) S x1 x2 best least (nI D) = if may x.2.2.length D = true then bv (fX6_beginFree S (nI 1)) fun S10 => fX6_bySorts_128 (fX6_bySorts_42 m) lF S10 x1 x2 best least (nI D) (nI 0) (nI 0) else fX6_bySorts_42 m S x1 x2 best least (nI (D + 1)) := by
  conv => lhs; unfold fX6_bySorts_42
  unfold fX6_bySorts_109 fX6_bySorts_110 fX6_bySorts_248
  rw [ile_f (by omega) (by omega), hM.1, dig_0 hD, dig_1 hD, dig_2 hD, dig_3 hD, if_pos nI_0, if_neg (nI_ne0 (show 0 < 1 by omega) (by omega)), nI_add]
  by_cases a0 : D % 10 < x.2.2.length
  · rw [ile_f (by omega) (by omega)]
    by_cases a1 : D / 10 % 10 < x.2.2.length
    · rw [ile_f (by omega) (by omega)]
      by_cases a2 : D / 100 % 10 < x.2.2.length
      · rw [ile_f (by omega) (by omega)]
        by_cases a3 : D / 1000 < x.2.2.length
        · rw [ile_f (by omega) (by omega), if_pos (by unfold may; simp [a0, a1, a2, a3])]
        · rw [ile_t (by omega) (by omega), if_neg (by unfold may; simp [a3])]
      · rw [ile_t (by omega) (by omega), if_neg (by unfold may; simp [a2])]
    · rw [ile_t (by omega) (by omega), if_neg (by unfold may; simp [a1])]
  · rw [ile_t (by omega) (by omega), if_neg (by unfold may; simp [a0])]
