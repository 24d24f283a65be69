/-! ===== news ===== -/
theorem sneg {a b : Nat} (hb : b < 2147483648) (h : a < b) : nI a - nI b < 0 := by
  rw [Int32.lt_iff_toInt_lt, Int32.toInt_sub, nI_toInt (by omega), nI_toInt (by omega)]
  have : (0 : Int32).toInt = 0 := by decide
  rw [this]
  unfold Int.bmod
  simp only [show ((2 ^ 32 : Nat) : Int) = 4294967296 from rfl]
  split <;> omega
theorem clampE (v : Int32) : (if (-9999 : Int32) < (if v < nI 9999 then v else nI 9999) then (if v < nI 9999 then v else nI 9999) else (-9999 : Int32)) = (if v ≤ nI 9999 then (if (-9999 : Int32) ≤ v then v else -9999) else nI 9999) := by
  have h1 : (nI 9999).toInt = 9999 := by decide
  have h2 : (-9999 : Int32).toInt = -9999 := by decide
  by_cases c1 : v < nI 9999
  · have c1' : v ≤ nI 9999 := by rw [Int32.le_iff_toInt_le]; rw [Int32.lt_iff_toInt_lt] at c1; omega
    rw [if_pos c1, if_pos c1']
    by_cases c2 : (-9999 : Int32) < v
    · rw [if_pos c2, if_pos (by rw [Int32.le_iff_toInt_le]; rw [Int32.lt_iff_toInt_lt] at c2; omega)]
    · rw [if_neg c2]
      by_cases c3 : (-9999 : Int32) ≤ v
      · rw [if_pos c3]
        apply Int32.toInt_inj.mp
        rw [Int32.le_iff_toInt_le] at c3
        rw [Int32.lt_iff_toInt_lt] at c2
        omega
      · rw [if_neg c3]
  · rw [if_neg c1, if_pos (by decide)]
    by_cases c2 : v ≤ nI 9999
    · rw [if_pos c2]
      have e : v = nI 9999 := by
        apply Int32.toInt_inj.mp
        rw [Int32.le_iff_toInt_le] at c2
        rw [Int32.lt_iff_toInt_lt] at c1
        omega
      rw [e]
      rfl
    · rw [if_neg c2]
theorem late_c {t g : Nat} (ht : 1 ≤ t) (ht2 : t ≤ 100) (hg : g ≤ 5) : (if nI 0 < ((nI t - nI 1) - nI g) then ((nI t - nI 1) - nI g) else nI 0) = nI (t - 1 - g) := by
  rw [su_n ht]
  by_cases h : g ≤ t - 1
  · rw [su_n h]
    by_cases h0 : t - 1 - g = 0
    · rw [h0]; rfl
    · rw [ilt_t (by omega) (by omega)]
  · rw [show t - 1 - g = 0 by omega, if_neg]
    intro q
    have := sneg (a := t - 1) (b := g) (by omega) (by omega)
    rw [Int32.lt_iff_toInt_lt] at this q
    rw [nI_toInt (by omega)] at q
    have z : (0 : Int32).toInt = 0 := by decide
    omega
theorem news_l {g : Nat} (hg : g ≤ 5) {h : Int32} : ∀ (d n m t : Nat) (Sc : cM) (Sm : mM), 61 - t = d → 1 ≤ t → t ≤ 61 → d < n → d < m → (∀ k, k < t → Sc.1 73 k = Sm.1 19 k) →
    ∃ Sc' Sm', fX5_swingFrom_10 n Sc (nI g) h (nI t) = some Sc' ∧ fX6_findNews_10 m Sm (nI g) h (nI t) = some Sm' ∧ Sc'.2 = Sc.2 ∧ (∀ r, r ≠ 73 → Sc'.1 r = Sc.1 r) ∧ Sm'.2 = Sm.2 ∧ (∀ r, r ≠ 19 → Sm'.1 r = Sm.1 r) ∧ ∀ k, k < 61 → Sc'.1 73 k = Sm'.1 19 k := by
  intro d
  induction d with
  | zero =>
    intro n m t Sc Sm hd h1 ht hn hm hk
    obtain ⟨n, rfl⟩ : ∃ z, n = z + 1 := ⟨n - 1, by omega⟩
    obtain ⟨m, rfl⟩ : ∃ z, m = z + 1 := ⟨m - 1, by omega⟩
    unfold fX5_swingFrom_10 fX6_findNews_10
    rw [ilt_t (by omega) (by omega), ilt_t (by omega) (by omega)]
    exact ⟨Sc, Sm, rfl, rfl, rfl, fun _ _ => rfl, rfl, fun _ _ => rfl, fun k hk2 => hk k (by omega)⟩
  | succ d ih =>
    intro n m t Sc Sm hd h1 ht hn hm hk
    obtain ⟨n, rfl⟩ : ∃ z, n = z + 1 := ⟨n - 1, by omega⟩
    obtain ⟨m, rfl⟩ : ∃ z, m = z + 1 := ⟨m - 1, by omega⟩
    have hl : Sc.1 73 (t - 1 - g) = Sm.1 19 (t - 1 - g) := hk _ (by omega)
    have hp : Sc.1 73 (t - 1) = Sm.1 19 (t - 1) := hk _ (by omega)
    obtain ⟨v, hv⟩ : ∃ v, v = Sm.1 19 (t - 1) - nI 2 * ((Sm.1 19 (t - 1 - g) * h) / nI 10) := ⟨_, rfl⟩
    obtain ⟨w, hw⟩ : ∃ w, w = (if v ≤ nI 9999 then (if (-9999 : Int32) ≤ v then v else -9999) else nI 9999) := ⟨_, rfl⟩
    have ec : fX5_swingFrom_10 (n + 1) Sc (nI g) h (nI t) = fX5_swingFrom_10 n (cS Sc 73 t w) (nI g) h (nI (t + 1)) := by
      conv => lhs; unfold fX5_swingFrom_10
      rw [ilt_f (by omega) (by omega), late_c h1 (by omega) hg, su_n h1, gi_n (show t - 1 - g < 61 by omega) (by omega), gi_n (show t - 1 < 61 by omega) (by omega), gi_n (show t < 61 by omega) (by omega), cl_n (by omega), cl_n (by omega), cl_n (by omega), hl, hp, ← hv, clampE, ← hw, sv_s, nI_add]
    have em : fX6_findNews_10 (m + 1) Sm (nI g) h (nI t) = fX6_findNews_10 m (mS Sm 19 t w) (nI g) h (nI (t + 1)) := by
      have e40 : fX6_findNews_40 (fX6_findNews_10 m) Sm (nI g) h (nI t) (nI (t - 1 - g)) = fX6_findNews_10 m (mS Sm 19 t w) (nI g) h (nI (t + 1)) := by
        unfold fX6_findNews_40 fX6_findNews_100
        rw [su_n h1, gi_n (show t - 1 - g < 61 by omega) (by omega), gi_n (show t - 1 < 61 by omega) (by omega), cl_n (by omega), cl_n (by omega), ← hv, hw]
        simp only [gi_n (show t < 61 by omega) (show 61 < 2147483648 by omega), cl_n (show t < 2147483648 by omega), sv_s, nI_add]
        by_cases c1 : v ≤ nI 9999
        · rw [if_pos c1, if_pos c1]
          by_cases c2 : (-9999 : Int32) ≤ v
          · rw [if_pos c2, if_pos c2]
          · rw [if_neg c2, if_neg c2]
        · rw [if_neg c1, if_neg c1]
      conv => lhs; unfold fX6_findNews_10
      rw [ilt_f (by omega) (by omega), su_n h1]
      by_cases hgt : g ≤ t - 1
      · rw [su_n hgt, i0p_t (by omega)]
        exact e40
      · have := sneg (a := t - 1) (b := g) (by omega) (by omega)
        rw [if_neg (by rw [Int32.le_iff_toInt_le]; rw [Int32.lt_iff_toInt_lt] at this; omega)]
        rw [show t - 1 - g = 0 by omega] at e40
        exact e40
    rw [ec, em]
    obtain ⟨Sc', Sm', k1, k2, k3, k4, k5, k6, k7⟩ := ih n m (t + 1) (cS Sc 73 t w) (mS Sm 19 t w) (by omega) (by omega) (by omega) (by omega) (by omega) (fun k hk2 => by
      rw [cS_s, mS_s]
      by_cases c : k = t
      · rw [c, upd_s, upd_s]
      · rw [upd_n c, upd_n c]; exact hk k (by omega))
    exact ⟨Sc', Sm', k1, k2, k3, fun r hr => (k4 r hr).trans (cS_n hr), k5, fun r hr => (k6 r hr).trans (mS_n hr), k7⟩
/-- the numbers of news: as told, or refused alike -/
theorem news_c {Sc : cM} {Sm : mM} (x1 x2 x3 : Int32) : (fX5_areNews Sc x1 x2 x3 = some (nI 0, Sc) ∧ fX6_isNews Sm x1 x2 x3 = some (nI 0, Sm)) ∨ (fX5_areNews Sc x1 x2 x3 = some (nI 1, Sc) ∧ fX6_isNews Sm x1 x2 x3 = some (nI 1, Sm) ∧ ∃ g, x2 = nI g ∧ g ≤ 5) := by
  have z1 : (-99 : Int32).toInt = -99 := by decide
  have z2 : (nI 99).toInt = 99 := by decide
  have e1 : fX6_isNews Sm x1 x2 x3 = if x1 < -99 then some (nI 0, Sm) else if nI 99 < x1 then some (nI 0, Sm) else if x2 < nI 0 then some (nI 0, Sm) else if nI 5 < x2 then some (nI 0, Sm) else if x3 < nI 0 then some (nI 0, Sm) else if nI 20 < x3 then some (nI 0, Sm) else some (nI 1, Sm) := by
    unfold fX6_isNews
    rw [q_m99, q_99, q_0, q_5, q_20]
    by_cases c1 : x1 < -99
    · rw [in_no (Or.inl c1), bd_s, if_pos c1]; rfl
    · rw [if_neg c1]
      by_cases c2 : nI 99 < x1
      · rw [in_no (Or.inr c2), bd_s, if_pos c2]; rfl
      · rw [in_yes c1 c2, bd_s, i0e_f (by omega) (by omega), if_neg c2]
        by_cases c3 : x2 < nI 0
        · rw [in_no (Or.inl c3), bd_s, if_pos c3]; rfl
        · rw [if_neg c3]
          by_cases c4 : nI 5 < x2
          · rw [in_no (Or.inr c4), bd_s, if_pos c4]; rfl
          · rw [in_yes c3 c4, bd_s, i0e_f (by omega) (by omega), if_neg c4]
            by_cases c5 : x3 < nI 0
            · rw [in_no (Or.inl c5), bd_s, if_pos c5]; rfl
            · rw [if_neg c5]
              by_cases c6 : nI 20 < x3
              · rw [in_no (Or.inr c6), bd_s, if_pos c6]; rfl
              · rw [in_yes c5 c6, bd_s, i0e_f (by omega) (by omega), if_neg c6]
  have e2 : fX5_areNews Sc x1 x2 x3 = if x1 < -99 then some (nI 0, Sc) else if nI 99 < x1 then some (nI 0, Sc) else if x2 < nI 0 then some (nI 0, Sc) else if nI 5 < x2 then some (nI 0, Sc) else if x3 < nI 0 then some (nI 0, Sc) else if nI 20 < x3 then some (nI 0, Sc) else some (nI 1, Sc) := rfl
  rw [e1, e2]
  by_cases c1 : x1 < -99
  · rw [if_pos c1, if_pos c1]; exact Or.inl ⟨rfl, rfl⟩
  rw [if_neg c1, if_neg c1]
  by_cases c2 : nI 99 < x1
  · rw [if_pos c2, if_pos c2]; exact Or.inl ⟨rfl, rfl⟩
  rw [if_neg c2, if_neg c2]
  by_cases c3 : x2 < nI 0
  · rw [if_pos c3, if_pos c3]; exact Or.inl ⟨rfl, rfl⟩
  rw [if_neg c3, if_neg c3]
  by_cases c4 : nI 5 < x2
  · rw [if_pos c4, if_pos c4]; exact Or.inl ⟨rfl, rfl⟩
  rw [if_neg c4, if_neg c4]
  by_cases c5 : x3 < nI 0
  · rw [if_pos c5, if_pos c5]; exact Or.inl ⟨rfl, rfl⟩
  rw [if_neg c5, if_neg c5]
  by_cases c6 : nI 20 < x3
  · rw [if_pos c6, if_pos c6]; exact Or.inl ⟨rfl, rfl⟩
  rw [if_neg c6, if_neg c6]
  refine Or.inr ⟨rfl, rfl, ?_⟩
  obtain ⟨j, hj, rfl⟩ := nI_of2 (x := x2) (M := nI 5) (n := 5) (nI_toInt (by omega)) (by rw [← nI_0]; exact c3) (by
    rw [Int32.le_iff_toInt_le]
    rw [Int32.lt_iff_toInt_lt] at c4
    omega)
  exact ⟨j, rfl, hj⟩
theorem news_run {Sc : cM} {Sm : mM} {x : Xx} {im : Option Xx} {sh : Nat → Sh} (R : Rl Sc Sm x im sh) (x1 : Int32) {g : Nat} (hg : g ≤ 5) (h : Int32) : ∃ Sc' Sm', fX5_swingFrom Sc x1 (nI g) h = some Sc' ∧ fX6_findNews (mS Sm 0 9 (nI 0)) x1 (nI g) h = some Sm' ∧ Rl Sc' Sm' x im sh ∧ ∀ k, k < 61 → Sc'.1 73 k = Sm'.1 19 k := by
  have hn := R.now
  have hF : 60 < lF := by simp [lF]
  unfold fX5_swingFrom fX6_findNews
  generalize lF = F at hF ⊢
  obtain ⟨Sc', Sm', k1, k2, k3, k4, k5, k6, k7⟩ := news_l hg (h := h) 60 F F 1 (cS Sc 73 0 x1) (mS (mS Sm 0 9 (nI 0)) 19 0 x1) rfl (by omega) (by omega) (by omega) (by omega) (fun k hk => by
    have : k = 0 := by omega
    rw [this, cS_s, mS_s, upd_s, upd_s])
  refine ⟨Sc', Sm', ?_, ?_, ?_, k7⟩
  · rw [gi_n (show 0 < 61 by omega) (by omega), sv_s, cl_n (by omega)]; exact k1
  · rw [gi_n (show 0 < 61 by omega) (by omega), sv_s, cl_n (by omega)]; exact k2
  · have hc : ∀ r, r ≠ 73 → Sc'.1 r = Sc.1 r := fun r hr => (k4 r hr).trans (cS_n hr)
    have hs : Sc'.2 = Sc.2 := k3
    refine R.step ⟨hs, fun r hr => hc r (by unfold inX at hr; omega)⟩ (k9.tr ⟨by rw [k5]; rfl, ?_, ?_, fun r hr => ?_⟩) R.1 (rC_rows R.1.1 R.2.1 (fun r hr => hc r (by unfold inX at hr; omega))) (rM_core (m9 R.2.2.1) (fun k hk => ?_) (fun r r1 r2 => ?_))
    · rw [k6 9 (by omega), mS_n (by omega)]
    · rw [k6 0 (by omega), mS_n (by omega)]
    · rw [k6 r (by omega), mS_n (by omega)]
    · rw [k6 0 (by omega), mS_n (by omega)]
    · rw [k6 r (by omega), mS_n (by omega)]
theorem t_news {Sc : cM} {Sm : mM} {x : Xx} {im : Option Xx} {sh : Nat → Sh} (R : Rl Sc Sm x im sh) (x1 x2 x3 x4 : Int32) : Same (fX5_news Sc x1 x2 x3 x4) (fX6_news Sm x1 x2 x3 x4) := by
  rcases news_c (Sc := Sc) (Sm := mS Sm 0 9 (nI 0)) x1 x2 x3 with ⟨h1, h2⟩ | ⟨h1, h2, g, rfl, hg⟩
  · refine same_of R (r := -1000000001) ?_ ?_
    · unfold fX5_news; rw [h1, bd_s]; rfl
    · unfold fX6_news fX6_news_27; rw [sv_s, h2, bd_s]; rfl
  · rcases num_c x4 61 (by omega) with h | ⟨n, rfl, hnn⟩
    · refine same_of R (r := -1000000001) ?_ ?_
      · unfold fX5_news
        rw [h1, bd_s, i0e_f (by omega) (by omega)]
        by_cases h1 : x4 < 0
        · rw [if_pos h1]
        · rw [if_neg h1, if_neg (not_le_of (by omega) (h.resolve_left h1))]
      · unfold fX6_news fX6_news_27; rw [sv_s, h2, bd_s, i0e_f (by omega) (by omega), q_0, q_60, inr_no (by omega) h, bd_s]; rfl
    · obtain ⟨Sc', Sm', k1, k2, k3, k4⟩ := news_run R x1 hg x3
      refine ⟨Sm'.1 19 n, Sc', Sm', x, im, sh, ?_, ?_, k3⟩
      · unfold fX5_news
        rw [h1, bd_s, i0e_f (by omega) (by omega), i0n_f (by omega), ile_t (by omega) (by omega), k1, bv_s, gi_n hnn (by omega), cl_n (by omega), k4 n hnn]
      · unfold fX6_news
        rw [sv_s, h2, bd_s, i0e_f (by omega) (by omega), q_0, q_60, inr_yes (by omega) (by omega), bd_s, i0e_f (by omega) (by omega), k2, bv_s, gi_n hnn (by omega), cl_n (by omega)]
theorem wide_l {Sc : cM} {Sm : mM} (hk : ∀ k, k < 61 → Sc.1 73 k = Sm.1 19 k) {b : Nat} (hb : b ≤ 60) : ∀ (d n m t : Nat) (w : Int32), b + 1 - t = d → t ≤ b + 1 → d < n → d < m →
    ∃ r, fX5_widestSwing_5 n Sc (nI b) w (nI t) = some (r, Sc) ∧ fX6_greatest_5 m Sm (nI b) w (nI t) = some (r, Sm) := by
  intro d
  induction d with
  | zero =>
    intro n m t w hd ht hn hm
    obtain ⟨n, rfl⟩ : ∃ z, n = z + 1 := ⟨n - 1, by omega⟩
    obtain ⟨m, rfl⟩ : ∃ z, m = z + 1 := ⟨m - 1, by omega⟩
    unfold fX5_widestSwing_5 fX6_greatest_5
    rw [ilt_t (by omega) (by omega), ilt_t (by omega) (by omega)]
    exact ⟨w, rfl, rfl⟩
  | succ d ih =>
    intro n m t w hd ht hn hm
    obtain ⟨n, rfl⟩ : ∃ z, n = z + 1 := ⟨n - 1, by omega⟩
    obtain ⟨m, rfl⟩ : ∃ z, m = z + 1 := ⟨m - 1, by omega⟩
    obtain ⟨A, hA⟩ : ∃ A, A = (if (0 : Int32) ≤ Sm.1 19 t then Sm.1 19 t else 0 - Sm.1 19 t) := ⟨_, rfl⟩
    have em : fX6_greatest_5 (m + 1) Sm (nI b) w (nI t) = fX6_greatest_5 m Sm (nI b) (if w < A then A else w) (nI (t + 1)) := by
      have e39 : ∀ y, y = A → fX6_greatest_39 (fX6_greatest_5 m) Sm (nI b) w (nI t) y = fX6_greatest_5 m Sm (nI b) (if w < A then A else w) (nI (t + 1)) := by
        intro y hy
        subst hy
        unfold fX6_greatest_39 fX6_greatest_53
        rw [nI_add]
        by_cases c : w < y
        · rw [if_pos c, if_neg (by rw [Int32.le_iff_toInt_le]; rw [Int32.lt_iff_toInt_lt] at c; omega)]
        · rw [if_neg c, if_pos (by rw [Int32.le_iff_toInt_le]; rw [Int32.lt_iff_toInt_lt] at c; omega)]
      conv => lhs; unfold fX6_greatest_5
      rw [ilt_f (by omega) (by omega)]
      simp only [gi_n (show t < 61 by omega) (show 61 < 2147483648 by omega), cl_n (show t < 2147483648 by omega)]
      by_cases c : (0 : Int32) ≤ Sm.1 19 t
      · rw [if_pos c, e39 _ (by rw [hA, if_pos c])]
      · rw [if_neg c, e39 _ (by rw [hA, if_neg c, Int32.zero_sub])]
    have ec : fX5_widestSwing_5 (n + 1) Sc (nI b) w (nI t) = fX5_widestSwing_5 n Sc (nI b) (if w < A then A else w) (nI (t + 1)) := by
      conv => lhs; unfold fX5_widestSwing_5
      rw [ilt_f (by omega) (by omega), gi_n (show t < 61 by omega) (by omega), cl_n (by omega), hk t (by omega), ← hA, nI_add]
    rw [ec, em]
    exact ih n m (t + 1) _ (by omega) (by omega) (by omega) (by omega)
theorem t_grows {Sc : cM} {Sm : mM} {x : Xx} {im : Option Xx} {sh : Nat → Sh} (R : Rl Sc Sm x im sh) (x1 x2 x3 : Int32) : Same (fX5_grows Sc x1 x2 x3) (fX6_grows Sm x1 x2 x3) := by
  rcases news_c (Sc := Sc) (Sm := mS Sm 0 9 (nI 0)) x1 x2 x3 with ⟨h1, h2⟩ | ⟨h1, h2, g, rfl, hg⟩
  · refine same_of R (r := -1) ?_ ?_
    · unfold fX5_grows; rw [h1, bd_s]; rfl
    · unfold fX6_grows; rw [sv_s, h2, bd_s]; rfl
  · obtain ⟨Sc', Sm', k1, k2, k3, k4⟩ := news_run R x1 hg x3
    obtain ⟨a, a1, a2⟩ := wide_l k4 (b := 60) (by omega) 30 lF lF 31 (nI 0) rfl (by omega) (by simp [lF]) (by simp [lF])
    obtain ⟨b, b1, b2⟩ := wide_l k4 (b := 30) (by omega) 30 lF lF 1 (nI 0) rfl (by omega) (by simp [lF]) (by simp [lF])
    unfold fX5_grows fX6_grows fX5_widestSwing fX6_greatest
    rw [h1, bd_s, i0e_f (by omega) (by omega), k1, bv_s, a1, bd_s, b1, bd_s, sv_s, h2, bd_s, i0e_f (by omega) (by omega), k2, bv_s, a2, bd_s, b2, bd_s]
    by_cases c : a ≤ b
    · rw [if_pos c, if_pos c]; exact ⟨_, Sc', Sm', x, im, sh, rfl, rfl, k3⟩
    · rw [if_neg c, if_neg c]; exact ⟨_, Sc', Sm', x, im, sh, rfl, rfl, k3⟩
