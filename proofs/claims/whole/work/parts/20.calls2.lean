/-! ===== changes ===== -/
theorem ch_c {Sc : cM} {Sm : mM} {x : Xx} {im : Option Xx} {sh : Nat → Sh} (R : Rl Sc Sm x im sh) {S9 : mM} (hM9 : rM S9 x) (x1 x2 x3 : Int32) :
    (∃ rc rm : Int32, fX5_changeRefusal Sc x1 x2 x3 = some (rc, Sc) ∧ fX6_wrongChange S9 x1 x2 x3 = some (rm, S9) ∧ ¬ rc = 0 ∧ ¬ (0 : Int32) ≤ rm ∧ rm - nI 1000000000 = rc) ∨
    ∃ a i t q q', x1 = nI a ∧ x2 = nI i ∧ x3 = nI t ∧ x.2.2[a]? = some q ∧ x.2.2[t]? = some q' ∧ 1 ≤ i ∧ i < q.2.2.2.2.length ∧ a ≠ t ∧ q'.2.2.2.2.length < 8 ∧ fX5_changeRefusal Sc x1 x2 x3 = some (nI 0, Sc) ∧ fX6_wrongChange S9 x1 x2 x3 = some (nI 0, S9) := by
  have hn := R.now
  obtain ⟨ok, hC, hM, -⟩ := id R
  have hl := ok.1
  have r1 : ∀ (h1 : fX5_changeRefusal Sc x1 x2 x3 = some (-1000000001, Sc)) (h2 : fX6_wrongChange S9 x1 x2 x3 = some (-1, S9)), (∃ rc rm : Int32, fX5_changeRefusal Sc x1 x2 x3 = some (rc, Sc) ∧ fX6_wrongChange S9 x1 x2 x3 = some (rm, S9) ∧ ¬ rc = 0 ∧ ¬ (0 : Int32) ≤ rm ∧ rm - nI 1000000000 = rc) := fun h1 h2 => ⟨_, _, h1, h2, by decide, by decide, by decide⟩
  rcases lane_c x hl x1 with h | ⟨a, q, rfl, hq, ha, ha5⟩
  · refine Or.inl (r1 ?_ ?_)
    · unfold fX5_changeRefusal
      by_cases h1 : x2 < nI 1
      · rw [if_pos h1]
      · rw [if_neg h1, gN hn.1, hasCar_no1 hC h, bd_s]; rfl
    · unfold fX6_wrongChange; rw [m_isCar_no1 hM9 hl h, bd_s]; rfl
  · have okq := okX_at ok hq
    have hlen := okq.2.2.2.1
    rcases num_c x2 q.2.2.2.2.length (by omega) with h | ⟨i, rfl, hi⟩
    · refine Or.inl (r1 ?_ ?_)
      · unfold fX5_changeRefusal
        by_cases h1 : x2 < nI 1
        · rw [if_pos h1]
        · rw [if_neg h1, gN hn.1, hasCar_no2 hC ok hq h, bd_s]; rfl
      · unfold fX6_wrongChange; rw [m_isCar_no2 hM9 ok hq h, bd_s]; rfl
    · by_cases hi0 : i = 0
      · subst hi0
        refine Or.inl (r1 ?_ ?_)
        · unfold fX5_changeRefusal; rw [if_pos (by decide)]
        · unfold fX6_wrongChange; rw [m_isCar_yes hM9 ok hq hi, bd_s]; rfl
      · rcases lane_c x hl x3 with h | ⟨t, q', rfl, hq', ht, ht5⟩
        · refine Or.inl (r1 ?_ ?_)
          · unfold fX5_changeRefusal
            rw [ilt_f (by omega) (by omega), gN hn.1, hasCar_yes hC ok hq hi, bd_s, i0e_f (by omega) (by omega), gN hn.1, has_no hC h, bd_s]; rfl
          · unfold fX6_wrongChange
            rw [m_isCar_yes hM9 ok hq hi, bd_s, i0e_f (by omega) (by omega), i0e_f (by omega) (by omega), m_isLane_no hM9.1 hl h, bd_s]; rfl
        · have okq' := okX_at ok hq'
          have hlen' := okq'.2.2.2.1
          have e1 : fX5_changeRefusal Sc (nI a) (nI i) (nI t) = if nI a = nI t then some (-1000000001, Sc) else if decide (q'.2.2.2.2.length < 8) = true then (if qO q' = true then some (nI 0, Sc) else some (-1000000003, Sc)) else some (-1000000002, Sc) := by
            unfold fX5_changeRefusal
            rw [ilt_f (by omega) (by omega), gN hn.1, hasCar_yes hC ok hq hi, bd_s, i0e_f (by omega) (by omega), gN hn.1, has_yes hC ok ht, bd_s, i0e_f (by omega) (by omega), gN hn.1, g5 ht5, cl_n (by omega), p_hasRoom (hC.2.2.2 t q' hq') okq', bd_s, b2_if, gN hn.1, p_isOpen (hC.2.2.2 t q' hq') okq', bd_s, b2_if, g5 ht5]
          have e2 : fX6_wrongChange S9 (nI a) (nI i) (nI t) = if nI a = nI t then some (-1, S9) else if decide (q'.2.2.2.2.length < 8) = true then (if qO q' = true then some (nI 0, S9) else some (-3, S9)) else some (-2, S9) := by
            unfold fX6_wrongChange
            rw [m_isCar_yes hM9 ok hq hi, bd_s, i0e_f (by omega) (by omega), i0e_f (by omega) (by omega), m_isLane_yes hM9.1 hl ht, bd_s, i0e_f (by omega) (by omega), g5 ht5, cl_n (by omega), (hM9.2.2.2 t q' hq').2.2.1, m_isOpen (hM9.2.2.2 t q' hq') okq' ht5, bd_s, b2_if]
            by_cases h8 : q'.2.2.2.2.length < 8
            · rw [ieq_f (show q'.2.2.2.2.length ≠ 8 by omega) (by omega) (by omega)]; simp [h8]
            · rw [ieq_t (show q'.2.2.2.2.length = 8 by omega)]; simp [h8]
          rw [e1, e2]
          by_cases hat : a = t
          · rw [if_pos (by rw [hat]), if_pos (by rw [hat])]
            exact Or.inl ⟨_, _, rfl, rfl, by decide, by decide, by decide⟩
          · rw [ieq_f hat (by omega) (by omega), ieq_f hat (by omega) (by omega)]
            by_cases h8 : q'.2.2.2.2.length < 8
            · simp only [h8, decide_true, if_true]
              cases hO : qO q' with
              | false => exact Or.inl ⟨_, _, rfl, rfl, by decide, by decide, by decide⟩
              | true => exact Or.inr ⟨a, i, t, q, q', rfl, rfl, rfl, hq, hq', by omega, hi, hat, h8, rfl, rfl⟩
            · simp only [h8, decide_false, Bool.false_eq_true, if_false]
              exact Or.inl ⟨_, _, rfl, rfl, by decide, by decide, by decide⟩
theorem t_changes {Sc : cM} {Sm : mM} {x : Xx} {im : Option Xx} {sh : Nat → Sh} (R : Rl Sc Sm x im sh) (x1 x2 x3 : Int32) : Same (fX5_changes Sc x1 x2 x3) (fX6_changes Sm x1 x2 x3) := by
  have hn := R.now
  obtain ⟨ok, hC, hM, -⟩ := id R
  have hM9 := m9 hM
  rcases ch_c R hM9 x1 x2 x3 with ⟨rc, rm, h1, h2, h3, h4, h5⟩ | ⟨a, i, t, q, q', rfl, rfl, rfl, hq, hq', hi1, hi, hne, h8, h1, h2⟩
  · refine same_of R (r := rc) ?_ ?_
    · unfold fX5_changes; rw [h1, bd_s, if_neg h3]
    · unfold fX6_changes; rw [sv_s, h2, bd_s, if_neg h4, h5]
  · obtain ⟨S1, e1, r1, f1⟩ := p_move (by omega) hC ok hq hq' hi hne h8
    obtain ⟨S2, e2, r2, f2⟩ := m_move hM9 ok hq hq' hi hi1 hne h8
    have ok' := xV_ok ok hq hq' hi hi1 h8
    refine ⟨nI (sA x.2.2) - nI (sA (xV x a i t).2.2), S1, S2, _, im, sh, ?_, ?_, R.step (f1.kp hn.1) (k9.tr f2.kp) ok' r1 r2⟩
    · unfold fX5_changes
      rw [h1, bd_s, if_pos nI_0, gN hn.1, p_all hC ok, bd_s, gN hn.1, e1, bv_s, show S1.2.1 = Sc.2.1 by rw [f1.1], gN hn.1, p_all r1 ok', bd_s]
    · unfold fX6_changes
      rw [sv_s, h2, bd_s, if_pos (by decide), m_all hM9 ok, bd_s, e2, bv_s, m_all r2 ok', bd_s]
/-- the class tries in mind what the reference tries and takes back -/
theorem t_change {Sc : cM} {Sm : mM} {x : Xx} {im : Option Xx} {sh : Nat → Sh} (R : Rl Sc Sm x im sh) (x1 x2 x3 x4 : Int32) : Same (fX5_change Sc x1 x2 x3 x4) (fX6_change Sm x1 x2 x3 x4) := by
  have hn := R.now
  obtain ⟨ok, hC, hM, -⟩ := id R
  have hM9 := m9 hM
  rcases num_c x4 2 (by omega) with h | ⟨w, rfl, hw⟩
  · refine same_of R (r := -1000000001) ?_ ?_
    · unfold fX5_change
      by_cases h1 : x4 < 0
      · rw [if_pos h1]
      · rw [if_neg h1, if_neg (by
          have := lt_of_le (by omega) (h.resolve_left h1)
          rw [Int32.lt_iff_toInt_lt] at this
          rw [Int32.le_iff_toInt_le]
          omega)]
    · unfold fX6_change fX6_change_27
      rw [sv_s, q_0, q_1, inr_no (by omega) h, bd_s]
      rfl
  · rcases ch_c R hM9 x1 x2 x3 with ⟨rc, rm, h1, h2, h3, h4, h5⟩ | ⟨a, i, t, q, q', rfl, rfl, rfl, hq, hq', hi1, hi, hne, h8, h1, h2⟩
    · refine same_of R (r := rc) ?_ ?_
      · unfold fX5_change; rw [i0n_f (by omega), ile_t (by omega) (by omega), h1, bd_s, if_neg h3]
      · unfold fX6_change fX6_change_27; rw [sv_s, q_0, q_1, inr_yes (by omega) (by omega), bd_s, i0e_f (by omega) (by omega), h2, bd_s, if_neg h4, h5]
    · have ok' := xV_ok ok hq hq' hi hi1 h8
      by_cases hw0 : w = 0
      · subst hw0
        refine same_of R (r := xG x a i t) ?_ ?_
        · unfold fX5_change; rw [i0n_f (by omega), ile_t (by omega) (by omega), h1, bd_s, if_pos nI_0, if_pos nI_0, gN hn.1, p_gain hC ok hq hq' hi, bd_s]
        · unfold fX6_change fX6_change_27; rw [sv_s, q_0, q_1, inr_yes (by omega) (by omega), bd_s, i0e_f (by omega) (by omega), h2, bd_s, if_pos (by decide), if_pos nI_0, m_gain hM9 ok hq hq' hi, bd_s]
      · -- in mind
        obtain ⟨S1, e1, r1, f1⟩ := p_like (u0 := Sc.2.2) (u1 := Sc.2.1) (by omega) (by omega) (Ne.symm hn.2.2) ok hC
        have s1 : S1.2 = Sc.2 := f1.1
        obtain ⟨S2, e2, r2, f2⟩ := p_move (by omega) r1 ok hq hq' hi hne h8
        have s2 : S2.2 = Sc.2 := f2.1.trans s1
        have hC2 : rC S2 Sc.2.1 x := rC_keep ok.1 hC (f1.tr f2) (by omega) (by omega) hn.2.2
        obtain ⟨T1, g1, a1, b1, c1, d1, d2, d3⟩ := m_open hM9 ok
        obtain ⟨T2, g2, a2, b2⟩ := m_move a1 ok hq hq' hi hi1 hne h8
        obtain ⟨T3, g3, a3, c3, d4, d5, d6⟩ := m_close (S := T2) (x := x) (by rw [b2.2.2 8 (by omega)]; exact b1) ok
        refine ⟨nI (sA x.2.2) - nI (sA (xV x a i t).2.2), S2, T3, _, im, sh, ?_, ?_, R.step ((f1.tr f2).kp hn.2.1) (((k9.tr c1).tr b2.kp).tr c3) ok hC2 a3⟩
        · unfold fX5_change fX5_brings
          rw [i0n_f (by omega), ile_t (by omega) (by omega), h1, bd_s, if_pos nI_0, i0e_f (by omega) (by omega), gN hn.2.1, gN hn.1, e1, bv_s, s1, gN hn.2.1, e2, bv_s, s2, gN hn.1, p_all hC2 ok, bd_s, s2, gN hn.2.1, p_all r2 ok', bd_s, bd_s]
        · unfold fX6_change fX6_change_27 fX6_bringsOf
          rw [sv_s, q_0, q_1, inr_yes (by omega) (by omega), bd_s, i0e_f (by omega) (by omega), h2, bd_s, if_pos (by decide), i0e_f (by omega) (by omega), m_all hM9 ok, bd_s, g1, bv_s, g2, bv_s, m_all a2 ok', bd_s, g3, bv_s, bd_s]
theorem t_paysMost {Sc : cM} {Sm : mM} {x : Xx} {im : Option Xx} {sh : Nat → Sh} (R : Rl Sc Sm x im sh) (x1 : Int32) : Same (fX5_paysMost Sc x1) (fX6_paysMost Sm x1) := by
  have hn := R.now
  obtain ⟨ok, hC, hM, -⟩ := id R
  have hM9 := m9 hM
  rcases num_c x1 100 (by omega) with h | ⟨c, rfl, hc⟩
  · refine same_of R (r := -1) ?_ ?_
    · unfold fX5_paysMost fX5_paysMost_10
      by_cases h1 : x1 < 0
      · rw [if_pos h1]
      · rw [if_neg h1, if_neg (by
          have := lt_of_le (by omega) (h.resolve_left h1)
          rw [Int32.lt_iff_toInt_lt] at this
          rw [Int32.le_iff_toInt_le]
          omega)]
    · unfold fX6_paysMost
      rw [sv_s, q_0, q_99, inr_no (by omega) h, bd_s]
      rfl
  · refine same_of R (r := xP x (nI c)) ?_ ?_
    · unfold fX5_paysMost; rw [i0n_f (by omega), ile_t (by omega) (by omega), gN hn.1, p_gg hC ok, bd_s]
    · unfold fX6_paysMost; rw [sv_s, q_0, q_99, inr_yes (by omega) (by omega), bd_s, i0e_f (by omega) (by omega), m_gg hM9 ok, bd_s]
/-- both go on changing, alike, until none pays or 40 are made -/
theorem rests_l {u : Nat} (hu : u = 1 ∨ u = 2) {x0 : Xx} (ok0 : okX x0) {c w : Nat} : ∀ (d n m k : Nat) (x : Xx) (Sc : cM) (Sm : mM), 40 - k = d → k ≤ 40 → d < n → d < m → okX x → Sc.2.2 = u → rC Sc u x → rM Sm x → rI (Sm.1 8) x0 →
    ∃ r Sc' Sm', fX5_rests_44 n Sc (nI c) (nI w) (nI k) (xP x (nI c)) = some (r, Sc') ∧ fX6_rests_42 m Sm (nI c) (nI w) (nI k) (xP x (nI c)) = some (r, Sm') ∧ frx Sc Sc' u ∧ rM Sm' x0 ∧ mkp Sm Sm' := by
  -- the end
  have fin : ∀ (k : Nat) (x : Xx) (Sc : cM) (Sm : mM), okX x → Sc.2.2 = u → rC Sc u x → rM Sm x → rI (Sm.1 8) x0 →
      ∃ r Sc' Sm', fX5_rests_96 Sc (nI w) (nI k) = some (r, Sc') ∧ fX6_rests_88 Sm (nI w) (nI k) = some (r, Sm') ∧ frx Sc Sc' u ∧ rM Sm' x0 ∧ mkp Sm Sm' := by
    intro k x Sc Sm ok hs hC hM hI
    obtain ⟨T3, g3, a3, c3, -⟩ := m_close hI ok0
    unfold fX5_rests_96 fX6_rests_88 fX6_rests_100
    rw [hs, gN hu, p_all hC ok, bd_s, m_all hM ok, bd_s, g3, bv_s, bv_s]
    by_cases hw : nI w = 0
    · rw [if_pos hw, if_pos hw]; exact ⟨_, _, _, rfl, rfl, frx.rf, a3, c3⟩
    · rw [if_neg hw, if_neg hw]; exact ⟨_, _, _, rfl, rfl, frx.rf, a3, c3⟩
  intro d
  induction d with
  | zero =>
    intro n m k x Sc Sm hd hk hn hm ok hs hC hM hI
    obtain ⟨n, rfl⟩ : ∃ z, n = z + 1 := ⟨n - 1, by omega⟩
    obtain ⟨m, rfl⟩ : ∃ z, m = z + 1 := ⟨m - 1, by omega⟩
    unfold fX5_rests_44 fX6_rests_42
    rw [ile_t (by omega) (by omega), ile_t (by omega) (by omega), ite_self]
    exact fin k x Sc Sm ok hs hC hM hI
  | succ d ih =>
    intro n m k x Sc Sm hd hk hn hm ok hs hC hM hI
    obtain ⟨n, rfl⟩ : ∃ z, n = z + 1 := ⟨n - 1, by omega⟩
    obtain ⟨m, rfl⟩ : ∃ z, m = z + 1 := ⟨m - 1, by omega⟩
    unfold fX5_rests_44 fX6_rests_42
    rw [ile_f (by omega) (by omega), ile_f (by omega) (by omega)]
    rcases xP_ok (x := x) (nI c) with h | ⟨a, i, t, q, q', h, hq, hq', hi1, hi, hne, hM8⟩
    · rw [h, if_pos (by decide), if_pos (by decide)]
      exact fin k x Sc Sm ok hs hC hM hI
    · have hl := ok.1
      have ha := (List.getElem?_eq_some_iff.mp hq).1
      have ht := (List.getElem?_eq_some_iff.mp hq').1
      have hlen := (okX_at ok hq).2.2.2.1
      have h8 : q'.2.2.2.2.length < 8 := by
        unfold qM at hM8
        simp at hM8
        exact hM8.2
      have e1 : nI (100 * a + 10 * i + t) / nI 100 = nI a := by rw [pk_div (by omega) (by omega) (by omega)]; congr 1; omega
      have e2 : nI (100 * a + 10 * i + t) / nI 10 = nI (10 * a + i) := by rw [pk_div (by omega) (by omega) (by omega)]; congr 1; omega
      have e3 : nI (10 * a + i) - nI (10 * a + i) / nI 10 * nI 10 = nI i := by rw [pk_rem (by omega) (by omega) (by omega)]; congr 1; omega
      have e4 : nI (100 * a + 10 * i + t) - nI (100 * a + 10 * i + t) / nI 10 * nI 10 = nI t := by rw [pk_rem (by omega) (by omega) (by omega)]; congr 1; omega
      rw [h, i0n_f (by omega), i0n_f (by omega), e4, e1, e2, e3]
      obtain ⟨S2, g2, r2, f2⟩ := p_move (by omega) hC ok hq hq' hi hne h8
      obtain ⟨T2, g3, a2, b2⟩ := m_move hM ok hq hq' hi hi1 hne h8
      have ok' := xV_ok ok hq hq' hi hi1 h8
      have s2 : S2.2.2 = u := by rw [f2.1]; exact hs
      obtain ⟨r, Sc', Sm', k1, k2, k3, k4, k5⟩ := ih n m (k + 1) (xV x a i t) S2 T2 (by omega) (by omega) (by omega) (by omega) ok' s2 r2 a2 (by rw [b2.2.2 8 (by omega)]; exact hI)
      refine ⟨r, Sc', Sm', ?_, ?_, f2.tr k3, k4, b2.kp.tr k5⟩
      · rw [hs, gN hu, g2, bv_s, s2, gN hu, p_gg r2 ok', bd_s, nI_add]; exact k1
      · rw [g3, bv_s, m_gg a2 ok', bd_s, nI_add]; exact k2
theorem t_rests {Sc : cM} {Sm : mM} {x : Xx} {im : Option Xx} {sh : Nat → Sh} (R : Rl Sc Sm x im sh) (x1 x2 : Int32) : Same (fX5_rests Sc x1 x2) (fX6_rests Sm x1 x2) := by
  have hn := R.now
  obtain ⟨ok, hC, hM, -⟩ := id R
  have hM9 := m9 hM
  rcases num_c x1 100 (by omega) with h | ⟨c, rfl, hc⟩
  · refine same_of R (r := -1) ?_ ?_
    · unfold fX5_rests
      by_cases h1 : x1 < 0
      · rw [if_pos h1]
      · rw [if_neg h1, if_pos (lt_of_le (by omega) (h.resolve_left h1))]
    · unfold fX6_rests
      rw [sv_s, q_0, q_99, inr_no (by omega) h, bd_s]
      rfl
  · rcases num_c x2 2 (by omega) with h | ⟨w, rfl, hw⟩
    · refine same_of R (r := -1) ?_ ?_
      · unfold fX5_rests
        rw [i0n_f (by omega), ilt_f (by omega) (by omega)]
        by_cases h1 : x2 < 0
        · rw [if_pos h1]
        · rw [if_neg h1, if_neg (by
            have := lt_of_le (by omega) (h.resolve_left h1)
            rw [Int32.lt_iff_toInt_lt] at this
            rw [Int32.le_iff_toInt_le]
            omega)]
      · unfold fX6_rests
        rw [sv_s, q_0, q_99, inr_yes (by omega) (by omega), bd_s, i0e_f (by omega) (by omega), q_1, inr_no (by omega) h, bd_s]
        rfl
    · obtain ⟨S1, e1, r1, f1⟩ := p_like (u0 := Sc.2.2) (u1 := Sc.2.1) (by omega) (by omega) (Ne.symm hn.2.2) ok hC
      have s1 : S1.2 = Sc.2 := f1.1
      obtain ⟨T1, g1, a1, b1, c1, -⟩ := m_open hM9 ok
      have hF : 40 < lF := by simp [lF]
      unfold fX5_rests fX6_rests
      generalize lF = F at hF ⊢
      obtain ⟨r, Sc', Sm', k1, k2, k3, k4, k5⟩ := rests_l hn.2.1 ok (c := c) (w := w) 40 F F 0 x S1 T1 rfl (by omega) hF hF ok (by rw [s1]) r1 a1 b1
      refine ⟨r, Sc', Sm', _, im, sh, ?_, ?_, R.step ((f1.tr k3).kp hn.2.1) ((k9.tr c1).tr k5) ok (rC_keep ok.1 hC (f1.tr k3) (by omega) (by omega) hn.2.2) k4⟩
      · rw [i0n_f (by omega), ilt_f (by omega) (by omega), i0n_f (by omega), ile_t (by omega) (by omega), gN hn.2.1, gN hn.1, e1, bv_s, s1, gN hn.2.1, p_gg r1 ok, bd_s]
        exact k1
      · rw [sv_s, q_0, q_99, inr_yes (by omega) (by omega), bd_s, i0e_f (by omega) (by omega), q_1, inr_yes (by omega) (by omega), bd_s, i0e_f (by omega) (by omega), g1, bv_s, m_gg a1 ok, bd_s]
        exact k2
/-! ===== image, count ===== -/
theorem t_image {Sc : cM} {Sm : mM} {x : Xx} {im : Option Xx} {sh : Nat → Sh} (R : Rl Sc Sm x im sh) : Same (fX5_image Sc) (fX6_image Sm) := by
  have hn := R.now
  obtain ⟨ok, hC, hM, r4, r5, r6⟩ := id R
  obtain ⟨S1, e1, q1, f1⟩ := p_like (u0 := 3) (u1 := Sc.2.1) (by omega) (by omega) (by omega) ok hC
  have s1 : S1.2 = Sc.2 := f1.1
  have hMa : rM (mS (mS Sm 0 9 (nI 0)) 0 13 (nI 1)) x := rM_core (m9 hM) (fun k hk => by rw [mS_s, upd_n (by omega)]) (fun r r1 r2 => by rw [mS_n (by omega)])
  obtain ⟨T1, g1, t1⟩ := m_take (Or.inr rfl) (mS (mS Sm 0 9 (nI 0)) 0 13 (nI 1))
  have hI := take_rI hMa ok t1
  have hM1 := take_rM (Or.inr rfl) hMa t1
  obtain ⟨a1, -, -, -, a5, a6, -⟩ := t1
  have hC1 : rC S1 Sc.2.1 x := rC_keep ok.1 hC f1 (by omega) (by omega) (by omega)
  refine ⟨x.1, cS S1 0 3 (nI 1), T1, x, some x, sh, ?_, ?_, ok, ?_, hM1, ?_, ⟨?_, ?_, ok, ?_, hI⟩, fun d hd => ?_⟩
  · unfold fX5_image
    rw [gN hn.1, e1, bv_s, sv_s, show (cS S1 0 3 (nI 1)).2 = Sc.2 from s1, gN hn.1, cS_n (by omega), hC1.2.1]
  · unfold fX6_image
    rw [sv_s, sv_s, g1, bv_s, hM1.2.1]
  · show rC (cS S1 0 3 (nI 1)) S1.2.1 x
    rw [s1]
    exact rC_rows ok.1 hC1 (fun r hr => cS_n (by unfold inX at hr; omega))
  · show S1.2 = _ ∨ S1.2 = _
    rw [s1]; exact r4
  · rw [cS_s, upd_s]
  · rw [a5 13 (by omega) (by omega), mS_s, upd_s]
  · exact rC_rows ok.1 q1 (fun r hr => cS_n (by unfold inX at hr; omega))
  · obtain ⟨b1, b2, b3⟩ := r6 d hd
    refine ⟨b1, rsC_keep hd b2 (fun r hr => ?_), rsM_keep2 b3 (by rw [a1]; rfl) (fun r hr => by rw [a6 r (by omega) (by omega), mS_n (by omega), mS_n (by omega)])⟩
    rw [cS_n (by omega)]; exact f1.2 r (by unfold inX; omega)
theorem t_restore {Sc : cM} {Sm : mM} {x : Xx} {im : Option Xx} {sh : Nat → Sh} (R : Rl Sc Sm x im sh) : Same (fX5_restore Sc) (fX6_restore Sm) := by
  have hn := R.now
  obtain ⟨ok, hC, hM, r4, r5, r6⟩ := id R
  cases im with
  | none =>
    obtain ⟨h1, h2⟩ := r5
    refine same_of R (r := -3) ?_ ?_
    · unfold fX5_restore; rw [h1, if_pos nI_0]
    · unfold fX6_restore; rw [sv_s, show (mS Sm 0 9 (nI 0)).1 0 13 = nI 0 by rw [mS_s, upd_n (by omega)]; exact h2, if_pos nI_0]
  | some y =>
    obtain ⟨h1, h2, oky, hCy, hIy⟩ := r5
    obtain ⟨S1, e1, q1, f1⟩ := p_like (u0 := Sc.2.1) (u1 := 3) (by omega) (by omega) (by omega) oky hCy
    have s1 : S1.2 = Sc.2 := f1.1
    obtain ⟨T1, g1, t1⟩ := m_give (Or.inr rfl) (mS Sm 0 9 (nI 0))
    have hM1 := give_rM (x := y) (by rw [mS_n (by omega)]; exact hIy) oky t1
    obtain ⟨a1, -, -, -, a5, a6, -⟩ := t1
    have hk : mkp Sm T1 := ⟨by rw [a1]; rfl, by rw [a6 9 (by omega), mS_n (by omega)], by rw [a5 13 (by omega) (by omega) (by omega), mS_s, upd_n (by omega)], fun r hr => by rw [a6 r (by omega), mS_n (by omega)]⟩
    refine ⟨y.1, S1, T1, y, some y, sh, ?_, ?_, R.step (f1.kp hn.1) hk oky q1 hM1⟩
    · unfold fX5_restore
      rw [h1, if_neg (by decide), gN hn.1, e1, bv_s, s1, gN hn.1, q1.2.1]
    · unfold fX6_restore
      rw [sv_s, show (mS Sm 0 9 (nI 0)).1 0 13 = nI 1 by rw [mS_s, upd_n (by omega)]; exact h2, if_neg (by decide), g1, bv_s, hM1.2.1]
def cnt (x : Xx) (k w m : Nat) : Int32 := if k = 0 then nI x.2.2.length else if k = 1 then nI (sC x.2.2) else if k = 2 then x.1 else if k = 3 then x.2.1 else if k = 4 then nI w else nI m
theorem m_count_l {S : mM} {x : Xx} (h : rM S x) (ok : okX x) (x1 : Int32) : ∀ (l : List Qq) (n i w m : Nat), x.2.2.drop i = l → i ≤ 5 → m ≤ 1000 → l.length < n →
    fX6_count_12 n S x1 (nI w) (nI m) (nI i) = fX6_count_12 1 S x1 (nI (w + sM l)) (nI (gX l m)) (nI x.2.2.length) := by
  have hl := ok.1
  intro l
  induction l with
  | nil =>
    intro n i w m e hi hm hn
    have := dropN e
    obtain ⟨n, rfl⟩ : ∃ z, n = z + 1 := ⟨n - 1, by omega⟩
    unfold fX6_count_12
    rw [h.1, ile_t (by omega) (by omega), ile_t (Nat.le_refl _) (by omega)]
    simp only [sM, gX, Nat.add_zero]
  | cons q l ih =>
    intro n i w m e hi hm hn
    obtain ⟨e1, e2, e3⟩ := dropC e
    simp only [List.length_cons] at hn
    obtain ⟨n, rfl⟩ : ∃ z, n = z + 1 := ⟨n - 1, by omega⟩
    have hW := qW_le (okX_at ok e1)
    conv => lhs; unfold fX6_count_12
    unfold fX6_count_36 fX6_count_58
    rw [h.1, ile_f (by omega) (by omega), m_mayCome (h.2.2.2 i q e1) (okX_at ok e1) (by omega), bd_s, b2_if, m_waitIn (h.2.2.2 i q e1) (okX_at ok e1) (by omega), bd_s, bd_s, nI_add, nI_add, nI_add]
    simp only [sM, gX]
    by_cases c : m < qW q
    · rw [if_neg (nI_ge c (by omega)), if_neg (nI_ge c (by omega)), if_pos c]
      cases qM q
      · simp only [Bool.false_eq_true, if_false, Nat.add_zero, Nat.zero_add]
        rw [m_waitIn (h.2.2.2 i q e1) (okX_at ok e1) (by omega), bd_s]
        exact ih n (i + 1) w (qW q) e2 (by omega) (by omega) (by omega)
      · simp only [if_true]
        rw [← Nat.add_assoc, m_waitIn (h.2.2.2 i q e1) (okX_at ok e1) (by omega), bd_s]
        exact ih n (i + 1) (w + 1) (qW q) e2 (by omega) (by omega) (by omega)
    · rw [if_pos (nI_le (by omega) (by omega)), if_pos (nI_le (by omega) (by omega)), if_neg c]
      cases qM q
      · simp only [Bool.false_eq_true, if_false, Nat.add_zero, Nat.zero_add]
        exact ih n (i + 1) w m e2 (by omega) (by omega) (by omega)
      · simp only [if_true]
        rw [← Nat.add_assoc]
        exact ih n (i + 1) (w + 1) m e2 (by omega) (by omega) (by omega)
theorem t_count {Sc : cM} {Sm : mM} {x : Xx} {im : Option Xx} {sh : Nat → Sh} (R : Rl Sc Sm x im sh) (x1 : Int32) : Same (fX5_count Sc x1) (fX6_count Sm x1) := by
  have hn := R.now
  obtain ⟨ok, hC, hM, -⟩ := id R
  have hM9 := m9 hM
  have hl := ok.1
  have e1 : fX6_count Sm x1 = if x1 = nI 0 then some (nI x.2.2.length, mS Sm 0 9 (nI 0)) else if x1 = nI 1 then some (nI (sC x.2.2), mS Sm 0 9 (nI 0)) else if x1 = nI 2 then some (x.1, mS Sm 0 9 (nI 0)) else if x1 = nI 3 then some (x.2.1, mS Sm 0 9 (nI 0)) else if x1 = nI 4 then some (nI (sM x.2.2), mS Sm 0 9 (nI 0)) else if x1 = nI 5 then some (nI (gX x.2.2 0), mS Sm 0 9 (nI 0)) else some (-1, mS Sm 0 9 (nI 0)) := by
    unfold fX6_count
    rw [sv_s, m_count_l hM9 ok x1 x.2.2 lF 0 0 0 rfl (by omega) (by omega) (by simp [lF]; omega)]
    unfold fX6_count_12
    rw [hM9.1, ile_t (Nat.le_refl _) (by omega), m_cars hM9 ok, bd_s, hM9.2.1, hM9.2.2.1, Nat.zero_add]
  have e2 : fX5_count Sc x1 = if x1 = nI 0 then some (nI x.2.2.length, Sc) else if x1 = nI 1 then some (nI (sC x.2.2), Sc) else if x1 = nI 2 then some (x.1, Sc) else if x1 = nI 3 then some (x.2.1, Sc) else if x1 = nI 4 then some (nI (sM x.2.2), Sc) else if x1 = nI 5 then some (nI (gX x.2.2 0), Sc) else some (-1, Sc) := by
    unfold fX5_count
    simp only [gN hn.1]
    rw [p_cars hC ok, bd_s, p_may hC ok, bd_s, p_wait hC ok, bd_s, hC.1, hC.2.1, hC.2.2.1]
  rw [e1, e2]
  repeat' split
  all_goals exact same_of R rfl rfl
