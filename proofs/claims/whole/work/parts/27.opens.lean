/-! ===== lanes that are opened ===== -/
theorem opens_l {u : Nat} (hu : u = 1 ∨ u = 2) {x0 : Xx} (ok0 : okX x0) {d t N was : Nat} (hd : d < 8) (ht : t ≤ 9) (hN : N ≤ 99) {h : Sh} (hk : h.1 = 2) {L0 : List Nat} (hL0 : h.2.2 = L0.map nI) (hLl : L0.length ≤ 20) (hL4 : ∀ s ∈ L0, s < 4) : ∀ (L : List Nat) (n m k o : Nat) (x : Xx) (Sc : cM) (Sm : mM), L0.drop k = L → k ≤ 20 → L.length < n → L.length < m → okX x → x.2.2.length = was + o → Sc.2.2 = u → rC Sc u x → rM Sm x → rI (Sm.1 8) x0 → rsC Sc d h → rsM Sm d h →
    ∃ r' Sc' Sm', fX5_opens_62 n Sc (nI t) (nI N) (53 + d) (nI o) (nI k) = some (r', Sc') ∧ fX6_opens_61 m Sm (nI d) (nI t) (nI N) (nI was) (nI k) = some (r', Sm') ∧ frx Sc Sc' u ∧ rM Sm' x0 ∧ mkp Sm Sm' := by
  have hlen : h.2.2.length = L0.length := by rw [hL0, List.length_map]
  intro L
  induction L with
  | nil =>
    intro n m k o x Sc Sm e hk1 hn hm ok ho hs hC hM hI sc sm
    have := dropN e
    obtain ⟨n, rfl⟩ : ∃ z, n = z + 1 := ⟨n - 1, by omega⟩
    obtain ⟨m, rfl⟩ : ∃ z, m = z + 1 := ⟨m - 1, by omega⟩
    obtain ⟨T3, g3, a3, c3, -⟩ := m_close hI ok0
    unfold fX5_opens_62 fX6_opens_61
    rw [(sc.2.2 hk).2.1, ile_t (by omega) (by omega), g8 hd, cl_n (by omega), (sm.2.2 hk).2.1, ile_t (by omega) (by omega), g3, bv_s, hM.1, ho, su_n (by omega), show was + o - was = o by omega]
    exact ⟨_, _, _, rfl, rfl, frx.rf, a3, c3⟩
  | cons s L ih =>
    intro n m k o x Sc Sm e hk1 hn hm ok ho hs hC hM hI sc sm
    obtain ⟨e1, e2, e3⟩ := dropC e
    simp only [List.length_cons] at hn hm
    obtain ⟨n, rfl⟩ : ∃ z, n = z + 1 := ⟨n - 1, by omega⟩
    obtain ⟨m, rfl⟩ : ∃ z, m = z + 1 := ⟨m - 1, by omega⟩
    have hs4 := hL4 s (List.mem_of_getElem? e1)
    have ev : h.2.2[k]? = some (nI s) := by rw [hL0, List.getElem?_map, e1]; rfl
    obtain ⟨x1, S1, T1, r0, ok1, hs1, hC1, hM1, hI1, f1, k1, hl1, q1, q2⟩ := before_c hu ok hs hC hM hI ht (k := k) (by omega) (fun S => fX5_opens_86 (fX5_opens_62 n) S (nI t) (nI N) (53 + d) (nI o) (nI k))
    have sc1 : rsC S1 d h := rsC_keep hd sc (fun r hr => f1.2 r (by unfold inX; omega))
    have sm1 : rsM T1 d h := rsM_keep sm k1
    have ec : fX5_opens_62 (n + 1) Sc (nI t) (nI N) (53 + d) (nI o) (nI k) = fX5_opens_86 (fX5_opens_62 n) S1 (nI t) (nI N) (53 + d) (nI o) (nI k) := by
      rw [← q1]
      conv => lhs; unfold fX5_opens_62
      rw [(sc.2.2 hk).2.1, ile_f (by omega) (by omega)]
    have em : fX6_opens_61 (m + 1) Sm (nI d) (nI t) (nI N) (nI was) (nI k) = fX6_opens_83 (fX6_opens_61 m) Sm (nI d) (nI t) (nI N) (nI was) (nI k) (if nI k ≤ 0 then nI 0 else nI t) := by
      conv => lhs; unfold fX6_opens_61
      rw [g8 hd, cl_n (by omega), (sm.2.2 hk).2.1, ile_f (by omega) (by omega)]
      split <;> rfl
    -- what follows once lanes are there
    have tail : ∀ (o2 : Nat) (x2 : Xx) (S2 : cM) (T2 : mM), okX x2 → x2.2.2.length = was + o2 → S2.2.2 = u → rC S2 u x2 → rM T2 x2 → rI (T2.1 8) x0 → frx S1 S2 u → mkp T1 T2 →
        ∃ r' Sc' Sm', fX5_opens_121 (fX5_opens_62 n) S2 (nI t) (nI N) (53 + d) (nI o2) (nI k) = some (r', Sc') ∧ fX6_opens_196 (fX6_opens_61 m) T2 (nI d) (nI t) (nI N) (nI was) (nI k) (nI s) = some (r', Sm') ∧ frx Sc Sc' u ∧ rM Sm' x0 ∧ mkp Sm Sm' := by
      intro o2 x2 S2 T2 ok2 ho2 hs2 hC2 hM2 hI2 f2 k2
      have sc2 : rsC S2 d h := rsC_keep hd sc1 (fun r hr => f2.2 r (by unfold inX; omega))
      have sm2 : rsM T2 d h := rsM_keep sm1 k2
      unfold fX5_opens_121 fX6_opens_196
      rw [hs2, gN hu, p_which hC2 ok2, bd_s, m_which hM2 ok2, bd_s]
      cases hb : wh qS x2.2.2 0 none with
      | none =>
        rw [if_pos (show fI none < 0 by decide), if_pos (show fI none < 0 by decide)]
        unfold fX5_opens_156 fX6_opens_215
        rw [nI_add]
        obtain ⟨r', Sc', Sm', w1, w2, w3, w4, w5⟩ := ih n m (k + 1) o2 x2 S2 T2 e2 (by omega) (by omega) (by omega) ok2 ho2 hs2 hC2 hM2 hI2 sc2 sm2
        exact ⟨r', Sc', Sm', w1, w2, (f1.tr f2).tr w3, w4, (k1.tr k2).tr w5⟩
      | some jv =>
        obtain ⟨j, v⟩ := jv
        obtain ⟨q, hq, hqM⟩ := wh_may0 hb
        have hj := (List.getElem?_eq_some_iff.mp hq).1
        have hl := ok2.1
        obtain ⟨S3, e3', r3, f3⟩ := p_xcome (by omega) hC2 ok2 hq hs4 (qM_8 hqM)
        obtain ⟨T3, g3, a3, b3⟩ := m_xcome hM2 ok2 hq hs4 (qM_8 hqM)
        have ok3 := xC_ok ok2 hq hs4 (qM_8 hqM)
        have hl3 : (xC x2 j s).2.2.length = was + o2 := by unfold xC; rw [hq]; dsimp only; rw [List.length_set]; exact ho2
        rw [if_neg (show ¬ fI (some (j, v)) < 0 from nI_pos (by omega)), if_neg (show ¬ fI (some (j, v)) < 0 from nI_pos (by omega)), show fI (some (j, v)) = nI j from rfl, hs2, gN hu, g5 (by omega), gi_n (show k < 100 by omega) (by omega), cl_n (by omega), cl_n (by omega), show 53 + d + 8 = 61 + d by omega, (sc2.2.2 hk).2.2 k _ ev, e3', bv_s, g3, bv_s]
        unfold fX5_opens_156 fX6_opens_215
        rw [nI_add]
        obtain ⟨r', Sc', Sm', w1, w2, w3, w4, w5⟩ := ih n m (k + 1) o2 _ S3 T3 e2 (by omega) (by omega) (by omega) ok3 hl3 (by rw [f3.1]; exact hs2) r3 a3 (by rw [b3.2.2 8 (by omega)]; exact hI2) (rsC_keep hd sc2 (fun r hr => f3.2 r (by unfold inX; omega))) (rsM_keep sm2 b3.kp)
        exact ⟨r', Sc', Sm', w1, w2, ((f1.tr f2).tr f3).tr w3, w4, ((k1.tr k2).tr b3.kp).tr w5⟩
    rw [ec, em]
    have hl := ok1.1
    -- the two heads, whether a lane is opened or not
    have keep : ∃ r' Sc' Sm', fX5_opens_121 (fX5_opens_62 n) S1 (nI t) (nI N) (53 + d) (nI o) (nI k) = some (r', Sc') ∧ fX6_opens_196 (fX6_opens_61 m) T1 (nI d) (nI t) (nI N) (nI was) (nI k) (nI s) = some (r', Sm') ∧ frx Sc Sc' u ∧ rM Sm' x0 ∧ mkp Sm Sm' := tail o x1 S1 T1 ok1 (by omega) hs1 hC1 hM1 hI1 frx.rf mkp.rf
    have new : x1.2.2.length < 5 → ∃ S2 T2 r' Sc' Sm', fX1_addLane u S1 (nI 6) (nI 0) = some (nI 1, S2) ∧ fX6_opens_135 (fX6_opens_61 m) T1 (nI d) (nI t) (nI N) (nI was) (nI k) (nI s) = fX6_opens_196 (fX6_opens_61 m) T2 (nI d) (nI t) (nI N) (nI was) (nI k) (nI s) ∧ fX5_opens_121 (fX5_opens_62 n) S2 (nI t) (nI N) (53 + d) (nI (o + 1)) (nI k) = some (r', Sc') ∧ fX6_opens_196 (fX6_opens_61 m) T2 (nI d) (nI t) (nI N) (nI was) (nI k) (nI s) = some (r', Sm') ∧ frx Sc Sc' u ∧ rM Sm' x0 ∧ mkp Sm Sm' := by
      intro h5
      obtain ⟨S2, g2, r2, f2⟩ := p_addLane (by omega) hC1 h5 (kd := 6) (fg := 0) (by omega)
      obtain ⟨T2, g3, a3, b3⟩ := m_new hM1 ok1 h5 (K := fX6_opens_61 m) (x1 := nI d) (x2 := nI t) (x3 := nI N) (x5 := nI was) (x6 := nI k) (x7 := nI s)
      obtain ⟨r', Sc', Sm', w⟩ := tail (o + 1) (xL x1 6 0) S2 T2 (xL_ok ok1 h5 (by omega) (by omega)) (by unfold xL; simp; omega) (by rw [f2.1]; exact hs1) r2 a3 (by rw [b3.2.2 8 (by omega)]; exact hI1) f2 b3.kp
      exact ⟨S2, T2, r', Sc', Sm', g2, g3, w⟩
    have hc : fX5_opens_86 (fX5_opens_62 n) S1 (nI t) (nI N) (53 + d) (nI o) (nI k) = if lI (wh (fun q => qN q s) x1.2.2 0 none) ≤ nI N then fX5_opens_121 (fX5_opens_62 n) S1 (nI t) (nI N) (53 + d) (nI o) (nI k) else bd (fX1_addLane u S1 (nI 6) (nI 0)) fun v29 S29 => (if v29 = 0 then fX5_opens_121 (fX5_opens_62 n) S29 (nI t) (nI N) (53 + d) (nI o) (nI k) else fX5_opens_121 (fX5_opens_62 n) S29 (nI t) (nI N) (53 + d) (nI (o + 1)) (nI k)) := by
      unfold fX5_opens_86
      rw [hs1, gN hu, gi_n (show k < 100 by omega) (by omega), cl_n (by omega), show 53 + d + 8 = 61 + d by omega, (sc1.2.2 hk).2.2 k _ ev, p_leastTime hC1 ok1 hs4, bd_s, hs1, gN hu, nI_add]
    have hm' : fX6_opens_83 (fX6_opens_61 m) Sm (nI d) (nI t) (nI N) (nI was) (nI k) (if nI k ≤ 0 then nI 0 else nI t) = if nI 5 ≤ nI x1.2.2.length then fX6_opens_196 (fX6_opens_61 m) T1 (nI d) (nI t) (nI N) (nI was) (nI k) (nI s) else if lI (wh (fun q => qN q s) x1.2.2 0 none) ≤ nI N then fX6_opens_196 (fX6_opens_61 m) T1 (nI d) (nI t) (nI N) (nI was) (nI k) (nI s) else fX6_opens_135 (fX6_opens_61 m) T1 (nI d) (nI t) (nI N) (nI was) (nI k) (nI s) := by
      unfold fX6_opens_83
      rw [q2, bd_s, pk_mul, nI_add, gi_n (show 100 * d + k < 800 by omega) (by omega), cl_n (by omega), (sm1.2.2 hk).2.2 k _ ev, Int32.toInt32_toInt64, m_best hM1 ok1 hs4, bd_s, hM1.1]
      by_cases h5 : nI 5 ≤ nI x1.2.2.length
      · rw [if_pos h5, if_pos h5]
      · rw [if_neg h5, if_neg h5]
        cases hb : wh (fun q => qN q s) x1.2.2 0 none with
        | none =>
          rw [if_pos (show fI none < 0 by decide), if_neg (show ¬ lI none ≤ nI N from nI_ge (a := N) (b := 2147483647) (by omega) (by omega))]
        | some jv =>
          obtain ⟨j, v⟩ := jv
          obtain ⟨q, hq, hv⟩ := wh_ok0 hb
          have hj := (List.getElem?_eq_some_iff.mp hq).1
          rw [if_neg (show ¬ fI (some (j, v)) < 0 from nI_pos (by omega)), show fI (some (j, v)) = nI j from rfl, m_timeIn (hM1.2.2.2 j q hq) (okX_at ok1 hq) (by omega) hs4, bd_s, show lI (some (j, v)) = nI v from rfl, hv]
    rw [hc, hm']
    by_cases hP : lI (wh (fun q => qN q s) x1.2.2 0 none) ≤ nI N
    · rw [if_pos hP, if_pos hP, ite_self]; exact keep
    · rw [if_neg hP, if_neg hP]
      by_cases h5 : x1.2.2.length = 5
      · rw [ile_t (by omega) (by omega), p_addLane_no hC1 h5, bd_s, if_pos nI_0]; exact keep
      · obtain ⟨S2, T2, r', Sc', Sm', n1, n2, n3, n4, n5⟩ := new (by omega)
        rw [ile_f (by omega) (by omega), n1, bd_s, i0e_f (by omega) (by omega), n2]
        exact ⟨r', Sc', Sm', n3, n4, n5⟩
theorem t_opens {Sc : cM} {Sm : mM} {x : Xx} {im : Option Xx} {sh : Nat → Sh} (R : Rl Sc Sm x im sh) (x1 x2 x3 : Int32) : Same (fX5_opens Sc x1 x2 x3) (fX6_opens Sm x1 x2 x3) := by
  have hn := R.now
  obtain ⟨ok, hC, hM, -, -, r6⟩ := id R
  have hM9 := m9 hM
  have hl := ok.1
  have H9 := SH9 R
  rcases num_c x2 10 (by omega) with h | ⟨t, rfl, ht⟩
  · refine same_of R (r := -1) ?_ ?_
    · unfold fX5_opens
      by_cases h1 : x2 < 0
      · rw [if_pos h1]
      · rw [if_neg h1, if_pos (lt_of_le (by omega) (h.resolve_left h1))]
    · unfold fX6_opens fX6_opens_29 fX6_opens_38
      rw [sv_s, q_0, q_9, inr_no (by omega) h, bd_s]; rfl
  rcases num_c x3 100 (by omega) with h | ⟨N, rfl, hN⟩
  · refine same_of R (r := -1) ?_ ?_
    · unfold fX5_opens
      rw [i0n_f (by omega), ilt_f (by omega) (by omega)]
      by_cases h1 : x3 < 0
      · rw [if_pos h1]
      · rw [if_neg h1, if_neg (not_le_of (by omega) (h.resolve_left h1))]
    · unfold fX6_opens fX6_opens_29 fX6_opens_38
      rw [sv_s, q_0, q_9, inr_yes (by omega) (by omega), bd_s, i0e_f (by omega) (by omega), q_99, inr_no (by omega) h, bd_s]; rfl
  have ec : fX5_opens Sc x1 (nI t) (nI N) = bd (fX5_sortsRefusal Sc x1) fun v5 S5 => (if v5 = 0 then gi x1 8 (gn S5.2.2 1 3 (gn S5.2.1 1 3 (bv (fX1_becomeLike S5.2.2 S5.2.1 S5) fun S11 => (fX5_opens_62 lF S11 (nI t) (nI N) (53 + (x1).toNatClampNeg) (nI 0) (nI 0))))) else some (v5, S5)) := by
    conv => lhs; unfold fX5_opens
    rw [i0n_f (by omega), ilt_f (by omega) (by omega), i0n_f (by omega), ile_t (by omega) (by omega)]
  have em : fX6_opens Sm x1 (nI t) (nI N) = bd (fX6_wrongSorts (mS Sm 0 9 (nI 0)) x1) fun v40 S40 => fX6_opens_38 S40 x1 (nI t) (nI N) v40 := by
    conv => lhs; unfold fX6_opens
    rw [sv_s, q_0, q_9, inr_yes (by omega) (by omega), bd_s, i0e_f (by omega) (by omega), q_99, inr_yes (by omega) (by omega), bd_s, i0e_f (by omega) (by omega)]
  rw [ec, em]
  rcases sorts_c H9 x1 with ⟨rc, h1, h2, h3, h4⟩ | ⟨d, L, rfl, hd, hk, hL, hL4, hLl, h1, h2⟩
  · refine same_of R (r := rc) ?_ ?_
    · rw [h1, bd_s, if_neg h3]
    · rw [h2, bd_s]; unfold fX6_opens_38; rw [if_neg h4]
  · obtain ⟨okd, cd, md⟩ := H9 d hd
    obtain ⟨S1, e1, r1, f1⟩ := p_like (u0 := Sc.2.2) (u1 := Sc.2.1) (by omega) (by omega) (Ne.symm hn.2.2) ok hC
    have s1 : S1.2 = Sc.2 := f1.1
    obtain ⟨T1, g1, a1, b1, c1, -⟩ := m_open hM9 ok
    have hF : 110 < lF := by simp [lF]
    unfold fX6_opens_38
    generalize lF = F at hF ⊢
    obtain ⟨r', Sc', Sm', k1, k2, k3, k4, k5⟩ := opens_l hn.2.1 ok (was := x.2.2.length) hd (t := t) (by omega) (N := N) (by omega) hk hL hLl hL4 L F F 0 0 x S1 T1 rfl (by omega) (by omega) (by omega) ok (by omega) (by rw [s1]) r1 a1 b1 (rsC_keep hd cd (fun r hr => f1.2 r (by unfold inX; omega))) (rsM_keep md c1)
    refine ⟨r', Sc', Sm', x, im, sh, ?_, ?_, R.step ((f1.tr k3).kp hn.2.1) ((k9.tr c1).tr k5) ok (rC_keep ok.1 hC (f1.tr k3) (by omega) (by omega) hn.2.2) k4⟩
    · rw [h1, bd_s, if_pos nI_0, g8 hd, gN hn.2.1, gN hn.1, e1, bv_s, cl_n (by omega)]
      exact k1
    · rw [h2, bd_s, if_pos (by decide), g1, bv_s, a1.1]
      exact k2
