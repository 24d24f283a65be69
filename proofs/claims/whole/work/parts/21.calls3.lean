/-! ===== a car comes into a lane of a crossing ===== -/
def xC (x : Xx) (j s : Nat) : Xx := match x.2.2[j]? with
  | some q => (x.1, x.2.1, x.2.2.set j (qC q s))
  | none => x
theorem p_xcome {S : cM} {u : Nat} {x : Xx} (hu : 1 ≤ u ∧ u ≤ 3) (h : rC S u x) (ok : okX x) {j s : Nat} {q : Qq} (hq : x.2.2[j]? = some q) (hs : s < 4) (h8 : q.2.2.2.2.length < 8) : ∃ S', fX3_comeIn (5 * u + 2 + j) S (nI s) = some S' ∧ rC S' u (xC x j s) ∧ frx S S' u := by
  have hj := (List.getElem?_eq_some_iff.mp hq).1
  have hl := ok.1
  obtain ⟨S1, e1, r1, f1⟩ := p_comeIn (h.2.2.2 j q hq) (okX_at ok hq) (by omega) hs h8
  refine ⟨S1, e1, ?_, frx.ofq f1 (by omega)⟩
  unfold xC
  rw [hq]
  exact rC_set (a := x.1) (b := x.2.1) hl h hj f1 r1 hu
theorem m_xcome {S : mM} {x : Xx} (h : rM S x) (ok : okX x) {j s : Nat} {q : Qq} (hq : x.2.2[j]? = some q) (hs : s < 4) (h8 : q.2.2.2.2.length < 8) : ∃ S', fX6_comeIn S (nI j) (nI s) = some S' ∧ rM S' (xC x j s) ∧ mfr S S' := by
  have hj := (List.getElem?_eq_some_iff.mp hq).1
  have hl := ok.1
  obtain ⟨S1, e1, r1, f1⟩ := m_comeIn (h.2.2.2 j q hq) (okX_at ok hq) (by omega) hs h8
  refine ⟨S1, e1, ?_, mfr.ofq f1⟩
  unfold xC
  rw [hq]
  exact rM_set (a := x.1) (b := x.2.1) ok.2 h hj f1 r1
theorem xC_ok {x : Xx} (ok : okX x) {j s : Nat} {q : Qq} (hq : x.2.2[j]? = some q) (hs : s < 4) (h8 : q.2.2.2.2.length < 8) : okX (xC x j s) := by
  unfold xC
  rw [hq]
  exact okX_set (a := x.1) (b := x.2.1) ok (okC (okX_at ok hq) hs h8)
theorem qM_8 {q : Qq} (h : qM q = true) : q.2.2.2.2.length < 8 := by
  unfold qM at h
  simp at h
  exact h.2
/-! ===== seeds ===== -/
def dr (z : Int32) : Nat := z.toBitVec.toNat % 2147483648 / 65536 % 4
def nz (z : Int32) : Int32 := z * nI 1103515245 + nI 12345
theorem dr_lt {z : Int32} : dr z < 4 := Nat.mod_lt _ (by omega)
theorem dr_e (z : Int32) : ((z &&& nI 2147483647) / nI 65536) - ((z &&& nI 2147483647) / nI 65536) / nI 4 * nI 4 = nI (dr z) := by
  have e : z &&& nI 2147483647 = nI (z.toBitVec.toNat % 2147483648) := pk_and z 31 (by decide)
  have hlt : z.toBitVec.toNat % 2147483648 < 2147483648 := Nat.mod_lt _ (by omega)
  rw [e, pk_div (by omega) (by omega) (by omega), pk_rem (by omega) (by omega) (by omega)]
  rfl
theorem seeded_l {u : Nat} (hu : u = 1 ∨ u = 2) {x0 : Xx} (ok0 : okX x0) {t w : Nat} (ht : t ≤ 30) : ∀ (d n m k c : Nat) (z : Int32) (x : Xx) (Sc : cM) (Sm : mM), t - k = d → k ≤ t → d < n → d < m → okX x → Sc.2.2 = u → rC Sc u x → rM Sm x → Sm.1 0 33 = z → rI (Sm.1 8) x0 →
    ∃ r Sc' Sm', fX5_seeded_42 n Sc (nI t) (nI w) z (nI c) (nI k) = some (r, Sc') ∧ fX6_seeded_44 m Sm (nI t) (nI w) (nI c) (nI k) = some (r, Sm') ∧ frx Sc Sc' u ∧ rM Sm' x0 ∧ mkp Sm Sm' := by
  intro d
  induction d with
  | zero =>
    intro n m k c z x Sc Sm hd hk hn hm ok hs hC hM hz hI
    obtain ⟨n, rfl⟩ : ∃ z, n = z + 1 := ⟨n - 1, by omega⟩
    obtain ⟨m, rfl⟩ : ∃ z, m = z + 1 := ⟨m - 1, by omega⟩
    obtain ⟨T3, g3, a3, c3, -⟩ := m_close hI ok0
    unfold fX5_seeded_42 fX6_seeded_44 fX6_seeded_108
    rw [ile_t (by omega) (by omega), ile_t (by omega) (by omega), hs, gN hu, p_cars hC ok, bd_s, m_cars hM ok, bd_s, g3, bv_s, bv_s]
    by_cases hw : nI w = 0
    · rw [if_pos hw, if_pos hw]; exact ⟨_, _, _, rfl, rfl, frx.rf, a3, c3⟩
    · rw [if_neg hw, if_neg hw]; exact ⟨_, _, _, rfl, rfl, frx.rf, a3, c3⟩
  | succ d ih =>
    intro n m k c z x Sc Sm hd hk hn hm ok hs hC hM hz hI
    obtain ⟨n, rfl⟩ : ∃ z, n = z + 1 := ⟨n - 1, by omega⟩
    obtain ⟨m, rfl⟩ : ∃ z, m = z + 1 := ⟨m - 1, by omega⟩
    have hd1 := @dr_lt (nz z)
    have hd2 := @dr_lt (nz (nz z))
    -- the reference's draws
    have hM1 : rM (mS Sm 0 33 (nz z)) x := rM_core hM (fun k hk => by rw [mS_s, upd_n (by omega)]) (fun r r1 r2 => by rw [mS_n (by omega)])
    obtain ⟨T2, g2, a2, b2⟩ := m_goBy hM1 ok (t := dr (nz z)) (by omega)
    have hT2 : T2.1 0 33 = nz z := by rw [b2.2.1 33 (by omega), mS_s, upd_s]
    have ok2 := xB_ok (n := dr (nz z)) ok
    have hM3 : rM (mS T2 0 33 (nz (nz z))) (xB (dr (nz z)) x) := rM_core a2 (fun k hk => by rw [mS_s, upd_n (by omega)]) (fun r r1 r2 => by rw [mS_n (by omega)])
    have hI3 : rI ((mS T2 0 33 (nz (nz z))).1 8) x0 := by rw [mS_n (by omega), b2.2.2 8 (by omega), mS_n (by omega)]; exact hI
    have k3 : mkp Sm (mS T2 0 33 (nz (nz z))) := by
      refine mkp.tr (S1 := mS Sm 0 33 (nz z)) ⟨rfl, mS_n (by omega), by rw [mS_s, upd_n (by omega)], fun r hr => mS_n (by omega)⟩ (mkp.tr b2.kp ⟨rfl, mS_n (by omega), by rw [mS_s, upd_n (by omega)], fun r hr => mS_n (by omega)⟩)
    obtain ⟨S2, e2, r2, f2⟩ := p_goBy (by omega) hC ok (t := dr (nz z)) (by omega)
    have s2 : S2.2.2 = u := by rw [f2.1]; exact hs
    have dc : ∀ (S : cM) (y : Int32), fX5_draw S y (nI 4) = some (nI (dr y), S) := by
      intro S y
      unfold fX5_draw
      rw [if_neg (by decide), gz_n (by omega) (by omega), dr_e]
    have dm : ∀ (S : mM) (y : Int32), S.1 0 33 = y → fX6_draw S (nI 4) = some (nI (dr (nz y)), mS S 0 33 (nz y)) := by
      intro S y hy
      unfold fX6_draw
      rw [hy, sv_s, gz_n (by omega) (by omega), show (mS S 0 33 (y * nI 1103515245 + nI 12345)).1 0 33 = nz y by rw [mS_s, upd_s]; rfl, dr_e]
      rfl
    have ns : ∀ (S : cM) (y : Int32), fX5_nextSeed S y = some (nz y, S) := fun S y => rfl
    unfold fX5_seeded_42 fX6_seeded_44 fX5_seeded_112 fX6_seeded_89
    rw [ile_f (by omega) (by omega), ile_f (by omega) (by omega), ns, bd_s, hs, gN hu, dc, bd_s, e2, bd_s, ns, bd_s, s2, gN hu, p_which r2 ok2, bd_s, dm _ _ hz, bd_s, g2, bd_s, dm _ _ hT2, bd_s, m_which hM3 ok2, bd_s, nI_add]
    cases hb : wh qS (xB (dr (nz z)) x).2.2 0 none with
    | none =>
      rw [if_pos (show fI none < 0 by decide), if_pos (show fI none < 0 by decide)]
      obtain ⟨r, Sc', Sm', k1, k2, k4, k5, k6⟩ := ih n m (k + 1) c (nz (nz z)) _ S2 _ (by omega) (by omega) (by omega) (by omega) ok2 s2 r2 hM3 (by rw [mS_s, upd_s]) hI3
      exact ⟨r, Sc', Sm', k1, k2, f2.tr k4, k5, k3.tr k6⟩
    | some jv =>
      obtain ⟨j, v⟩ := jv
      obtain ⟨q, hq, hqM⟩ := wh_may0 hb
      have hj := (List.getElem?_eq_some_iff.mp hq).1
      have hl := ok2.1
      rw [if_neg (show ¬ fI (some (j, v)) < 0 from nI_pos (by omega)), if_neg (show ¬ fI (some (j, v)) < 0 from nI_pos (by omega)), show fI (some (j, v)) = nI j from rfl, s2, gN hu, g5 (by omega), dc, bd_s, cl_n (by omega)]
      obtain ⟨S3, e3, r3, f3⟩ := p_xcome (by omega) r2 ok2 hq hd2 (qM_8 hqM)
      obtain ⟨T3, g3, a3, b3⟩ := m_xcome hM3 ok2 hq hd2 (qM_8 hqM)
      have ok3 := xC_ok ok2 hq hd2 (qM_8 hqM)
      obtain ⟨r, Sc', Sm', k1, k2, k4, k5, k6⟩ := ih n m (k + 1) (c + 1) (nz (nz z)) _ S3 T3 (by omega) (by omega) (by omega) (by omega) ok3 (by rw [f3.1]; exact s2) r3 a3 (by rw [b3.2.1 33 (by omega), mS_s, upd_s]) (by rw [b3.2.2 8 (by omega)]; exact hI3)
      rw [e3, bv_s, g3, bv_s, nI_add]
      exact ⟨r, Sc', Sm', k1, k2, (f2.tr f3).tr k4, k5, (k3.tr b3.kp).tr k6⟩
theorem not_le_of {z : Int32} {n : Nat} (hn : n < 2147483647) (h : nI (n + 1) ≤ z) : ¬ z ≤ nI n := by
  have := lt_of_le hn h
  rw [Int32.lt_iff_toInt_lt] at this
  rw [Int32.le_iff_toInt_le]
  omega
theorem neg_lt1 {z : Int32} (h : z < 0) : z < nI 1 := by
  rw [Int32.lt_iff_toInt_lt] at h ⊢
  rw [nI_toInt (by omega)]
  have : (0 : Int32).toInt = 0 := by decide
  omega
theorem t_seeded {Sc : cM} {Sm : mM} {x : Xx} {im : Option Xx} {sh : Nat → Sh} (R : Rl Sc Sm x im sh) (x1 x2 x3 : Int32) : Same (fX5_seeded Sc x1 x2 x3) (fX6_seeded Sm x1 x2 x3) := by
  have hn := R.now
  obtain ⟨ok, hC, hM, -⟩ := id R
  have hM9 := m9 hM
  have no : (x1 < nI 1 ∨ nI 30 < x1) → Same (fX5_seeded Sc x1 x2 x3) (fX6_seeded Sm x1 x2 x3) := by
    intro h
    refine same_of R (r := -1) ?_ ?_
    · unfold fX5_seeded
      by_cases h1 : x1 < nI 1
      · rw [if_pos h1]
      · rw [if_neg h1, if_pos (h.resolve_left h1)]
    · unfold fX6_seeded
      rw [sv_s, q_1, q_30, in_no h, bd_s]
      rfl
  rcases num_c x1 31 (by omega) with h | ⟨t, rfl, ht⟩
  · exact no (h.imp neg_lt1 (fun h => lt_of_le (by omega) h))
  · by_cases h0 : t = 0
    · subst h0; exact no (Or.inl (by decide))
    · rcases num_c x3 2 (by omega) with h | ⟨w, rfl, hw⟩
      · refine same_of R (r := -1) ?_ ?_
        · unfold fX5_seeded
          rw [ilt_f (by omega) (by omega), ilt_f (by omega) (by omega)]
          by_cases h1 : x3 < 0
          · rw [if_pos h1]
          · rw [if_neg h1, if_neg (not_le_of (by omega) (h.resolve_left h1))]
        · unfold fX6_seeded
          rw [sv_s, q_1, q_30, in_yes (nI_nlt (by omega) (by omega)) (nI_nlt (by omega) (by omega)), bd_s, i0e_f (by omega) (by omega), q_0, inr_no (by omega) h, bd_s]
          rfl
      · obtain ⟨S1, e1, r1, f1⟩ := p_like (u0 := Sc.2.2) (u1 := Sc.2.1) (by omega) (by omega) (Ne.symm hn.2.2) ok hC
        have s1 : S1.2 = Sc.2 := f1.1
        obtain ⟨T1, g1, a1, b1, c1, -⟩ := m_open hM9 ok
        have hM1 : rM (mS T1 0 33 x2) x := rM_core a1 (fun k hk => by rw [mS_s, upd_n (by omega)]) (fun r r1 r2 => by rw [mS_n (by omega)])
        have k1' : mkp T1 (mS T1 0 33 x2) := ⟨rfl, mS_n (by omega), by rw [mS_s, upd_n (by omega)], fun r hr => mS_n (by omega)⟩
        have hF : 30 < lF := by simp [lF]
        unfold fX5_seeded fX6_seeded
        generalize lF = F at hF ⊢
        obtain ⟨r, Sc', Sm', k1, k2, k3, k4, k5⟩ := seeded_l hn.2.1 ok (t := t) (w := w) (by omega) t F F 0 0 x2 x S1 (mS T1 0 33 x2) (by omega) (by omega) (by omega) (by omega) ok (by rw [s1]) r1 hM1 (by rw [mS_s, upd_s]) (by rw [mS_n (by omega)]; exact b1)
        refine ⟨r, Sc', Sm', _, im, sh, ?_, ?_, R.step ((f1.tr k3).kp hn.2.1) (((k9.tr c1).tr k1').tr k5) ok (rC_keep ok.1 hC (f1.tr k3) (by omega) (by omega) hn.2.2) k4⟩
        · rw [ilt_f (by omega) (by omega), ilt_f (by omega) (by omega), i0n_f (by omega), ile_t (by omega) (by omega), gN hn.2.1, gN hn.1, e1, bv_s]
          exact k1
        · rw [sv_s, q_1, q_30, in_yes (nI_nlt (by omega) (by omega)) (nI_nlt (by omega) (by omega)), bd_s, i0e_f (by omega) (by omega), q_0, inr_yes (by omega) (by omega), bd_s, i0e_f (by omega) (by omega), g1, bv_s, sv_s]
          exact k2
/-! ===== beside ===== -/
theorem beside_l {u : Nat} (hu : u = 1 ∨ u = 2) {x0 : Xx} (ok0 : okX x0) {t a b : Nat} (ht : t ≤ 60) (ha : a < 5) (hb : b < 5) (hne : a ≠ b) : ∀ (d n m k : Nat) (v : Int32) (x : Xx) (qa qb : Qq) (Sc : cM) (Sm : mM), t - k = d → k ≤ t → d < n → d < m → okX x → x.2.2[a]? = some qa → x.2.2[b]? = some qb → Sc.2.2 = u → rQ Sc (5 * u + 2 + a) qa → rQ Sc (5 * u + 2 + b) qb → rM Sm x → rI (Sm.1 8) x0 →
    ∃ r Sc' Sm', fX5_beside_58 n Sc (nI a) (nI b) (nI t) v (nI k) = some (r, Sc') ∧ fX6_beside_52 m Sm (nI a) (nI b) (nI t) v (nI k) = some (r, Sm') ∧ frx Sc Sc' u ∧ rM Sm' x0 ∧ mkp Sm Sm' := by
  intro d
  induction d with
  | zero =>
    intro n m k v x qa qb Sc Sm hd hk hn hm ok hqa hqb hs hA hB hM hI
    obtain ⟨n, rfl⟩ : ∃ z, n = z + 1 := ⟨n - 1, by omega⟩
    obtain ⟨m, rfl⟩ : ∃ z, m = z + 1 := ⟨m - 1, by omega⟩
    obtain ⟨T3, g3, a3, c3, -⟩ := m_close hI ok0
    unfold fX5_beside_58 fX6_beside_52
    rw [ile_t (by omega) (by omega), ile_t (by omega) (by omega), g3, bv_s]
    exact ⟨_, _, _, rfl, rfl, frx.rf, a3, c3⟩
  | succ d ih =>
    intro n m k v x qa qb Sc Sm hd hk hn hm ok hqa hqb hs hA hB hM hI
    obtain ⟨n, rfl⟩ : ∃ z, n = z + 1 := ⟨n - 1, by omega⟩
    obtain ⟨m, rfl⟩ : ∃ z, m = z + 1 := ⟨m - 1, by omega⟩
    obtain ⟨S1, e1, r1, f1⟩ := p_minuteGoes hA (okX_at ok hqa) (by omega)
    have s1 : S1.2.2 = u := by rw [f1.1]; exact hs
    have hB1 : rQ S1 (5 * u + 2 + b) qb := rQ_keep hB (f1.2 _ (by omega) (by omega) (by omega)) (f1.2 _ (by omega) (by omega) (by omega)) (f1.2 _ (by omega) (by omega) (by omega))
    obtain ⟨S2, e2, r2, f2⟩ := p_minuteGoes hB1 (okX_at ok hqb) (by omega)
    have hA2 : rQ S2 (5 * u + 2 + a) (qU qa) := rQ_keep r1 (f2.2 _ (by omega) (by omega) (by omega)) (f2.2 _ (by omega) (by omega) (by omega)) (f2.2 _ (by omega) (by omega) (by omega))
    obtain ⟨T1, g1, a1, b1, w1⟩ := m_minuteOn hM ok
    have ok1 : okX (x.1 + nI 1, x.2.1 + nI (mG x.2.2), x.2.2.map qU) := ⟨by dsimp only; rw [List.length_map]; exact ok.1, fun z hz => by
      obtain ⟨y, hy, rfl⟩ := List.mem_map.mp hz
      exact okU (ok.2 y hy)⟩
    have go : ∀ v', ∃ r Sc' Sm', fX5_beside_58 n S2 (nI a) (nI b) (nI t) v' (nI (k + 1)) = some (r, Sc') ∧ fX6_beside_52 m T1 (nI a) (nI b) (nI t) v' (nI (k + 1)) = some (r, Sm') ∧ frx Sc Sc' u ∧ rM Sm' x0 ∧ mkp Sm Sm' := by
      intro v'
      obtain ⟨r, Sc', Sm', k1, k2, k3, k4, k5⟩ := ih n m (k + 1) v' _ (qU qa) (qU qb) S2 T1 (by omega) (by omega) (by omega) (by omega) ok1 (by simp [hqa]) (by simp [hqb]) (by rw [f2.1]; exact s1) hA2 r2 a1 (by rw [b1.2.2 8 (by omega)]; exact hI)
      exact ⟨r, Sc', Sm', k1, k2, ((frx.ofq f1 ha).tr (frx.ofq f2 hb)).tr k3, k4, b1.kp.tr k5⟩
    unfold fX5_beside_58 fX6_beside_52 fX5_beside_108 fX5_beside_121 fX6_beside_79 fX6_beside_93
    rw [ile_f (by omega) (by omega), ile_f (by omega) (by omega), hs, gN hu, g5 ha, cl_n (by omega), e1, bd_s, s1, gN hu, g5 hb, cl_n (by omega), e2, bd_s, g1, bd_s, g5 hb, g5 ha, w1 b qb hqb, w1 a qa hqa]
    simp only [b2_if, nI_add, g5 ha]
    cases qG qa <;> cases qG qb <;> simp only [if_true, Bool.false_eq_true, if_false]
    · rw [show v + (nI 0 - nI 0) = v by rw [show nI 0 - nI 0 = 0 by decide, Int32.add_zero]]; exact go v
    · rw [show nI 1 - nI 0 = nI 1 by decide]; exact go _
    · rw [show nI 0 - nI 1 = -1 by decide]; exact go _
    · rw [show v + (nI 1 - nI 1) = v by rw [show nI 1 - nI 1 = 0 by decide, Int32.add_zero]]; exact go v
theorem t_beside {Sc : cM} {Sm : mM} {x : Xx} {im : Option Xx} {sh : Nat → Sh} (R : Rl Sc Sm x im sh) (x1 x2 x3 : Int32) : Same (fX5_beside Sc x1 x2 x3) (fX6_beside Sm x1 x2 x3) := by
  have hn := R.now
  obtain ⟨ok, hC, hM, -⟩ := id R
  have hM9 := m9 hM
  have hl := ok.1
  rcases lane_c x hl x1 with h | ⟨a, qa, rfl, hqa, ha, ha5⟩
  · refine same_of R (r := -1000000001) ?_ ?_
    · unfold fX5_beside; rw [gN hn.1, has_no hC h, bd_s]; rfl
    · unfold fX6_beside fX6_beside_38; rw [sv_s, m_isLane_no hM9.1 hl h, bd_s]; rfl
  · rcases lane_c x hl x2 with h | ⟨b, qb, rfl, hqb, hb, hb5⟩
    · refine same_of R (r := -1000000001) ?_ ?_
      · unfold fX5_beside; rw [gN hn.1, has_yes hC ok ha, bd_s, i0e_f (by omega) (by omega), gN hn.1, has_no hC h, bd_s]; rfl
      · unfold fX6_beside fX6_beside_38; rw [sv_s, m_isLane_yes hM9.1 hl ha, bd_s, i0e_f (by omega) (by omega), m_isLane_no hM9.1 hl h, bd_s]; rfl
    · by_cases hab : a = b
      · refine same_of R (r := -1000000001) ?_ ?_
        · unfold fX5_beside; rw [gN hn.1, has_yes hC ok ha, bd_s, i0e_f (by omega) (by omega), gN hn.1, has_yes hC ok hb, bd_s, i0e_f (by omega) (by omega), ieq_t hab]
        · unfold fX6_beside fX6_beside_38; rw [sv_s, m_isLane_yes hM9.1 hl ha, bd_s, i0e_f (by omega) (by omega), m_isLane_yes hM9.1 hl hb, bd_s, i0e_f (by omega) (by omega), ieq_t hab]
      · have no : (x3 < nI 1 ∨ nI 60 < x3) → Same (fX5_beside Sc (nI a) (nI b) x3) (fX6_beside Sm (nI a) (nI b) x3) := by
          intro h
          refine same_of R (r := -1000000001) ?_ ?_
          · unfold fX5_beside
            rw [gN hn.1, has_yes hC ok ha, bd_s, i0e_f (by omega) (by omega), gN hn.1, has_yes hC ok hb, bd_s, i0e_f (by omega) (by omega), ieq_f hab (by omega) (by omega)]
            by_cases h1 : x3 < nI 1
            · rw [if_pos h1]
            · rw [if_neg h1, if_neg (by
                have := h.resolve_left h1
                rw [Int32.lt_iff_toInt_lt] at this
                rw [Int32.le_iff_toInt_le]
                omega)]
          · unfold fX6_beside fX6_beside_38
            rw [sv_s, m_isLane_yes hM9.1 hl ha, bd_s, i0e_f (by omega) (by omega), m_isLane_yes hM9.1 hl hb, bd_s, i0e_f (by omega) (by omega), ieq_f hab (by omega) (by omega), q_1, q_60, in_no h, bd_s]
            rfl
        rcases num_c x3 61 (by omega) with h | ⟨t, rfl, ht⟩
        · exact no (h.imp neg_lt1 (fun h => lt_of_le (by omega) h))
        · by_cases h0 : t = 0
          · subst h0; exact no (Or.inl (by decide))
          · obtain ⟨S1, e1, r1, f1⟩ := p_like (u0 := Sc.2.2) (u1 := Sc.2.1) (by omega) (by omega) (Ne.symm hn.2.2) ok hC
            have s1 : S1.2 = Sc.2 := f1.1
            obtain ⟨T1, g1, a1, b1, c1, -⟩ := m_open hM9 ok
            have hF : 60 < lF := by simp [lF]
            unfold fX5_beside fX6_beside
            generalize lF = F at hF ⊢
            obtain ⟨r, Sc', Sm', k1, k2, k3, k4, k5⟩ := beside_l hn.2.1 ok (t := t) (a := a) (b := b) (by omega) ha5 hb5 hab t F F 0 (nI 0) x qa qb S1 T1 (by omega) (by omega) (by omega) (by omega) ok hqa hqb (by rw [s1]) (r1.2.2.2 a qa hqa) (r1.2.2.2 b qb hqb) a1 b1
            refine ⟨r, Sc', Sm', _, im, sh, ?_, ?_, R.step ((f1.tr k3).kp hn.2.1) ((k9.tr c1).tr k5) ok (rC_keep ok.1 hC (f1.tr k3) (by omega) (by omega) hn.2.2) k4⟩
            · rw [gN hn.1, has_yes hC ok ha, bd_s, i0e_f (by omega) (by omega), gN hn.1, has_yes hC ok hb, bd_s, i0e_f (by omega) (by omega), ieq_f hab (by omega) (by omega), ilt_f (by omega) (by omega), ile_t (by omega) (by omega), gN hn.2.1, gN hn.1, e1, bv_s]
              exact k1
            · rw [sv_s, m_isLane_yes hM9.1 hl ha, bd_s, i0e_f (by omega) (by omega), m_isLane_yes hM9.1 hl hb, bd_s, i0e_f (by omega) (by omega), ieq_f hab (by omega) (by omega), q_1, q_60, in_yes (nI_nlt (by omega) (by omega)) (nI_nlt (by omega) (by omega)), bd_s, i0e_f (by omega) (by omega), g1, bv_s]
              exact k2
