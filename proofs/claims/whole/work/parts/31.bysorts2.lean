/-! ===== lanes by sorts: all ways ===== -/
theorem range_cons {k n : Nat} (h : 0 < n) : List.range' k n = k :: List.range' (k + 1) (n - 1) := by
  obtain ⟨n, rfl⟩ : ∃ z, n = z + 1 := ⟨n - 1, by omega⟩
  rw [List.range'_succ, Nat.add_sub_cancel]
theorem by_l {u : Nat} (hu : u = 1 ∨ u = 2) {x : Xx} (ok : okX x) (h1 : 1 ≤ x.2.2.length) {d w2 : Nat} (hd : d < 8) {h : Sh} (hk : h.1 = 2) {L0 : List Nat} (hL0 : h.2.2 = L0.map nI) (hLl : L0.length ≤ 20) (hL4 : ∀ s ∈ L0, s < 4) {N : Nat} (hN1 : 1 ≤ N) (hN2 : N ≤ 625) : ∀ (e n m k D : Nat) (lw ls best least : Int32) (Sc : cM) (Sm : mM), 5000 - D = e → D ≤ 5000 → k ≤ N → N - k < n → e < m → (List.range' k (N - k)).map (dg x.2.2.length) = (List.range' D (5000 - D)).filter (may x.2.2.length) → ((k = 0 ∧ lw = nI 0 ∧ ls = nI 2147483647 ∧ best = -4 ∧ least = -4) ∨ (∃ w0 b, w0 < N ∧ b < 20000 ∧ lw = nI w0 ∧ ls = nI b ∧ best = nI (dg x.2.2.length w0) ∧ least = nI b)) → Sc.2.1 = u → rC Sc u x → rM Sm x → rsC Sc d h → rsM Sm d h →
    ∃ r Sc' Sm', fX5_bySorts_59 n Sc (nI d) (nI w2) (nI N) lw ls (nI k) = some (r, Sc') ∧ fX6_bySorts_42 m Sm (nI d) (nI w2) best least (nI D) = some (r, Sm') ∧ cKp Sc Sc' ∧ mkp Sm Sm' ∧ rC Sc' u x ∧ rM Sm' x := by
  have hl := ok.1
  intro e
  induction e with
  | zero =>
    intro n m k D lw ls best least Sc Sm he hD hk1 hn hm hR hb hs hC hM sc sm
    obtain ⟨n, rfl⟩ : ∃ z, n = z + 1 := ⟨n - 1, by omega⟩
    obtain ⟨m, rfl⟩ : ∃ z, m = z + 1 := ⟨m - 1, by omega⟩
    have hkN : N - k = 0 := by
      rw [he] at hR
      have := congrArg List.length hR
      simp at this
      omega
    rcases hb with ⟨h0, -⟩ | ⟨w0, b, hw0, hb, rfl, rfl, rfl, rfl⟩
    · omega
    · obtain ⟨S', p1, p2⟩ := p_digits hu ok h1 (S := Sc) (w := w0) (by omega) hs hC
      unfold fX5_bySorts_59 fX6_bySorts_42
      rw [ile_t (by omega) (by omega), ile_t (by omega) (by omega), p1, bd_s]
      by_cases c : nI w2 = 0
      · rw [if_pos c, if_pos c]
        exact ⟨_, _, _, rfl, rfl, p2.kp (by omega), mkp.rf, p2.rC (by omega) hu hl hC, hM⟩
      · rw [if_neg c, if_neg c]
        exact ⟨_, _, _, rfl, rfl, cKp.rf, mkp.rf, hC, hM⟩
  | succ e ih =>
    intro n m k D lw ls best least Sc Sm he hD hk1 hn hm hR hb hs hC hM sc sm
    obtain ⟨n, rfl⟩ : ∃ z, n = z + 1 := ⟨n - 1, by omega⟩
    obtain ⟨m, rfl⟩ : ∃ z, m = z + 1 := ⟨m - 1, by omega⟩
    rw [range_cons (k := D) (by omega)] at hR
    rw [m_step hM hl (by omega)]
    by_cases hmay : may x.2.2.length D = true
    · rw [List.filter_cons_of_pos hmay] at hR
      have hkN : 0 < N - k := by
        rcases Nat.eq_zero_or_pos (N - k) with h0 | h0
        · rw [h0] at hR; simp at hR
        · exact h0
      rw [range_cons (k := k) hkN, List.map_cons] at hR
      injection hR with hD2 hR2
      have hF : 110 < lF := by simp [lF]
      obtain ⟨S1, p1, p2, p3⟩ := p_tell hu ok h1 (S := Sc) (w := k) (by omega) hs hC
      have hC1 := p2.rC (by omega) hu hl hC
      have hs1 : S1.2.1 = u := by rw [p2.1]; exact hs
      obtain ⟨S2, z1, z2, z3⟩ : ∃ S2, fX5_toldSum_7 (53 + d) lF S1 (nI 0) = fX5_toldSum_36 (53 + d) lF S2 (nI 0) (nI 0) ∧ c1 69 S1 S2 ∧ ∀ j, j < x.2.2.length → S2.1 69 j = nI 0 := zero_l hu ok x.2.2.length lF 0 S1 (by omega) (by omega) (by omega) hs1 hC1 (fun j hj => by omega)
      have hC2 := z2.rC (by omega) hu hl hC1
      obtain ⟨T2, y1, y2, y3⟩ : ∃ T2, fX6_beginFree Sm (nI 1) = some T2 ∧ m1 17 Sm T2 ∧ ∀ j, j < 5 → T2.1 17 j = nI 0 := m_zero_l 5 lF 0 Sm (by omega) (by omega) (by omega) (fun j hj => by omega)
      have hM2 := y2.rM (by omega) hM
      have sc2 : rsC S2 d h := rsC_keep hd sc (fun r hr => by rw [z2.2 r (by omega), p2.2 r (by omega)])
      have sm2 : rsM T2 d h := rsM_keep sm (y2.kp (by omega))
      have hE : eqE 0 x.2.2.length S2 T2 := fun j hj => ⟨0, Nat.le_refl _, z3 j hj, y3 j (by omega)⟩
      have ht : hL (S2.1 72) [k % x.2.2.length, k / x.2.2.length % x.2.2.length, k / x.2.2.length / x.2.2.length % x.2.2.length, k / x.2.2.length / x.2.2.length / x.2.2.length % x.2.2.length] := by rw [z2.2 72 (by omega)]; exact p3
      have hD2' : dgt (k % x.2.2.length) (k / x.2.2.length % x.2.2.length) (k / x.2.2.length / x.2.2.length % x.2.2.length) (k / x.2.2.length / x.2.2.length / x.2.2.length % x.2.2.length) = D := hD2
      obtain ⟨v, S3, T3, j0, j1, j2, j3, j4⟩ : ∃ v Sc' Sm', v < 20000 ∧ fX5_toldSum_36 (53 + d) lF S2 (nI 0) (nI 0) = some (nI v, Sc') ∧ fX6_bySorts_128 (fX6_bySorts_42 m) lF T2 (nI d) (nI w2) best least (nI D) (nI 0) (nI 0) = fX6_bySorts_42 m Sm' (nI d) (nI w2) (upS best least (nI D) (nI v)).1 (upS best least (nI D) (nI v)).2 (nI (D + 1)) ∧ c1 69 S2 Sc' ∧ m1 17 T2 Sm' := by
        have q := told_l hu ok hd hk hL0 hLl hL4 (Nat.mod_lt k (by omega)) (Nat.mod_lt (k / x.2.2.length) (by omega)) (Nat.mod_lt (k / x.2.2.length / x.2.2.length) (by omega)) (Nat.mod_lt (k / x.2.2.length / x.2.2.length / x.2.2.length) (by omega)) (K := fX6_bySorts_42 m) (x2 := nI w2) (best := best) (least := least) L0 lF lF 0 0 0 S2 T2 rfl (by omega) (by omega) (by omega) (by omega) (by omega) (by rw [z2.1]; exact hs1) hC2 hM2 sc2 sm2 ht hE
        rw [hD2'] at q
        exact q
      have hC3 := j3.rC (by omega) hu hl hC2
      have hM3 := j4.rM (by omega) hM2
      have ec : fX5_bySorts_59 (n + 1) Sc (nI d) (nI w2) (nI N) lw ls (nI k) = if ls ≤ nI v then fX5_bySorts_59 n S3 (nI d) (nI w2) (nI N) lw ls (nI (k + 1)) else fX5_bySorts_59 n S3 (nI d) (nI w2) (nI N) (nI k) (nI v) (nI (k + 1)) := by
        conv => lhs; unfold fX5_bySorts_59
        unfold fX5_toldSum fX5_bySorts_95
        rw [ile_f (by omega) (by omega), g8 hd, cl_n (by omega), p1, bv_s, z1, j1, bd_s, nI_add]
      have ck : cKp Sc S3 := ((p2.kp (by omega)).tr (z2.kp (by omega))).tr (j3.kp (by omega))
      have mk : mkp Sm T3 := (y2.kp (by omega)).tr (j4.kp (by omega))
      have s3 : S3.2.1 = u := by rw [j3.1, z2.1]; exact hs1
      have sc3 : rsC S3 d h := rsC_keep hd sc2 (fun r hr => j3.2 r (by omega))
      have sm3 : rsM T3 d h := rsM_keep sm2 (j4.kp (by omega))
      rw [show N - k - 1 = N - (k + 1) by omega, show 5000 - D - 1 = 5000 - (D + 1) by omega] at hR2
      rw [if_pos hmay, y1, bv_s, j2, ec]
      -- the better of the two
      have up : ∃ lw' ls', (if ls ≤ nI v then fX5_bySorts_59 n S3 (nI d) (nI w2) (nI N) lw ls (nI (k + 1)) else fX5_bySorts_59 n S3 (nI d) (nI w2) (nI N) (nI k) (nI v) (nI (k + 1))) = fX5_bySorts_59 n S3 (nI d) (nI w2) (nI N) lw' ls' (nI (k + 1)) ∧ ∃ w0 b, w0 < N ∧ b < 20000 ∧ lw' = nI w0 ∧ ls' = nI b ∧ (upS best least (nI D) (nI v)).1 = nI (dg x.2.2.length w0) ∧ (upS best least (nI D) (nI v)).2 = nI b := by
        unfold upS
        rcases hb with ⟨h0, rfl, rfl, rfl, rfl⟩ | ⟨w0, b, hw0, hb, rfl, rfl, rfl, rfl⟩
        · rw [ile_f (by omega) (by omega), if_pos (by decide)]
          exact ⟨_, _, rfl, k, v, by omega, j0, rfl, rfl, by rw [hD2], rfl⟩
        · have hdg : dg x.2.2.length w0 < 2147483648 := by
            have g0 := Nat.mod_lt w0 (show x.2.2.length > 0 by omega)
            have g1 := Nat.mod_lt (w0 / x.2.2.length) (show x.2.2.length > 0 by omega)
            have g2 := Nat.mod_lt (w0 / x.2.2.length / x.2.2.length) (show x.2.2.length > 0 by omega)
            have g3 := Nat.mod_lt (w0 / x.2.2.length / x.2.2.length / x.2.2.length) (show x.2.2.length > 0 by omega)
            unfold dg dgt
            omega
          rw [i0n_f hdg]
          by_cases c : b ≤ v
          · rw [ile_t c (by omega), ile_t c (by omega)]
            exact ⟨_, _, rfl, w0, b, hw0, hb, rfl, rfl, rfl, rfl⟩
          · rw [ile_f (by omega) (by omega), ile_f (by omega) (by omega)]
            exact ⟨_, _, rfl, k, v, by omega, j0, rfl, rfl, by rw [hD2], rfl⟩
      clear hb
      obtain ⟨lw', ls', u1, u2⟩ := up
      rw [u1]
      obtain ⟨r, Sc', Sm', q1, q2, q3, q4, q5, q6⟩ := ih n m (k + 1) (D + 1) lw' ls' _ _ S3 T3 (by clear u2; omega) (by clear u2; omega) (by clear u2; omega) (by clear u2; omega) (by clear u2; omega) hR2 (Or.inr u2) s3 hC3 hM3 sc3 sm3
      exact ⟨r, Sc', Sm', q1, q2, ck.tr q3, mk.tr q4, q5, q6⟩
    · rw [List.filter_cons_of_neg hmay, show 5000 - D - 1 = 5000 - (D + 1) by omega] at hR
      rw [if_neg hmay]
      exact ih (n + 1) m k (D + 1) lw ls best least Sc Sm (by clear hb; omega) (by clear hb; omega) hk1 hn (by clear hb; omega) hR hb hs hC hM sc sm
theorem by_0 {S : mM} {x : Xx} (hM : rM S x) (h0 : x.2.2.length = 0) {x1 x2 : Int32} : ∀ (e m D : Nat), 5000 - D = e → D ≤ 5000 → e < m → fX6_bySorts_42 m S x1 x2 (-4) (-4) (nI D) = some (-4, S) := by
  intro e
  induction e with
  | zero =>
    intro m D he hD hm
    obtain ⟨m, rfl⟩ : ∃ z, m = z + 1 := ⟨m - 1, by omega⟩
    unfold fX6_bySorts_42
    rw [ile_t (by omega) (by omega), ite_self]
  | succ e ih =>
    intro m D he hD hm
    obtain ⟨m, rfl⟩ : ∃ z, m = z + 1 := ⟨m - 1, by omega⟩
    rw [m_step hM (by omega) (by omega), if_neg (by rw [h0]; unfold may; simp)]
    exact ih m (D + 1) (by omega) (by omega) (by omega)
theorem t_bySorts {Sc : cM} {Sm : mM} {x : Xx} {im : Option Xx} {sh : Nat → Sh} (R : Rl Sc Sm x im sh) (x1 x2 : Int32) : Same (fX5_bySorts Sc x1 x2) (fX6_bySorts Sm x1 x2) := by
  have hn := R.now
  obtain ⟨ok, hC, hM, -, -, r6⟩ := id R
  have hM9 := m9 hM
  have hl := ok.1
  have H9 := SH9 R
  rcases num_c x2 2 (by omega) with h | ⟨w, rfl, hw⟩
  · refine same_of R (r := -1) ?_ ?_
    · unfold fX5_bySorts
      by_cases h1 : x2 < 0
      · rw [if_pos h1]
      · rw [if_neg h1, if_neg (not_le_of (by omega) (h.resolve_left h1))]
    · unfold fX6_bySorts fX6_bySorts_24
      rw [sv_s, q_0, q_1, inr_no (by omega) h, bd_s]; rfl
  have ec : fX5_bySorts Sc x1 (nI w) = bd (fX5_sortsRefusal Sc x1) fun v3 S3 => (if v3 = 0 then gn S3.2.1 1 3 (if (S3.1 S3.2.1 1) = 0 then some ((-4), S3) else gn S3.2.1 1 3 (bd (fX5_power S3 (S3.1 S3.2.1 1) (nI 4)) fun v8 S8 => (fX5_bySorts_59 lF S8 x1 (nI w) v8 (nI 0) (nI 2147483647) (nI 0)))) else some (v3, S3)) := by
    conv => lhs; unfold fX5_bySorts
    rw [i0n_f (by omega), ile_t (by omega) (by omega)]
  have em : fX6_bySorts Sm x1 (nI w) = bd (fX6_wrongSorts (mS Sm 0 9 (nI 0)) x1) fun v4 S4 => fX6_bySorts_24 S4 x1 (nI w) v4 := by
    conv => lhs; unfold fX6_bySorts
    rw [sv_s, q_0, q_1, inr_yes (by omega) (by omega), bd_s, i0e_f (by omega) (by omega)]
  rw [ec, em]
  rcases sorts_c H9 x1 with ⟨rc, h1, h2, h3, h4⟩ | ⟨d, L, rfl, hd, hk, hL, hL4, hLl, h1, h2⟩
  · refine same_of R (r := rc) ?_ ?_
    · rw [h1, bd_s, if_neg h3]
    · rw [h2, bd_s]; unfold fX6_bySorts_24; rw [if_neg h4]
  · obtain ⟨okd, cd, md⟩ := H9 d hd
    have hF : 6000 < lF := by simp [lF]
    by_cases h0 : x.2.2.length = 0
    · refine same_of R (r := -4) ?_ ?_
      · rw [h1, bd_s, if_pos nI_0, gN hn.1, hC.1, i0e_t h0]
      · rw [h2, bd_s]
        unfold fX6_bySorts_24
        rw [if_pos (by decide)]
        generalize lF = F at hF ⊢
        exact by_0 hM9 h0 5000 F 0 (by omega) (by omega) (by omega)
    · have hN1 : 1 ≤ x.2.2.length ^ 4 := Nat.pos_of_ne_zero (fun h => h0 (Nat.pow_eq_zero.mp h).1)
      have hN2 : x.2.2.length ^ 4 ≤ 5 ^ 4 := Nat.pow_le_pow_left hl 4
      have h625 : (5 : Nat) ^ 4 = 625 := by decide
      have pw := p_pow (S := Sc) (b := x.2.2.length) (e := 4) (by omega) 4 lF 0 1 (by omega) (by omega) (by omega)
      unfold fX6_bySorts_24 fX5_power
      have R0 : (List.range' 0 (x.2.2.length ^ 4 - 0)).map (dg x.2.2.length) = (List.range' 0 (5000 - 0)).filter (may x.2.2.length) := ways_n (by omega) hl
      obtain ⟨r, Sc', Sm', q1, q2, q3, q4, q5, q6⟩ : ∃ r Sc' Sm', fX5_bySorts_59 lF Sc (nI d) (nI w) (nI (x.2.2.length ^ 4)) (nI 0) (nI 2147483647) (nI 0) = some (r, Sc') ∧ fX6_bySorts_42 lF (mS Sm 0 9 (nI 0)) (nI d) (nI w) (-4) (-4) (nI 0) = some (r, Sm') ∧ cKp Sc Sc' ∧ mkp (mS Sm 0 9 (nI 0)) Sm' ∧ rC Sc' Sc.2.1 x ∧ rM Sm' x := by
        generalize lF = F at hF ⊢
        exact by_l hn.1 ok (by omega) (w2 := w) hd hk hL hLl hL4 (N := x.2.2.length ^ 4) hN1 (by omega) 5000 F F 0 0 (nI 0) (nI 2147483647) (-4) (-4) Sc _ (by omega) (by omega) (by omega) (by omega) (by omega) R0 (Or.inl ⟨rfl, rfl, rfl, rfl, rfl⟩) rfl hC hM9 cd md
      refine ⟨r, Sc', Sm', x, im, sh, ?_, ?_, R.step q3 (k9.tr q4) ok q5 q6⟩
      · rw [h1, bd_s, if_pos nI_0, gN hn.1, gN hn.1, hC.1, i0e_f (by omega) (by omega), pw, bd_s, Nat.one_mul]
        exact q1
      · rw [h2, bd_s, if_pos (by decide)]
        exact q2
