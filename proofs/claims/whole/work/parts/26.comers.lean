/-! ===== rows of sorts ===== -/
theorem bytes_c {Sc : cM} {Sm : mM} {sh : Nat → Sh} (H : SH Sc Sm sh) (z : Int32) :
    (∃ rc : Int32, fX5_bytesRefusal Sc z = some (rc, Sc) ∧ fX6_wrongBytes Sm z = some (rc, Sm) ∧ ¬ rc = 0 ∧ ¬ (0 : Int32) ≤ rc) ∨
    ∃ d, z = nI d ∧ d < 8 ∧ (sh d).1 = 2 ∧ (sh d).2.1.1 = 0 ∧ fX5_bytesRefusal Sc z = some (nI 0, Sc) ∧ fX6_wrongBytes Sm z = some (nI 0, Sm) := by
  rcases shelf_c H (Or.inr rfl) z with ⟨rc, h1, h2, -, h3, h4, -⟩ | ⟨d, rfl, hd, hk, h1, h2, -⟩
  · refine Or.inl ⟨rc, ?_, ?_, h3, h4⟩
    · unfold fX5_bytesRefusal fX5_rowRefusal; rw [h1, bd_s, bd_s, if_neg h3]
    · unfold fX6_wrongBytes; rw [h2 rfl, bd_s, if_neg h4, h2 rfl, bd_s]
  · obtain ⟨okd, cd, md⟩ := H d hd
    have hst := (okd.2.2 hk).1
    have e1 : fX5_bytesRefusal Sc (nI d) = if nI (sh d).2.1.1 = 0 then some (nI 0, Sc) else some (-12, Sc) := by
      unfold fX5_bytesRefusal fX5_rowRefusal
      rw [h1, bd_s, bd_s, if_pos nI_0, g8 hd, cl_n (by omega), (cd.2.2 hk).1]
    have e2 : fX6_wrongBytes Sm (nI d) = if nI (sh d).2.1.1 = 0 then some (nI 0, Sm) else some (-12, Sm) := by
      unfold fX6_wrongBytes
      rw [h2 rfl, bd_s, if_pos (by decide), g8 hd, cl_n (by omega), (md.2.2 hk).1]
    by_cases h0 : (sh d).2.1.1 = 0
    · exact Or.inr ⟨d, rfl, hd, hk, h0, by rw [e1, i0e_t h0], by rw [e2, i0e_t h0]⟩
    · exact Or.inl ⟨-12, by rw [e1, i0e_f (by omega) (by omega)], by rw [e2, i0e_f (by omega) (by omega)], by decide, by decide⟩
theorem sorts_l {Sc : cM} {Sm : mM} {h : Sh} {d : Nat} (hd : d < 8) (okd : okS h) (hk : h.1 = 2) (cd : rsC Sc d h) (md : rsM Sm d h) : ∀ (l : List Int32) (n m k : Nat), h.2.2.drop k = l → k ≤ 100 → l.length < n → l.length + 1 < m →
    (fX5_sortsRefusal_34 n Sc (53 + d) (nI k) = some (-13, Sc) ∧ fX6_wrongSorts_32 m Sm (nI d) (nI 1) (nI k) = some (-13, Sm)) ∨
    (fX5_sortsRefusal_34 n Sc (53 + d) (nI k) = some (nI 0, Sc) ∧ fX6_wrongSorts_32 m Sm (nI d) (nI 1) (nI k) = some (nI 0, Sm) ∧ ∃ L : List Nat, l = L.map nI ∧ ∀ s ∈ L, s < 4) := by
  have hlen := (okd.2.2 hk).2.1
  intro l
  induction l with
  | nil =>
    intro n m k e hk1 hn hm
    have := dropN e
    obtain ⟨n, rfl⟩ : ∃ z, n = z + 1 := ⟨n - 1, by omega⟩
    obtain ⟨m, rfl⟩ : ∃ z, m = z + 1 := ⟨m - 1, by omega⟩
    refine Or.inr ⟨?_, ?_, [], rfl, fun s hs => by cases hs⟩
    · unfold fX5_sortsRefusal_34
      rw [(cd.2.2 hk).2.1, ile_t (by omega) (by omega)]
    · unfold fX6_wrongSorts_32 fX6_wrongSorts_73
      rw [g8 hd, cl_n (by omega), (md.2.2 hk).2.1, ile_t (by omega) (by omega), i0e_f (by omega) (by omega)]
  | cons v l ih =>
    intro n m k e hk1 hn hm
    obtain ⟨e1, e2, e3⟩ := dropC e
    simp only [List.length_cons] at hn hm
    obtain ⟨n, rfl⟩ : ∃ z, n = z + 1 := ⟨n - 1, by omega⟩
    obtain ⟨m, rfl⟩ : ∃ z, m = z + 1 := ⟨m - 1, by omega⟩
    have ec : fX5_sortsRefusal_34 (n + 1) Sc (53 + d) (nI k) = bd (fX5_isSort Sc v) fun v9 S9 => if v9 = 0 then some (-13, S9) else fX5_sortsRefusal_34 n S9 (53 + d) (nI (k + 1)) := by
      conv => lhs; unfold fX5_sortsRefusal_34
      rw [(cd.2.2 hk).2.1, ile_f (by omega) (by omega), gi_n (show k < 100 by omega) (by omega), cl_n (by omega), show 53 + d + 8 = 61 + d by omega, (cd.2.2 hk).2.2 k v e1, nI_add]
    have em : fX6_wrongSorts_32 (m + 1) Sm (nI d) (nI 1) (nI k) = bd (fX6_in Sm v.toInt64 0 3) fun v13 S13 => fX6_wrongSorts_32 m S13 (nI d) v13 (nI (k + 1)) := by
      conv => lhs; unfold fX6_wrongSorts_32
      rw [g8 hd, cl_n (by omega), (md.2.2 hk).2.1, ile_f (by omega) (by omega), i0e_f (by omega) (by omega), pk_mul, nI_add, gi_n (show 100 * d + k < 800 by omega) (by omega), cl_n (by omega), (md.2.2 hk).2.2 k v e1, nI_add]
    rw [ec, em, q_0, q_3]
    rcases num_c v 4 (by omega) with h | ⟨s, rfl, hs⟩
    · refine Or.inl ⟨?_, ?_⟩
      · rw [p_sort_no h, bd_s]; rfl
      · rw [inr_no (by omega) h, bd_s]
        obtain ⟨m, rfl⟩ : ∃ z, m = z + 1 := ⟨m - 1, by omega⟩
        unfold fX6_wrongSorts_32 fX6_wrongSorts_73
        rw [g8 hd]
        simp only [i0e_t (a := 0) rfl, ite_self]
    · rw [p_sort_yes hs, bd_s, i0e_f (by omega) (by omega), inr_yes (by omega) (by omega), bd_s]
      rcases ih n m (k + 1) e2 (by omega) (by omega) (by omega) with h | ⟨h1, h2, L, rfl, hL⟩
      · exact Or.inl h
      · exact Or.inr ⟨h1, h2, s :: L, rfl, fun z hz => by
          rcases List.mem_cons.mp hz with rfl | hz
          · exact hs
          · exact hL z hz⟩
theorem sorts_c {Sc : cM} {Sm : mM} {sh : Nat → Sh} (H : SH Sc Sm sh) (z : Int32) :
    (∃ rc : Int32, fX5_sortsRefusal Sc z = some (rc, Sc) ∧ fX6_wrongSorts Sm z = some (rc, Sm) ∧ ¬ rc = 0 ∧ ¬ (0 : Int32) ≤ rc) ∨
    ∃ d, ∃ L : List Nat, z = nI d ∧ d < 8 ∧ (sh d).1 = 2 ∧ (sh d).2.2 = L.map nI ∧ (∀ s ∈ L, s < 4) ∧ L.length ≤ 20 ∧ fX5_sortsRefusal Sc z = some (nI 0, Sc) ∧ fX6_wrongSorts Sm z = some (nI 0, Sm) := by
  rcases bytes_c H z with ⟨rc, h1, h2, h3, h4⟩ | ⟨d, rfl, hd, hk, h0, h1, h2⟩
  · refine Or.inl ⟨rc, ?_, ?_, h3, h4⟩
    · unfold fX5_sortsRefusal; rw [h1, bd_s, if_neg h3]
    · unfold fX6_wrongSorts; rw [h2, bd_s, if_neg h4]
  · obtain ⟨okd, cd, md⟩ := H d hd
    have hlen := (okd.2.2 hk).2.1
    have hF : 110 < lF := by simp [lF]
    have e1 : fX5_sortsRefusal Sc (nI d) = if nI (sh d).2.2.length ≤ nI 20 then fX5_sortsRefusal_34 lF Sc (53 + d) (nI 0) else some (-13, Sc) := by
      unfold fX5_sortsRefusal
      rw [h1, bd_s, if_pos nI_0, g8 hd, cl_n (by omega), (cd.2.2 hk).2.1]
    have e2 : fX6_wrongSorts Sm (nI d) = if nI 20 < nI (sh d).2.2.length then fX6_wrongSorts_28 Sm (nI d) (nI 0) else fX6_wrongSorts_28 Sm (nI d) (nI 1) := by
      unfold fX6_wrongSorts
      rw [h2, bd_s, if_pos (by decide), g8 hd, cl_n (by omega), (md.2.2 hk).2.1]
    rw [e1, e2]
    unfold fX6_wrongSorts_28
    generalize lF = F at hF ⊢
    by_cases h20 : (sh d).2.2.length ≤ 20
    · rw [ile_t h20 (by omega), ilt_f h20 (by omega)]
      rcases sorts_l hd okd hk cd md (sh d).2.2 F F 0 rfl (by omega) (by omega) (by omega) with ⟨k1, k2⟩ | ⟨k1, k2, L, hL, hL4⟩
      · exact Or.inl ⟨-13, k1, k2, by decide, by decide⟩
      · exact Or.inr ⟨d, L, rfl, hd, hk, hL, hL4, by rw [hL, List.length_map] at h20; exact h20, k1, k2⟩
    · rw [ile_f (by omega) (by omega), ilt_t (by omega) (by omega)]
      refine Or.inl ⟨-13, rfl, ?_, by decide, by decide⟩
      obtain ⟨F, rfl⟩ : ∃ z, F = z + 1 := ⟨F - 1, by omega⟩
      unfold fX6_wrongSorts_32 fX6_wrongSorts_73
      rw [g8 hd]
      simp only [i0e_t (a := 0) rfl, ite_self]
/-! ===== comers ===== -/
def ch (x : Xx) (r k s : Nat) : Option Nat := if r = 0 then (wh qS x.2.2 0 none).map Prod.fst else if r = 1 then (wh (fun q => qN q s) x.2.2 0 none).map Prod.fst else match x.2.2[k % x.2.2.length]? with
  | some q => if qM q = true then some (k % x.2.2.length) else none
  | none => none
theorem fI_gI (b : Option (Nat × Nat)) : fI b = gI (b.map Prod.fst) := by
  cases b with
  | none => rfl
  | some a => rfl
theorem ch_may {x : Xx} {r k s j : Nat} (h : ch x r k s = some j) : ∃ q, x.2.2[j]? = some q ∧ qM q = true := by
  unfold ch at h
  split at h
  · cases hb : wh qS x.2.2 0 none with
    | none => rw [hb] at h; cases h
    | some jv =>
      obtain ⟨j', v⟩ := jv
      rw [hb] at h
      simp only [Option.map_some, Option.some.injEq] at h
      subst h
      exact wh_may0 hb
  · split at h
    · cases hb : wh (fun q => qN q s) x.2.2 0 none with
      | none => rw [hb] at h; cases h
      | some jv =>
        obtain ⟨j', v⟩ := jv
        rw [hb] at h
        simp only [Option.map_some, Option.some.injEq] at h
        subst h
        exact wh_may0 hb
    · split at h
      · rename_i q hq
        split at h
        · rename_i hm
          simp only [Option.some.injEq] at h
          subst h
          exact ⟨q, hq, hm⟩
        · cases h
      · cases h
def ch2 (x : Xx) (k : Nat) : Option Nat := match x.2.2[k % x.2.2.length]? with
  | some q => if qM q = true then some (k % x.2.2.length) else none
  | none => none
theorem ch_0 {x : Xx} {k s : Nat} : ch x 0 k s = (wh qS x.2.2 0 none).map Prod.fst := id rfl
theorem ch_1 {x : Xx} {k s : Nat} : ch x 1 k s = (wh (fun q => qN q s) x.2.2 0 none).map Prod.fst := id rfl
theorem ch_2 {x : Xx} {k s : Nat} : ch x 2 k s = ch2 x k := id rfl
theorem p_ch {S : cM} {u : Nat} {x : Xx} (hu : u = 1 ∨ u = 2) (hs : S.2.2 = u) (h : rC S u x) (ok : okX x) {r k s : Nat} (hr : r ≤ 2) (hk : k < 1000) (hs4 : s < 4) : fX5_chosen S (nI r) (nI k) (nI s) = some (gI (ch x r k s), S) := by
  have hl := ok.1
  unfold fX5_chosen
  rw [hs, gN hu, gN hu, gN hu, gN hu, gN hu, p_which h ok, bd_s, p_best h ok hs4, bd_s, fI_gI, fI_gI]
  rcases (show r = 0 ∨ r = 1 ∨ r = 2 by omega) with rfl | rfl | rfl
  · rw [ch_0]; rfl
  · rw [ch_1, i0e_f (by omega) (by omega), ieq_t rfl]
  · rw [ch_2, i0e_f (by omega) (by omega), ieq_f (by omega) (by omega) (by omega), h.1]
    unfold ch2
    by_cases h0 : x.2.2.length = 0
    · rw [i0e_t h0, List.eq_nil_of_length_eq_zero h0]; rfl
    · rw [i0e_f (by omega) (by omega), gz_n (by omega) (by omega), pk_rem (by omega) (by omega) (by omega)]
      have hj : k % x.2.2.length < x.2.2.length := Nat.mod_lt _ (by omega)
      have hq : x.2.2[k % x.2.2.length]? = some x.2.2[k % x.2.2.length] := List.getElem?_eq_getElem hj
      generalize x.2.2[k % x.2.2.length] = q at hq
      rw [g5 (by omega), cl_n (by omega), p_mayBeChosen (h.2.2.2 _ q hq) (okX_at ok hq), bd_s, hq, b2_if]
      show _ = some (gI (if qM q = true then some (k % x.2.2.length) else none), S)
      cases qM q <;> rfl
theorem m_ch {S : mM} {x : Xx} (h : rM S x) (ok : okX x) {r k s : Nat} (hr : r ≤ 2) (hk : k < 1000) (hs4 : s < 4) : fX6_chosen S (nI r) (nI s) (nI k) = some (gI (ch x r k s), S) := by
  have hl := ok.1
  unfold fX6_chosen
  rw [m_which h ok, bd_s, m_best h ok hs4, bd_s, fI_gI, fI_gI]
  rcases (show r = 0 ∨ r = 1 ∨ r = 2 by omega) with rfl | rfl | rfl
  · rw [ch_0]; rfl
  · rw [ch_1, i0e_f (by omega) (by omega), ieq_t rfl]
  · rw [ch_2, i0e_f (by omega) (by omega), ieq_f (by omega) (by omega) (by omega), h.1]
    unfold ch2
    by_cases h0 : x.2.2.length = 0
    · rw [i0l_t h0, List.eq_nil_of_length_eq_zero h0]; rfl
    · rw [i0l_f (by omega) (by omega), gz_n (by omega) (by omega), pk_rem (by omega) (by omega) (by omega)]
      have hj : k % x.2.2.length < x.2.2.length := Nat.mod_lt _ (by omega)
      have hq : x.2.2[k % x.2.2.length]? = some x.2.2[k % x.2.2.length] := List.getElem?_eq_getElem hj
      generalize x.2.2[k % x.2.2.length] = q at hq
      rw [m_mayCome (h.2.2.2 _ q hq) (okX_at ok hq) (by omega), bd_s, h.1, gz_n (by omega) (by omega), pk_rem (by omega) (by omega) (by omega), hq, b2_if]
      show _ = some (gI (if qM q = true then some (k % x.2.2.length) else none), S)
      cases qM q <;> rfl
theorem xB_0 {x : Xx} : xB 0 x = x := by
  show (x.1 + 0, x.2.1 + 0, x.2.2) = x
  rw [Int32.add_zero, Int32.add_zero]
/-- the minutes before a comer -/
theorem before_c {u : Nat} (hu : u = 1 ∨ u = 2) {x x0 : Xx} {Sc : cM} {Sm : mM} (ok : okX x) (hs : Sc.2.2 = u) (hC : rC Sc u x) (hM : rM Sm x) (hI : rI (Sm.1 8) x0) {t k : Nat} (ht : t ≤ 9) (hk : k < 2147483648) (K : cM → Option (Int32 × cM)) :
    ∃ x1 Sc1 Sm1 r, okX x1 ∧ Sc1.2.2 = u ∧ rC Sc1 u x1 ∧ rM Sm1 x1 ∧ rI (Sm1.1 8) x0 ∧ frx Sc Sc1 u ∧ mkp Sm Sm1 ∧ x1.2.2.length = x.2.2.length ∧ (if nI k ≤ 0 then K Sc else gn Sc.2.2 1 3 (bd (fX1_goBy Sc.2.2 Sc (nI t)) fun _ S34 => K S34)) = K Sc1 ∧ fX6_goBy Sm (if nI k ≤ 0 then nI 0 else nI t) = some (r, Sm1) := by
  by_cases h0 : k = 0
  · obtain ⟨T1, g1, a1, b1⟩ := m_goBy hM ok (t := 0) (by omega)
    rw [xB_0] at a1
    exact ⟨x, Sc, T1, _, ok, hs, hC, a1, by rw [b1.2.2 8 (by omega)]; exact hI, frx.rf, b1.kp, rfl, by rw [i0l_t h0], by rw [i0l_t h0]; exact g1⟩
  · obtain ⟨S2, e2, r2, f2⟩ := p_goBy (by omega) hC ok (t := t) (by omega)
    obtain ⟨T2, g2, a2, b2⟩ := m_goBy hM ok (t := t) (by omega)
    refine ⟨xB t x, S2, T2, nI (gB t x.2.2).1, xB_ok ok, by rw [f2.1]; exact hs, r2, a2, by rw [b2.2.2 8 (by omega)]; exact hI, f2, b2.kp, (gB_ok t x.2.2 ok.1 ok.2).1, ?_, ?_⟩
    · rw [i0l_f (by omega) (by omega), hs, gN hu, e2, bd_s]
    · rw [i0l_f (by omega) (by omega)]; exact g2
theorem comers_l {u : Nat} (hu : u = 1 ∨ u = 2) {x0 : Xx} (ok0 : okX x0) {d t r w : Nat} (hd : d < 8) (ht : t ≤ 9) (hr : r ≤ 2) {h : Sh} (hk : h.1 = 2) {L0 : List Nat} (hL0 : h.2.2 = L0.map nI) (hLl : L0.length ≤ 20) (hL4 : ∀ s ∈ L0, s < 4) : ∀ (L : List Nat) (n m k : Nat) (c v : Int32) (x : Xx) (Sc : cM) (Sm : mM), L0.drop k = L → k ≤ 20 → L.length < n → L.length < m → okX x → Sc.2.2 = u → rC Sc u x → rM Sm x → rI (Sm.1 8) x0 → rsC Sc d h → rsM Sm d h →
    ∃ r' Sc' Sm', fX5_comers_75 n Sc (nI t) (nI r) (nI w) (53 + d) c v (nI k) = some (r', Sc') ∧ fX6_comers_72 m Sm (nI d) (nI t) (nI r) (nI w) c v (nI k) = some (r', Sm') ∧ frx Sc Sc' u ∧ rM Sm' x0 ∧ mkp Sm Sm' := by
  have hlen : h.2.2.length = L0.length := by rw [hL0, List.length_map]
  intro L
  induction L with
  | nil =>
    intro n m k c v x Sc Sm e hk1 hn hm ok hs hC hM hI sc sm
    have := dropN e
    obtain ⟨n, rfl⟩ : ∃ z, n = z + 1 := ⟨n - 1, by omega⟩
    obtain ⟨m, rfl⟩ : ∃ z, m = z + 1 := ⟨m - 1, by omega⟩
    obtain ⟨T3, g3, a3, c3, -⟩ := m_close hI ok0
    unfold fX5_comers_75 fX6_comers_72
    rw [(sc.2.2 hk).2.1, ile_t (by omega) (by omega), g8 hd, cl_n (by omega), (sm.2.2 hk).2.1, ile_t (by omega) (by omega), g3, bv_s]
    by_cases hw : nI w = 0
    · rw [if_pos hw, if_pos hw]; exact ⟨_, _, _, rfl, rfl, frx.rf, a3, c3⟩
    · rw [if_neg hw, if_neg hw]; exact ⟨_, _, _, rfl, rfl, frx.rf, a3, c3⟩
  | cons s L ih =>
    intro n m k c v x Sc Sm e hk1 hn hm ok hs hC hM hI sc sm
    obtain ⟨e1, e2, e3⟩ := dropC e
    simp only [List.length_cons] at hn hm
    obtain ⟨n, rfl⟩ : ∃ z, n = z + 1 := ⟨n - 1, by omega⟩
    obtain ⟨m, rfl⟩ : ∃ z, m = z + 1 := ⟨m - 1, by omega⟩
    have hs4 := hL4 s (List.mem_of_getElem? e1)
    have ev : h.2.2[k]? = some (nI s) := by rw [hL0, List.getElem?_map, e1]; rfl
    obtain ⟨x1, S1, T1, r0, ok1, hs1, hC1, hM1, hI1, f1, k1, -, q1, q2⟩ := before_c hu ok hs hC hM hI ht (k := k) (by omega) (fun S => fX5_comers_99 (fX5_comers_75 n) S (nI t) (nI r) (nI w) (53 + d) c v (nI k))
    have sc1 : rsC S1 d h := rsC_keep hd sc (fun r hr => f1.2 r (by unfold inX; omega))
    have sm1 : rsM T1 d h := rsM_keep sm k1
    have ec : fX5_comers_75 (n + 1) Sc (nI t) (nI r) (nI w) (53 + d) c v (nI k) = fX5_comers_99 (fX5_comers_75 n) S1 (nI t) (nI r) (nI w) (53 + d) c v (nI k) := by
      rw [← q1]
      conv => lhs; unfold fX5_comers_75
      rw [(sc.2.2 hk).2.1, ile_f (by omega) (by omega)]
    have em : fX6_comers_72 (m + 1) Sm (nI d) (nI t) (nI r) (nI w) c v (nI k) = fX6_comers_94 (fX6_comers_72 m) Sm (nI d) (nI t) (nI r) (nI w) c v (nI k) (if nI k ≤ 0 then nI 0 else nI t) := by
      conv => lhs; unfold fX6_comers_72
      rw [g8 hd, cl_n (by omega), (sm.2.2 hk).2.1, ile_f (by omega) (by omega)]
      split <;> rfl
    rw [ec, em]
    unfold fX5_comers_99 fX6_comers_94
    rw [q2, bd_s, gi_n (show k < 100 by omega) (by omega), cl_n (by omega), show 53 + d + 8 = 61 + d by omega, (sc1.2.2 hk).2.2 k _ ev, p_ch hu hs1 hC1 ok1 hr (by omega) hs4, bd_s, pk_mul, nI_add, gi_n (show 100 * d + k < 800 by omega) (by omega), cl_n (by omega), (sm1.2.2 hk).2.2 k _ ev, Int32.toInt32_toInt64, m_ch hM1 ok1 hr (by omega) hs4, bd_s]
    cases hb : ch x1 r k s with
    | none =>
      rw [if_pos (show gI none < 0 by decide), if_pos (show gI none < 0 by decide)]
      unfold fX5_comers_171 fX6_comers_153
      rw [nI_add]
      obtain ⟨r', Sc', Sm', w1, w2, w3, w4, w5⟩ := ih n m (k + 1) c v x1 S1 T1 e2 (by omega) (by omega) (by omega) ok1 hs1 hC1 hM1 hI1 sc1 sm1
      exact ⟨r', Sc', Sm', w1, w2, f1.tr w3, w4, k1.tr w5⟩
    | some j =>
      obtain ⟨q, hq, hqM⟩ := ch_may hb
      have hj := (List.getElem?_eq_some_iff.mp hq).1
      have hl := ok1.1
      obtain ⟨S3, e3', r3, f3⟩ := p_xcome (by omega) hC1 ok1 hq hs4 (qM_8 hqM)
      obtain ⟨T3, g3, a3, b3⟩ := m_xcome hM1 ok1 hq hs4 (qM_8 hqM)
      have ok3 := xC_ok ok1 hq hs4 (qM_8 hqM)
      rw [if_neg (show ¬ gI (some j) < 0 from nI_pos (by omega)), if_neg (show ¬ gI (some j) < 0 from nI_pos (by omega)), show gI (some j) = nI j from rfl, hs1, gN hu, g5 (by omega), cl_n (by omega), (sc1.2.2 hk).2.2 k _ ev, p_timeOfNext (hC1.2.2.2 j q hq) (okX_at ok1 hq) hs4, bd_s, hs1, gN hu, g5 (by omega), gi_n (show k < 100 by omega) (by omega), gi_n (show k < 100 by omega) (by omega), (sc1.2.2 hk).2.2 k _ ev, e3', bv_s, m_timeIn (hM1.2.2.2 j q hq) (okX_at ok1 hq) (by omega) hs4, bd_s, g3, bv_s]
      unfold fX5_comers_171 fX6_comers_153
      rw [nI_add]
      obtain ⟨r', Sc', Sm', w1, w2, w3, w4, w5⟩ := ih n m (k + 1) (c + nI 1) (v + nI (qN q s)) _ S3 T3 e2 (by omega) (by omega) (by omega) ok3 (by rw [f3.1]; exact hs1) r3 a3 (by rw [b3.2.2 8 (by omega)]; exact hI1) (rsC_keep hd sc1 (fun r hr => f3.2 r (by unfold inX; omega))) (rsM_keep sm1 b3.kp)
      exact ⟨r', Sc', Sm', w1, w2, (f1.tr f3).tr w3, w4, (k1.tr b3.kp).tr w5⟩
theorem t_comers {Sc : cM} {Sm : mM} {x : Xx} {im : Option Xx} {sh : Nat → Sh} (R : Rl Sc Sm x im sh) (x1 x2 x3 x4 : Int32) : Same (fX5_comers Sc x1 x2 x3 x4) (fX6_comers Sm x1 x2 x3 x4) := by
  have hn := R.now
  obtain ⟨ok, hC, hM, -, -, r6⟩ := id R
  have hM9 := m9 hM
  have hl := ok.1
  have H9 := SH9 R
  rcases num_c x2 10 (by omega) with h | ⟨t, rfl, ht⟩
  · refine same_of R (r := -1) ?_ ?_
    · unfold fX5_comers
      by_cases h1 : x2 < 0
      · rw [if_pos h1]
      · rw [if_neg h1, if_pos (lt_of_le (by omega) (h.resolve_left h1))]
    · unfold fX6_comers fX6_comers_40 fX6_comers_49
      rw [sv_s, q_0, q_9, inr_no (by omega) h, bd_s]; rfl
  rcases num_c x3 3 (by omega) with h | ⟨r, rfl, hr⟩
  · refine same_of R (r := -1) ?_ ?_
    · unfold fX5_comers
      rw [i0n_f (by omega), ilt_f (by omega) (by omega)]
      by_cases h1 : x3 < 0
      · rw [if_pos h1]
      · rw [if_neg h1, if_pos (lt_of_le (by omega) (h.resolve_left h1))]
    · unfold fX6_comers fX6_comers_40 fX6_comers_49
      rw [sv_s, q_0, q_9, inr_yes (by omega) (by omega), bd_s, i0e_f (by omega) (by omega), q_2, inr_no (by omega) h, bd_s]; rfl
  rcases num_c x4 2 (by omega) with h | ⟨w, rfl, hw⟩
  · refine same_of R (r := -1) ?_ ?_
    · unfold fX5_comers
      rw [i0n_f (by omega), ilt_f (by omega) (by omega), i0n_f (by omega), ilt_f (by omega) (by omega)]
      by_cases h1 : x4 < 0
      · rw [if_pos h1]
      · rw [if_neg h1, if_neg (not_le_of (by omega) (h.resolve_left h1))]
    · unfold fX6_comers fX6_comers_40 fX6_comers_49
      rw [sv_s, q_0, q_9, inr_yes (by omega) (by omega), bd_s, i0e_f (by omega) (by omega), q_2, inr_yes (by omega) (by omega), bd_s, i0e_f (by omega) (by omega), q_1, inr_no (by omega) h, bd_s]; rfl
  have ec : fX5_comers Sc x1 (nI t) (nI r) (nI w) = bd (fX5_sortsRefusal Sc x1) fun v7 S7 => (if v7 = 0 then gi x1 8 (gn S7.2.2 1 3 (gn S7.2.1 1 3 (bv (fX1_becomeLike S7.2.2 S7.2.1 S7) fun S13 => (fX5_comers_75 lF S13 (nI t) (nI r) (nI w) (53 + (x1).toNatClampNeg) (nI 0) (nI 0) (nI 0))))) else some (v7, S7)) := by
    conv => lhs; unfold fX5_comers
    rw [i0n_f (by omega), ilt_f (by omega) (by omega), i0n_f (by omega), ilt_f (by omega) (by omega), i0n_f (by omega), ile_t (by omega) (by omega)]
  have em : fX6_comers Sm x1 (nI t) (nI r) (nI w) = bd (fX6_wrongSorts (mS Sm 0 9 (nI 0)) x1) fun v23 S23 => fX6_comers_49 S23 x1 (nI t) (nI r) (nI w) v23 := by
    conv => lhs; unfold fX6_comers
    rw [sv_s, q_0, q_9, inr_yes (by omega) (by omega), bd_s, i0e_f (by omega) (by omega), q_2, inr_yes (by omega) (by omega), bd_s, i0e_f (by omega) (by omega), q_1, inr_yes (by omega) (by omega), bd_s, i0e_f (by omega) (by omega)]
  rw [ec, em]
  rcases sorts_c H9 x1 with ⟨rc, h1, h2, h3, h4⟩ | ⟨d, L, rfl, hd, hk, hL, hL4, hLl, h1, h2⟩
  · refine same_of R (r := rc) ?_ ?_
    · rw [h1, bd_s, if_neg h3]
    · rw [h2, bd_s]; unfold fX6_comers_49; rw [if_neg h4]
  · obtain ⟨okd, cd, md⟩ := H9 d hd
    obtain ⟨S1, e1, r1, f1⟩ := p_like (u0 := Sc.2.2) (u1 := Sc.2.1) (by omega) (by omega) (Ne.symm hn.2.2) ok hC
    have s1 : S1.2 = Sc.2 := f1.1
    obtain ⟨T1, g1, a1, b1, c1, -⟩ := m_open hM9 ok
    have hF : 110 < lF := by simp [lF]
    unfold fX6_comers_49
    generalize lF = F at hF ⊢
    obtain ⟨r', Sc', Sm', k1, k2, k3, k4, k5⟩ := comers_l hn.2.1 ok (w := w) hd (t := t) (by omega) (r := r) (by omega) hk hL hLl hL4 L F F 0 (nI 0) (nI 0) x S1 T1 rfl (by omega) (by omega) (by omega) ok (by rw [s1]) r1 a1 b1 (rsC_keep hd cd (fun r hr => f1.2 r (by unfold inX; omega))) (rsM_keep md c1)
    refine ⟨r', Sc', Sm', x, im, sh, ?_, ?_, R.step ((f1.tr k3).kp hn.2.1) ((k9.tr c1).tr k5) ok (rC_keep ok.1 hC (f1.tr k3) (by omega) (by omega) hn.2.2) k4⟩
    · rw [h1, bd_s, if_pos nI_0, g8 hd, gN hn.2.1, gN hn.1, e1, bv_s, cl_n (by omega)]
      exact k1
    · rw [h2, bd_s, if_pos (by decide), g1, bv_s]
      exact k2
/-! ===== opens ===== -/
def addM (S : mM) (n : Nat) (kd fg : Int32) : mM := mS (mS (mS (mS (mS S 1 n kd) 2 n fg) 3 n (nI 0)) 4 n (nI 0)) 5 n (nI 0)
theorem addM_rmQ {S : mM} {n kd fg : Nat} : rmQ (addM S n (nI kd) (nI fg)) n (kd, fg, 0, 0, []) := by
  unfold addM
  refine ⟨?_, ?_, ?_, ?_, ?_, fun k s h => by simp at h⟩
  · rw [mS_n (by omega), mS_n (by omega), mS_n (by omega), mS_n (by omega), mS_s, upd_s]
  · rw [mS_n (by omega), mS_n (by omega), mS_n (by omega), mS_s, upd_s]
  · rw [mS_n (by omega), mS_n (by omega), mS_s, upd_s]; rfl
  · rw [mS_n (by omega), mS_s, upd_s]
  · rw [mS_s, upd_s]; rfl
theorem addM_mfq {S : mM} {n : Nat} {kd fg : Int32} : mfq S (addM S n kd fg) n := by
  unfold addM
  refine ⟨rfl, ?_, fun r hr => ?_, fun r j h1 h2 hj => ?_, fun k hk => ?_, fun j hj => ?_⟩
  · rw [mS_n (by omega), mS_n (by omega), mS_n (by omega), mS_n (by omega), mS_n (by omega)]
  · rw [mS_n (by omega), mS_n (by omega), mS_n (by omega), mS_n (by omega), mS_n (by omega)]
  · rcases (show r = 1 ∨ r = 2 ∨ r = 3 ∨ r = 4 ∨ r = 5 by omega) with rfl | rfl | rfl | rfl | rfl
    · rw [mS_n (by omega), mS_n (by omega), mS_n (by omega), mS_n (by omega), mS_s, upd_n hj]
    · rw [mS_n (by omega), mS_n (by omega), mS_n (by omega), mS_s, upd_n hj, mS_n (by omega)]
    · rw [mS_n (by omega), mS_n (by omega), mS_s, upd_n hj, mS_n (by omega), mS_n (by omega)]
    · rw [mS_n (by omega), mS_s, upd_n hj, mS_n (by omega), mS_n (by omega), mS_n (by omega)]
    · rw [mS_s, upd_n hj, mS_n (by omega), mS_n (by omega), mS_n (by omega), mS_n (by omega)]
  · rw [mS_n (by omega), mS_n (by omega), mS_n (by omega), mS_n (by omega), mS_n (by omega)]
  · rw [mS_n (by omega), mS_n (by omega), mS_n (by omega), mS_n (by omega), mS_n (by omega)]
theorem rM_push {S S' : mM} {a b : Int32} {l : List Qq} {q' : Qq} (hok : ∀ q ∈ l, okQ q) (h : rM S (a, b, l)) (hf : mfq S S' l.length) (hq : rmQ S' l.length q') : rM (mS S' 0 0 (nI (l.length + 1))) (a, b, l ++ [q']) := by
  refine ⟨?_, ?_, ?_, fun i q hi => ?_⟩
  · rw [mS_s, upd_s]; simp
  · rw [mS_s, upd_n (by omega), hf.2.1]; exact h.2.1
  · rw [mS_s, upd_n (by omega), hf.2.1]; exact h.2.2.1
  · dsimp only at hi
    rcases Nat.lt_or_ge i l.length with hlt | hge
    · rw [List.getElem?_append_left hlt] at hi
      have h8 := (hok q (List.mem_of_getElem? hi)).2.2.2.1
      refine rmQ_keep (h.2.2.2 i q hi) (fun r r1 r2 => ?_) (fun k hk => ?_)
      · rw [mS_n (by omega), hf.2.2.2.1 r i r1 r2 (by omega)]
      · rw [mS_n (by omega), hf.2.2.2.2.1 _ (by omega)]
    · have hi2 : i = l.length := by
        have := (List.getElem?_eq_some_iff.mp hi).1
        simp at this
        omega
      subst hi2
      rw [List.getElem?_append_right (by omega), Nat.sub_self] at hi
      simp only [List.getElem?_cons_zero, Option.some.injEq] at hi
      subst hi
      exact rmQ_keep hq (fun r r1 r2 => by rw [mS_n (by omega)]) (fun k hk => by rw [mS_n (by omega)])
theorem mfr_00 {S S' : mM} {i : Nat} {v : Int32} (h : mfq S S' i) : mfr S (mS S' 0 0 v) := ⟨h.1, fun k hk => by rw [mS_s, upd_n (by omega), h.2.1], fun r hr => by rw [mS_n (by omega), h.2.2.1 r hr]⟩
theorem m_new {S : mM} {x : Xx} (h : rM S x) (ok : okX x) (hl : x.2.2.length < 5) {K : mM → Int32 → Int32 → Int32 → Int32 → Int32 → Option (Int32 × mM)} {x1 x2 x3 x5 x6 x7 : Int32} : ∃ S', fX6_opens_135 K S x1 x2 x3 x5 x6 x7 = fX6_opens_196 K S' x1 x2 x3 x5 x6 x7 ∧ rM S' (xL x 6 0) ∧ mfr S S' := by
  refine ⟨mS (addM S x.2.2.length (nI 6) (nI 0)) 0 0 (nI (x.2.2.length + 1)), ?_, rM_push (a := x.1) (b := x.2.1) ok.2 h addM_mfq addM_rmQ, mfr_00 addM_mfq⟩
  unfold fX6_opens_135 addM
  rw [h.1, g5 hl, cl_n (by omega), sv_s, mS_n (by omega), h.1, g5 hl, cl_n (by omega), sv_s, mS_n (by omega), mS_n (by omega), h.1, g5 hl, cl_n (by omega), sv_s, mS_n (by omega), mS_n (by omega), mS_n (by omega), h.1, g5 hl, cl_n (by omega), sv_s, mS_n (by omega), mS_n (by omega), mS_n (by omega), mS_n (by omega), h.1, g5 hl, cl_n (by omega), sv_s, mS_n (by omega), mS_n (by omega), mS_n (by omega), mS_n (by omega), mS_n (by omega), h.1, sv_s, nI_add]
