/-! ===== statements l ===== -/
theorem xC_last {a b : Int32} {l : List Qq} {q : Qq} {s : Nat} : xC (a, b, l ++ [q]) l.length s = (a, b, l ++ [qC q s]) := by
  unfold xC
  have e : (l ++ [q])[l.length]? = some q := by simp
  dsimp only
  rw [e]
  simp
theorem c_cars_in {u d p n : Nat} (hu : u = 1 ∨ u = 2) {B : List Nat} (hd : d < 8) (h100 : B.length ≤ 100) {a b : Int32} {l : List Qq} {zs0 : List Nat} (hz : ∀ i z, zs0[i]? = some z → B[p + i]? = some (48 + z) ∧ z ≤ 9) (hn : n = p + zs0.length) (hnB : n ≤ 100) : ∀ (zs : List Nat) (m i : Nat) (q : Qq) (S : cM), zs0.drop i = zs → i ≤ zs0.length → zs.length < m → TX S d B → okX (a, b, l ++ [q]) → rC S u (a, b, l ++ [q]) →
    ((∀ z ∈ zs, z < 4) ∧ q.2.2.2.2.length + zs.length ≤ 8 ∧ ∃ S', fX0_addLane_39 (53 + d) u m S (nI n) (nI (p + i)) = some (nI 1, S') ∧ rC S' u (a, b, l ++ [zs.foldl qC q]) ∧ okX (a, b, l ++ [zs.foldl qC q]) ∧ frx S S' u) ∨
    (¬ ((∀ z ∈ zs, z < 4) ∧ q.2.2.2.2.length + zs.length ≤ 8) ∧ ∃ S', fX0_addLane_39 (53 + d) u m S (nI n) (nI (p + i)) = some (nI 0, S') ∧ frx S S' u) := by
  intro zs
  induction zs with
  | nil =>
    intro m i q S e hi hm tx ok hC
    have := dropN e
    obtain ⟨m, rfl⟩ : ∃ z, m = z + 1 := ⟨m - 1, by omega⟩
    left
    refine ⟨(fun z h => by cases h), (okX_at (i := l.length) (q := q) ok (by simp)).2.2.2.1, S, ?_, hC, ok, frx.rf⟩
    unfold fX0_addLane_39
    rw [ile_t (by omega) (by omega)]
  | cons z zs ih =>
    intro m i q S e hi hm tx ok hC
    obtain ⟨e1, e2, e3⟩ := dropC e
    simp only [List.length_cons] at hm
    obtain ⟨m, rfl⟩ : ∃ z, m = z + 1 := ⟨m - 1, by omega⟩
    obtain ⟨z1, z2⟩ := hz i z e1
    have hl := ok.1
    simp only [List.length_append, List.length_cons, List.length_nil] at hl
    have hq : (a, b, l ++ [q]).2.2[l.length]? = some q := by simp
    have ec : fX0_addLane_39 (53 + d) u (m + 1) S (nI n) (nI (p + i)) = bd (fX0_addCar u S (nI l.length) (nI z)) fun v8 S8 => if v8 = 0 then some (nI 0, S8) else fX0_addLane_39 (53 + d) u m S8 (nI n) (nI (p + i + 1)) := by
      conv => lhs; unfold fX0_addLane_39
      rw [ile_f (by omega) (by omega), p_dig tx h100 z1 z2, bd_s, hC.1, show (a, b, l ++ [q]).2.2.length = l.length + 1 by simp, su_n (by omega), show l.length + 1 - 1 = l.length by omega, nI_add]
    rw [ec]
    by_cases c : z < 4 ∧ q.2.2.2.2.length < 8
    · obtain ⟨S1, k1, k2, k3⟩ := p_addCar_yes hu hC ok hq c.1 c.2
      have ok1 := xC_ok ok hq c.1 c.2
      rw [xC_last] at k2 ok1
      have hql : (qC q z).2.2.2.2.length = q.2.2.2.2.length + 1 := by unfold qC; simp
      rw [k1, bd_s, i0e_f (by omega) (by omega), show p + i + 1 = p + (i + 1) by omega]
      rcases ih m (i + 1) (qC q z) S1 e2 (by omega) (by omega) (tx.frx hd hu k3) ok1 k2 with ⟨j1, j2, S', j3, j4, j5, j6⟩ | ⟨j1, S', j2, j3⟩
      · left
        refine ⟨fun y hy => ?_, by simp only [List.length_cons]; omega, S', j3, j4, j5, k3.tr j6⟩
        rcases List.mem_cons.mp hy with rfl | hy
        · exact c.1
        · exact j1 y hy
      · right
        refine ⟨fun h => j1 ⟨fun y hy => h.1 y (List.mem_cons_of_mem _ hy), by have := h.2; simp only [List.length_cons] at this; omega⟩, S', j2, k3.tr j3⟩
    · right
      refine ⟨fun h => c ⟨h.1 z List.mem_cons_self, by have := h.2; simp only [List.length_cons] at this; omega⟩, S, ?_, frx.rf⟩
      rw [p_addCar_no hC ok (by omega) (by omega) (fun q' hq' h4 => by rw [hq] at hq'; simp only [Option.some.injEq] at hq'; subst hq'; exact fun h8 => c ⟨h4, h8⟩), bd_s, if_pos nI_0]
/-- the reference's cars of a new lane -/
theorem m_cars_in {d p t n : Nat} (hd : d < 8) (ht : t < 51) (hn : n < 5) {B : List Nat} (h100 : B.length ≤ 100) {zs0 : List Nat} (hz : ∀ i z, zs0[i]? = some z → B[p + i]? = some (48 + z) ∧ z ≤ 9) (h8 : zs0.length ≤ 8) : ∀ (zs : List Nat) (m i : Nat) (g : Bool) (q : Qq) (S : mM), zs0.drop i = zs → i ≤ zs0.length → zs.length < m → TM S d B → S.1 14 t = nI p → S.1 15 t = nI zs0.length → S.1 0 0 = nI n → rmQ S n q → okQ q → q.2.2.2.2.length + zs.length ≤ 8 →
    ∃ S', fX6_laneComes_96 m S (nI t) (b2 g) (nI i) = some (b2 (g && zs.all (fun z => decide (z < 4))), mS S' 0 0 (nI (n + 1))) ∧ mfq S S' n ∧ (g = true → (∀ z ∈ zs, z < 4) → rmQ S' n (zs.foldl qC q)) := by
  intro zs
  induction zs with
  | nil =>
    intro m i g q S e hi hm h h14 h15 h00 hq okq hl
    have := dropN e
    obtain ⟨m, rfl⟩ : ∃ z, m = z + 1 := ⟨m - 1, by omega⟩
    refine ⟨S, ?_, mfq.rf, fun _ _ => hq⟩
    unfold fX6_laneComes_96
    rw [g51 ht, cl_n (by omega), h15, ile_t (by omega) (by omega), h00, nI_add, sv_s, gb_b, List.all_nil, Bool.and_true]
  | cons z zs ih =>
    intro m i g q S e hi hm h h14 h15 h00 hq okq hl
    obtain ⟨e1, e2, e3⟩ := dropC e
    simp only [List.length_cons] at hm hl
    obtain ⟨m, rfl⟩ : ∃ z, m = z + 1 := ⟨m - 1, by omega⟩
    obtain ⟨z1, z2⟩ := hz i z e1
    have hpB := (List.getElem?_eq_some_iff.mp z1).1
    obtain ⟨v, hv, hr⟩ := h.2.2 _ _ z1
    have hv2 : v = nI (48 + z) := rel_dig hr (by omega) (by omega)
    have ix : nI (100 * d) + nI p + nI i = nI (100 * d + (p + i)) := by rw [nI_add, nI_add, Nat.add_assoc]
    have em : fX6_laneComes_96 (m + 1) S (nI t) (b2 g) (nI i) = fX6_laneComes_145 (fX6_laneComes_96 m) S (nI t) (nI i) (nI z) (b2 (g && decide (z < 4))) := by
      conv => lhs; unfold fX6_laneComes_96
      unfold fX6_laneComes_144
      rw [g51 ht, g51 ht, cl_n (a := t) (by omega), h15, ile_f (by omega) (by omega), h.1, h14, ix, g800 (by omega), cl_n (by omega), hv, Int32.toInt32_toInt64, hv2, su_n (by omega), show 48 + z - 48 = z by omega]
      cases g with
      | false => rfl
      | true =>
        rw [b2_t, i0e_f (by omega) (by omega)]
        by_cases c : z < 4
        · rw [ile_f (by omega) (by omega), show decide (z < 4) = true from decide_eq_true c]; rfl
        · rw [ile_t (by omega) (by omega), show decide (z < 4) = false from decide_eq_false c]; rfl
    rw [em]
    unfold fX6_laneComes_145 fX6_laneComes_161
    rw [h00, b2_if]
    have step : ∀ (w : Nat), w < 4 → ∃ S1, fX6_comeIn S (nI n) (nI w) = some S1 ∧ rmQ S1 n (qC q w) ∧ mfq S S1 n ∧ TM S1 d B ∧ S1.1 14 t = nI p ∧ S1.1 15 t = nI zs0.length ∧ S1.1 0 0 = nI n ∧ okQ (qC q w) ∧ (qC q w).2.2.2.2.length + zs.length ≤ 8 := by
      intro w hw
      obtain ⟨S1, k1, k2, k3⟩ := m_comeIn hq okq hn hw (by omega)
      refine ⟨S1, k1, k2, k3, h.mfr (mfr.ofq k3), ?_, ?_, ?_, okC okq hw (by omega), by unfold qC; simp; omega⟩
      · rw [k3.2.2.1 14 (by omega)]; exact h14
      · rw [k3.2.2.1 15 (by omega)]; exact h15
      · rw [k3.2.1]; exact h00
    by_cases c : (g && decide (z < 4)) = true
    · have cz : z < 4 := by simp only [Bool.and_eq_true, decide_eq_true_eq] at c; exact c.2
      have cg : g = true := by simp only [Bool.and_eq_true, decide_eq_true_eq] at c; exact c.1
      obtain ⟨S1, k1, k2, k3, k4, k5, k6, k7, k8, k9⟩ := step z cz
      obtain ⟨S', j1, j2, j3⟩ := ih m (i + 1) true (qC q z) S1 e2 (by omega) (by omega) k4 k5 k6 k7 k2 k8 k9
      rw [if_pos c, k1, bv_s, nI_add, c]
      refine ⟨S', ?_, k3.tr j2, fun _ hall => j3 rfl (fun y hy => hall y (List.mem_cons_of_mem _ hy))⟩
      rw [j1, cg, List.all_cons, show decide (z < 4) = true from decide_eq_true cz]
      rfl
    · obtain ⟨S1, k1, k2, k3, k4, k5, k6, k7, k8, k9⟩ := step 0 (by omega)
      obtain ⟨S', j1, j2, j3⟩ := ih m (i + 1) false (qC q 0) S1 e2 (by omega) (by omega) k4 k5 k6 k7 k2 k8 k9
      have cf : (g && decide (z < 4)) = false := by simpa using c
      rw [if_neg c, k1, bv_s, nI_add, cf]
      refine ⟨S', ?_, k3.tr j2, fun hg hall => absurd (by rw [hg, show decide (z < 4) = true from decide_eq_true (hall z List.mem_cons_self)]; rfl) c⟩
      rw [j1, List.all_cons, ← Bool.and_assoc, cf]
theorem ex_l {u d t k : Nat} (hu : u = 1 ∨ u = 2) (hd : d < 8) (ht : t < 51) {x : Xx} (ok : okX x) {Sc : cM} {Sm : mM} {B : List Nat} (h100 : B.length ≤ 100) (tx : TX Sc d B) (tm : TM Sm d B) (hC : rC Sc u x) (hM : rM Sm x) {r : Ss} (sh : shp (B.drop k) r) (rc : rcd Sm t r k) (h108 : r.2.1 = 108) :
    exR u Sc Sm (fX0_carryOut (53 + d) u Sc (nI k) (nI (k + r.1 - 1))) (fX6_comesOf Sm (nI t)) := by
  have hl := ok.1
  have hF : 110 < lF := by simp [lF]
  obtain ⟨s0, s1, s2, s3, s4⟩ := sh
  rcases s4 with ⟨-, g1, g2, g3, g4, g5', g6⟩ | ⟨g, -⟩ | ⟨g, -⟩
  · obtain ⟨n, c, f, s, ds⟩ := r
    dsimp only at h108 g1 g2 g3 g4 g5' g6 s0 s2
    subst h108
    simp only [List.getElem?_drop] at s0 g2 g3 g6 s2
    rw [Nat.add_zero] at s0
    have hk := (List.getElem?_eq_some_iff.mp s0).1
    have hnB := (List.getElem?_eq_some_iff.mp s2).1
    obtain ⟨r10, r11, r12, r13, r14⟩ := rc
    dsimp only at r11 r12 r13 r14
    obtain ⟨r14, r15⟩ := r14 rfl
    have hz : ∀ i z, ds[i]? = some z → B[k + 3 + i]? = some (48 + z) ∧ z ≤ 9 := fun i z h => by have := g6 i z h; rw [← Nat.add_assoc] at this; exact this
    have ne99 : ¬ Sc.1 (61 + d) k = nI 99 := fun q => by have := (rel_eq (tx.2.2 k _ s0) (by omega)).mp q; omega
    have ec : fX0_carryOut (53 + d) u Sc (nI k) (nI (k + n - 1)) = bd (if nI 7 < nI f then some (nI 0, Sc) else bd (fX1_addLane u Sc (nI f) (nI s)) fun v4 S4 => if v4 = 0 then some (nI 0, S4) else fX0_addLane_39 (53 + d) u lF S4 (nI (k + 3 + ds.length)) (nI (k + 3 + 0))) fun v11 S11 => gb v11 (some (v11, S11)) := by
      unfold fX0_carryOut fX4_hasElement fX0_addLane
      rw [tx.1, if_pos rfl, i0n_f (by omega), tx.2.1, ile_f (by omega) (by omega), bd_s, i0e_f (by omega) (by omega), gi_n (show k < 100 by omega) (by omega), cl_n (by omega), show 53 + d + 8 = 61 + d by omega, if_neg ne99, if_pos ((rel_eq (tx.2.2 k _ s0) (by omega)).mpr rfl), nI_add, p_dig tx h100 g2 g4, bd_s, nI_add, p_dig tx h100 g3 g5', bd_s, nI_add, show k + n - 1 = k + 3 + ds.length by omega]
    have em : fX6_comesOf Sm (nI t) = bd (fX6_laneComes Sm (nI t)) fun v27 S27 => gb v27 (some (v27, S27)) := by
      unfold fX6_comesOf
      rw [g51 ht, cl_n (by omega), r11, if_pos rfl]
    have em2 : fX6_laneComes Sm (nI t) = if nI 7 < nI f then some (nI 0, Sm) else if nI x.2.2.length = nI 5 then some (nI 0, Sm) else if nI ds.length ≤ nI 8 then fX6_laneComes_96 lF (addM Sm x.2.2.length (nI f) (nI s)) (nI t) (nI 1) (nI 0) else some (nI 0, Sm) := by
      unfold fX6_laneComes
      rw [g51 ht, cl_n (a := t) (by omega), r12, hM.1, g51 ht, r15, g51 ht]
      by_cases c5 : x.2.2.length = 5
      · rw [ieq_t c5, ieq_t c5]
      · rw [ieq_f c5 (by omega) (by omega), ieq_f c5 (by omega) (by omega)]
        have e : gi (nI x.2.2.length) 5 (sv (mS Sm 1 (nI x.2.2.length).toNatClampNeg (nI f)) fun S12 => gi (nI t) 51 (gi (S12.1 0 0) 5 (sv (mS S12 2 (S12.1 0 0).toNatClampNeg (S12.1 13 t)) fun S17 => gi (S17.1 0 0) 5 (sv (mS S17 3 (S17.1 0 0).toNatClampNeg (nI 0)) fun S20 => gi (S20.1 0 0) 5 (sv (mS S20 4 (S20.1 0 0).toNatClampNeg (nI 0)) fun S23 => gi (S23.1 0 0) 5 (sv (mS S23 5 (S23.1 0 0).toNatClampNeg (nI 0)) fun S26 => fX6_laneComes_96 lF S26 (nI t) (nI 1) (nI 0))))))) = fX6_laneComes_96 lF (addM Sm x.2.2.length (nI f) (nI s)) (nI t) (nI 1) (nI 0) := by
          have w0 : ∀ (S : mM) (p k : Nat) (v : Int32), p ≠ 0 → S.1 0 0 = nI x.2.2.length → (mS S p k v).1 0 0 = nI x.2.2.length := fun S p k v hp h => by rw [mgn (Or.inl (Ne.symm hp))]; exact h
          have v1 := w0 Sm 1 x.2.2.length (nI f) (by omega) hM.1
          have v2 := w0 _ 2 x.2.2.length (nI s) (by omega) v1
          have v3 := w0 _ 3 x.2.2.length (nI 0) (by omega) v2
          have v4 := w0 _ 4 x.2.2.length (nI 0) (by omega) v3
          unfold addM
          rw [g5 (by omega), cl_n (by omega), sv_s, g51 ht, v1, g5 (by omega), cl_n (by omega), mgn (show 13 ≠ 1 ∨ t ≠ x.2.2.length by omega), r13, sv_s, v2, g5 (by omega), cl_n (by omega), sv_s, v3, g5 (by omega), cl_n (by omega), sv_s, v4, g5 (by omega), cl_n (by omega), sv_s]
        rw [e]
    rw [ec, em, em2]
    have fail : exR u Sc Sm (bd (some (nI 0, Sc)) fun v11 S11 => gb v11 (some (v11, S11))) (bd (some (nI 0, Sm)) fun v27 S27 => gb v27 (some (v27, S27))) := Or.inl ⟨Sc, Sm, rfl, rfl, frx.rf, mfr.rf⟩
    by_cases c7 : 7 < f
    · rw [ilt_t c7 (by omega), ilt_t c7 (by omega)]; exact fail
    rw [ilt_f (a := 7) (by omega) (by omega), ilt_f (a := 7) (by omega) (by omega)]
    by_cases c5 : x.2.2.length = 5
    · rw [ieq_t c5, p_addLane_no hC c5, bd_s, if_pos nI_0]; exact fail
    rw [ieq_f c5 (by omega) (by omega)]
    obtain ⟨S1, a1, a2, a3⟩ := p_addLane (by omega) hC (by omega) (kd := f) (fg := s) (by omega)
    have ok1 := xL_ok ok (by omega) (kd := f) (fg := s) (by omega) (by omega)
    rw [a1, bd_s, i0e_f (by omega) (by omega)]
    have cc := c_cars_in hu hd h100 (a := x.1) (b := x.2.1) (l := x.2.2) (p := k + 3) (n := k + 3 + ds.length) hz rfl (by omega) ds lF 0 (f, s, 0, 0, []) S1 rfl (by omega) (by omega) (tx.frx hd hu a3) ok1 a2
    by_cases c8 : ds.length ≤ 8
    · rw [ile_t c8 (by omega)]
      have tm1 : TM (addM Sm x.2.2.length (nI f) (nI s)) d B := tm.mfr (mfr.ofq addM_mfq)
      obtain ⟨T1, b1, b2', b3⟩ := m_cars_in hd ht (n := x.2.2.length) (by omega) h100 hz c8 ds lF 0 true (f, s, 0, 0, []) (addM Sm x.2.2.length (nI f) (nI s)) rfl (by omega) (by omega) tm1 (by rw [addM_mfq.2.2.1 14 (by omega)]; exact r14) (by rw [addM_mfq.2.2.1 15 (by omega)]; exact r15) (by rw [addM_mfq.2.1]; exact hM.1) addM_rmQ (okB (by omega) (by omega)) (by simp; omega)
      rw [b2_t] at b1
      rw [b1]
      rcases cc with ⟨j1, j2, S', j3, j4, j5, j6⟩ | ⟨j1, S', j2, j3⟩
      · have hall : ds.all (fun z => decide (z < 4)) = true := by rw [List.all_eq_true]; exact fun z hz => decide_eq_true (j1 z hz)
        rw [j3, hall]
        exact Or.inr ⟨S', _, _, rfl, rfl, a3.tr j6, mfr_00 (addM_mfq.tr b2'), j5, j4, rM_push (a := x.1) (b := x.2.1) ok.2 hM (addM_mfq.tr b2') (b3 rfl j1)⟩
      · have hall : ds.all (fun z => decide (z < 4)) = false := by
          rw [Bool.eq_false_iff]
          intro h
          rw [List.all_eq_true] at h
          exact j1 ⟨fun z hz => of_decide_eq_true (h z hz), by simp; omega⟩
        rw [j2, hall]
        exact Or.inl ⟨S', _, rfl, rfl, a3.tr j3, mfr_00 (addM_mfq.tr b2')⟩
    · rw [ile_f (by omega) (by omega)]
      rcases cc with ⟨j1, j2, -⟩ | ⟨j1, S', j2, j3⟩
      · simp at j2; omega
      · rw [j2]
        exact Or.inl ⟨S', Sm, rfl, rfl, a3.tr j3, mfr.rf⟩
  · omega
  · omega
