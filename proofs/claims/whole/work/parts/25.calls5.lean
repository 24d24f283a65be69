/-! ===== copies ===== -/
theorem m_cp1 {d i : Nat} {t : Nat} (hd : 100 * d + i + t ≤ 800) (ht : t ≤ 100) (K : mM → Option (Int32 × mM)) {x3 x4 : Int32} (hK : ∀ S, fX6_copy_174 lF S x3 x4 (nI t) (nI 0) = K S) : ∀ (e n k : Nat) (S : mM), t - k = e → k ≤ t → e < n → (∀ j, j < k → S.2.1 27 j = S.2.1 26 (100 * d + i + j)) →
    ∃ S', fX6_copy_137 n S (nI d) (nI i) x3 x4 (nI t) (nI k) = K S' ∧ S'.1 = S.1 ∧ S'.2.1 26 = S.2.1 26 ∧ (∀ j, j < t → S'.2.1 27 j = S.2.1 26 (100 * d + i + j)) := by
  intro e
  induction e with
  | zero =>
    intro n k S he hk hn h
    obtain ⟨n, rfl⟩ : ∃ z, n = z + 1 := ⟨n - 1, by omega⟩
    unfold fX6_copy_137
    rw [ile_t (by omega) (by omega), hK]
    exact ⟨S, rfl, rfl, rfl, fun j hj => h j (by omega)⟩
  | succ e ih =>
    intro n k S he hk hn h
    obtain ⟨n, rfl⟩ : ∃ z, n = z + 1 := ⟨n - 1, by omega⟩
    obtain ⟨S', k1, k2, k3, k4⟩ := ih n (k + 1) (mL S 27 k (S.2.1 26 (100 * d + i + k))) (by omega) (by omega) (by omega) (fun j hj => by
      rw [mL_s, mL_n (by omega)]
      by_cases c : j = k
      · rw [c, updL_s]
      · rw [updL_n c]; exact h j (by omega))
    unfold fX6_copy_137
    rw [ile_f (by omega) (by omega), pk_mul, nI_add, nI_add, gi_n (show 100 * d + i + k < 800 by omega) (by omega), gi_n (show k < 100 by omega) (by omega), cl_n (by omega), cl_n (by omega), sv_s, nI_add]
    exact ⟨S', k1, k2, by rw [k3, mL_n (by omega)], fun j hj => by rw [k4 j hj, mL_n (by omega)]⟩
theorem m_cp2 {d i : Nat} {t : Nat} (hd : 100 * d + i + t ≤ 800) (ht : t ≤ 100) : ∀ (e n k : Nat) (S : mM), t - k = e → k ≤ t → e < n →
    ∃ S', fX6_copy_174 n S (nI d) (nI i) (nI t) (nI k) = some (nI t, S') ∧ S'.1 = S.1 ∧ (∀ j, S'.2.1 26 j = if 100 * d + i + k ≤ j ∧ j < 100 * d + i + t then S.2.1 27 (j - (100 * d + i)) else S.2.1 26 j) := by
  intro e
  induction e with
  | zero =>
    intro n k S he hk hn
    obtain ⟨n, rfl⟩ : ∃ z, n = z + 1 := ⟨n - 1, by omega⟩
    unfold fX6_copy_174
    rw [ile_t (by omega) (by omega)]
    exact ⟨S, rfl, rfl, fun j => by rw [if_neg (by omega)]⟩
  | succ e ih =>
    intro n k S he hk hn
    obtain ⟨n, rfl⟩ : ∃ z, n = z + 1 := ⟨n - 1, by omega⟩
    obtain ⟨S', k1, k2, k3⟩ := ih n (k + 1) (mL S 26 (100 * d + i + k) (S.2.1 27 k)) (by omega) (by omega) (by omega)
    unfold fX6_copy_174
    rw [ile_f (by omega) (by omega), pk_mul, nI_add, nI_add, gi_n (show k < 100 by omega) (by omega), gi_n (show 100 * d + i + k < 800 by omega) (by omega), cl_n (by omega), cl_n (by omega), sv_s, nI_add]
    refine ⟨S', k1, k2, fun j => ?_⟩
    rw [k3 j, mL_s, mL_n (by omega)]
    by_cases c : j = 100 * d + i + k
    · rw [if_neg (by omega), c, updL_s, if_pos (by omega), show 100 * d + i + k - (100 * d + i) = k by omega]
    · rw [updL_n c]
      by_cases c2 : 100 * d + i + k ≤ j ∧ j < 100 * d + i + t
      · rw [if_pos c2, if_pos (by omega)]
      · rw [if_neg c2, if_neg (by omega)]
theorem sub_c {a : Nat} (ha : a ≤ 100) {n i : Nat} (hn : n < 2147483648) (hi : i < 2147483648) : ((nI a - nI n) < nI i) ↔ ¬ (n ≤ a ∧ i ≤ a - n) := by
  by_cases h : n ≤ a
  · rw [su_n h]
    constructor
    · intro q
      have := (nI_ltI (by omega) (by omega)).mp q
      omega
    · intro q
      exact nI_lt (by omega) (by omega)
  · constructor
    · intro _; omega
    · intro _
      have h1 := sneg (a := a) hn (by omega)
      have h2 := nI_pos' (n := i) (by omega)
      rw [Int32.lt_iff_toInt_lt] at h1 ⊢
      rw [Int32.le_iff_toInt_le] at h2
      omega
theorem t_copy {Sc : cM} {Sm : mM} {x : Xx} {im : Option Xx} {sh : Nat → Sh} (R : Rl Sc Sm x im sh) (x1 x2 x3 x4 x5 : Int32) : Same (fX5_copy Sc x1 x2 x3 x4 x5) (fX6_copy Sm x1 x2 x3 x4 x5) := by
  have H9 := SH9 R
  rcases num_c x1 8 (by omega) with h | ⟨d, rfl, hd⟩
  · refine same_of R (r := -1) ?_ ?_
    · unfold fX5_copy; rw [p_shelf_no h, bd_s]; rfl
    · unfold fX6_copy; rw [sv_s, q_0, q_7, inr_no (by omega) h, bd_s]; rfl
  rcases num_c x3 8 (by omega) with h | ⟨e, rfl, he⟩
  · refine same_of R (r := -1) ?_ ?_
    · unfold fX5_copy; rw [p_shelf_yes hd, bd_s, i0e_f (by omega) (by omega), p_shelf_no h, bd_s]; rfl
    · unfold fX6_copy; rw [sv_s, q_0, q_7, inr_yes (by omega) (by omega), bd_s, i0e_f (by omega) (by omega), inr_no (by omega) h, bd_s]; rfl
  obtain ⟨okd, cd, md⟩ := H9 d hd
  obtain ⟨oke, ce, me⟩ := H9 e he
  have hd2 := okd.1
  have he2 := oke.1
  have ec : fX5_copy Sc (nI d) x2 (nI e) x4 x5 = if nI (sh d).1 = 0 then some (-11, Sc) else if nI (sh e).1 = 0 then some (-11, Sc) else if nI (sh d).1 = nI 2 then if nI (sh e).1 = nI 2 then if Sc.1 (53 + d) 4 = Sc.1 (53 + e) 4 then bd (fX4_hasElements (53 + d) Sc x2 x5) (fun v14 S14 => if v14 = 0 then some (-13, S14) else bd (fX4_hasElements (53 + e) S14 x4 x5) fun v16 S16 => if v16 = 0 then some (-13, S16) else gc x2 x4 x5 100 100 (some (x5, cW S16 (61 + e) (va_cpy (S16.1 (61 + d)) (S16.1 (61 + e)) x2.toNatClampNeg x4.toNatClampNeg x5.toNatClampNeg)))) else some (-12, Sc) else some (-12, Sc) else some (-12, Sc) := by
    unfold fX5_copy
    rw [p_shelf_yes hd, bd_s, i0e_f (by omega) (by omega), p_shelf_yes he, bd_s, i0e_f (by omega) (by omega), g8 hd, g8 he, cl_n (by omega), cl_n (by omega), cd.1, ce.1]
    simp only [sv_s, show 53 + d + 8 = 61 + d by omega, show 53 + e + 8 = 61 + e by omega]
  have em : fX6_copy Sm (nI d) x2 (nI e) x4 x5 = if nI (sh d).1 = 0 then some (-11, mS Sm 0 9 (nI 0)) else if nI (sh e).1 = 0 then some (-11, mS Sm 0 9 (nI 0)) else if nI (sh d).1 = nI 2 then if nI (sh e).1 = nI 2 then if (mS Sm 0 9 (nI 0)).1 24 d = (mS Sm 0 9 (nI 0)).1 24 e then if x5 < 0 then some (-13, mS Sm 0 9 (nI 0)) else if x2 < 0 then some (-13, mS Sm 0 9 (nI 0)) else if x4 < 0 then some (-13, mS Sm 0 9 (nI 0)) else if (mS Sm 0 9 (nI 0)).1 25 d - x5 < x2 then some (-13, mS Sm 0 9 (nI 0)) else if x4 ≤ (mS Sm 0 9 (nI 0)).1 25 e - x5 then fX6_copy_137 lF (mS Sm 0 9 (nI 0)) (nI d) x2 (nI e) x4 x5 (nI 0) else some (-13, mS Sm 0 9 (nI 0)) else some (-12, mS Sm 0 9 (nI 0)) else some (-12, mS Sm 0 9 (nI 0)) else some (-12, mS Sm 0 9 (nI 0)) := by
    unfold fX6_copy
    rw [sv_s, q_0, q_7, inr_yes (by omega) (by omega), bd_s, i0e_f (by omega) (by omega), inr_yes (by omega) (by omega), bd_s, i0e_f (by omega) (by omega)]
    simp only [g8 hd, g8 he, cl_n (show d < 2147483648 by omega), cl_n (show e < 2147483648 by omega), md.1, me.1]
  rw [ec, em]
  by_cases c1 : (sh d).1 = 0
  · rw [i0e_t c1, i0e_t c1]; exact same_of R rfl rfl
  rw [i0e_f (a := (sh d).1) (by omega) (by omega), i0e_f (a := (sh d).1) (by omega) (by omega)]
  by_cases c2 : (sh e).1 = 0
  · rw [i0e_t c2, i0e_t c2]; exact same_of R rfl rfl
  rw [i0e_f (a := (sh e).1) (by omega) (by omega), i0e_f (a := (sh e).1) (by omega) (by omega)]
  by_cases c3 : (sh d).1 = 2
  rotate_left
  · rw [ieq_f c3 (by omega) (by omega), ieq_f c3 (by omega) (by omega)]; exact same_of R rfl rfl
  rw [ieq_t c3, ieq_t c3]
  by_cases c4 : (sh e).1 = 2
  rotate_left
  · rw [ieq_f c4 (by omega) (by omega), ieq_f c4 (by omega) (by omega)]; exact same_of R rfl rfl
  rw [ieq_t c4, ieq_t c4]
  obtain ⟨d4, d5, d6⟩ := cd.2.2 c3
  obtain ⟨e4, e5, e6⟩ := ce.2.2 c4
  obtain ⟨f4, f5, f6⟩ := md.2.2 c3
  obtain ⟨g4, g5', g6⟩ := me.2.2 c4
  obtain ⟨o1, o2, o3⟩ := okd.2.2 c3
  obtain ⟨p1, p2, p3⟩ := oke.2.2 c4
  rw [d4, e4, f4, g4, f5, g5']
  by_cases c5 : (sh d).2.1.1 = (sh e).2.1.1
  rotate_left
  · rw [ieq_f c5 (by omega) (by omega), ieq_f c5 (by omega) (by omega)]; exact same_of R rfl rfl
  rw [ieq_t c5, ieq_t c5]
  -- the ranges
  have bad : ∀ (b : Option (Int32 × mM)), b = some (-13, mS Sm 0 9 (nI 0)) → (fX4_hasElements (53 + d) Sc x2 x5 = some (nI 0, Sc) ∨ (fX4_hasElements (53 + d) Sc x2 x5 = some (nI 1, Sc) ∧ fX4_hasElements (53 + e) Sc x4 x5 = some (nI 0, Sc))) → Same (bd (fX4_hasElements (53 + d) Sc x2 x5) (fun v14 S14 => if v14 = 0 then some (-13, S14) else bd (fX4_hasElements (53 + e) S14 x4 x5) fun v16 S16 => if v16 = 0 then some (-13, S16) else gc x2 x4 x5 100 100 (some (x5, cW S16 (61 + e) (va_cpy (S16.1 (61 + d)) (S16.1 (61 + e)) x2.toNatClampNeg x4.toNatClampNeg x5.toNatClampNeg))))) b := by
    intro b hb h
    refine same_of R (r := -13) ?_ hb
    rcases h with h | ⟨h, h'⟩
    · rw [h, bd_s]; rfl
    · rw [h, bd_s, i0e_f (by omega) (by omega), h', bd_s]; rfl
  have he_no1 : ∀ (p : Nat) (y : Int32), x5 < 0 → fX4_hasElements p Sc y x5 = some (nI 0, Sc) := by
    intro p y h
    unfold fX4_hasElements
    by_cases h1 : y < 0
    · rw [if_pos h1]
    · rw [if_neg h1, if_pos h]
  have he_no2 : ∀ (p : Nat) (y : Int32), y < 0 → fX4_hasElements p Sc y x5 = some (nI 0, Sc) := by
    intro p y h
    unfold fX4_hasElements
    rw [if_pos h]
  by_cases q1 : x5 < 0
  · rw [if_pos q1]; exact bad _ rfl (Or.inl (he_no1 _ _ q1))
  rw [if_neg q1]
  obtain ⟨n, hn, rfl⟩ := nI_of q1
  have he_e : ∀ (s : Nat) (z : Nat), s < 8 → Sc.1 (53 + s) 5 = nI z → z ≤ 100 → ∀ i, i < 2147483648 → fX4_hasElements (53 + s) Sc (nI i) (nI n) = if n ≤ z ∧ i ≤ z - n then some (nI 1, Sc) else some (nI 0, Sc) := by
    intro s z hs hz hz2 i hi
    unfold fX4_hasElements
    rw [hz, i0n_f (by omega), i0n_f (by omega)]
    by_cases h1 : n ≤ z
    · rw [ilt_f h1 (by omega)]
      by_cases h2 : i ≤ z - n
      · rw [if_neg (fun q => (sub_c hz2 (by omega) hi).mp q ⟨h1, h2⟩), if_pos ⟨h1, h2⟩]
      · rw [if_pos ((sub_c hz2 (by omega) hi).mpr (fun q => h2 q.2)), if_neg (fun q => h2 q.2)]
    · rw [ilt_t (by omega) (by omega), if_neg (fun q => h1 q.1)]
  by_cases q2 : x2 < 0
  · rw [if_pos q2]; exact bad _ rfl (Or.inl (he_no2 _ _ q2))
  rw [if_neg q2]
  obtain ⟨i, hi, rfl⟩ := nI_of q2
  by_cases q3 : x4 < 0
  · rw [if_pos q3]
    refine bad _ rfl ?_
    rw [he_e d _ hd d5 o2 i (by omega)]
    by_cases h : n ≤ (sh d).2.2.length ∧ i ≤ (sh d).2.2.length - n
    · rw [if_pos h]; exact Or.inr ⟨rfl, he_no2 _ _ q3⟩
    · rw [if_neg h]; exact Or.inl rfl
  rw [if_neg q3]
  obtain ⟨j, hj, rfl⟩ := nI_of q3
  by_cases r1 : n ≤ (sh d).2.2.length ∧ i ≤ (sh d).2.2.length - n
  rotate_left
  · rw [if_pos ((sub_c o2 (by omega) (by omega)).mpr r1)]
    exact bad _ rfl (Or.inl (by rw [he_e d _ hd d5 o2 i (by omega), if_neg r1]))
  rw [if_neg (fun q => (sub_c o2 (by omega) (by omega)).mp q r1)]
  by_cases r2 : n ≤ (sh e).2.2.length ∧ j ≤ (sh e).2.2.length - n
  rotate_left
  · have hlt := (sub_c p2 (by omega) (by omega)).mpr r2
    rw [if_neg (by rw [Int32.le_iff_toInt_le]; rw [Int32.lt_iff_toInt_lt] at hlt; omega)]
    exact bad _ rfl (Or.inr ⟨by rw [he_e d _ hd d5 o2 i (by omega), if_pos r1], by rw [he_e e _ he e5 p2 j (by omega), if_neg r2]⟩)
  have hnlt : ¬ _ := fun q => (sub_c p2 (show n < 2147483648 by omega) (show j < 2147483648 by omega)).mp q r2
  rw [if_pos (by rw [Int32.le_iff_toInt_le]; rw [Int32.lt_iff_toInt_lt] at hnlt; omega)]
  rw [he_e d _ hd d5 o2 i (by omega), if_pos r1, bd_s, i0e_f (by omega) (by omega), he_e e _ he e5 p2 j (by omega), if_pos r2, bd_s, i0e_f (by omega) (by omega)]
  have gce : ∀ (α : Type) (k : Option α), gc (nI i) (nI j) (nI n) 100 100 k = k := by
    intro α k
    unfold gc
    rw [if_pos ⟨nI_pos (by omega), nI_pos (by omega), nI_pos (by omega), by rw [cl_n (by omega), cl_n (by omega)]; omega, by rw [cl_n (by omega), cl_n (by omega)]; omega⟩]
  rw [gce, cl_n (by omega), cl_n (by omega), cl_n (by omega)]
  have hF : 100 < lF := by simp [lF]
  obtain ⟨T1, k1, k2, k3, k4⟩ := m_cp1 (d := d) (i := i) (t := n) (by omega) (by omega) (fun S => fX6_copy_174 lF S (nI e) (nI j) (nI n) (nI 0)) (x3 := nI e) (x4 := nI j) (fun S => rfl) n lF 0 (mS Sm 0 9 (nI 0)) (by omega) (by omega) (by omega) (fun z hz => by omega)
  obtain ⟨T2, l1, l2, l3⟩ := m_cp2 (d := e) (i := j) (t := n) (by omega) (by omega) n lF 0 T1 (by omega) (by omega) (by omega)
  rw [k1, l1]
  obtain ⟨vs, hvs⟩ : ∃ vs, vs = (List.range (sh e).2.2.length).map (fun k => if j ≤ k ∧ k < j + n then (sh d).2.2.getD (i + (k - j)) 0 else (sh e).2.2.getD k 0) := ⟨_, rfl⟩
  have hvl : vs.length = (sh e).2.2.length := by rw [hvs]; simp
  have hvk : ∀ k v, vs[k]? = some v → k < (sh e).2.2.length ∧ ((j ≤ k ∧ k < j + n ∧ (sh d).2.2[i + (k - j)]? = some v) ∨ (¬ (j ≤ k ∧ k < j + n) ∧ (sh e).2.2[k]? = some v)) := by
    intro k v hv
    have hk : k < (sh e).2.2.length := by rw [← hvl]; exact (List.getElem?_eq_some_iff.mp hv).1
    refine ⟨hk, ?_⟩
    rw [hvs, List.getElem?_map, List.getElem?_range hk] at hv
    simp only [Option.map_some, Option.some.injEq] at hv
    by_cases c : j ≤ k ∧ k < j + n
    · rw [if_pos c] at hv
      refine Or.inl ⟨c.1, c.2, ?_⟩
      have hb : i + (k - j) < (sh d).2.2.length := by omega
      rw [List.getElem?_eq_getElem hb]
      simp [List.getD, hb] at hv
      rw [hv]
    · rw [if_neg c] at hv
      refine Or.inr ⟨c, ?_⟩
      rw [List.getElem?_eq_getElem hk]
      simp [List.getD, hk] at hv
      rw [hv]
  refine ⟨nI n, _, T2, x, im, fun z => if z = e then (2, (sh e).2.1, vs) else sh z, rfl, rfl, ?_⟩
  refine R.shelf ⟨rfl, fun r hr => cW_n (by unfold inX at hr; omega)⟩ ⟨fun k hk => ?_, fun r r1 r2 => ?_, ?_, ?_⟩ (SH_set H9 he ⟨Nat.le_refl 2, fun h => absurd (show (2 : Nat) = 1 from h) (by decide), fun _ => ⟨p1, by dsimp only; rw [hvl]; exact p2, fun h0 v hv => ?_⟩⟩ ⟨?_, fun h => absurd (show (2 : Nat) = 1 from h) (by decide), fun _ => ⟨?_, ?_, fun k v hv => ?_⟩⟩ ⟨?_, fun h => absurd (show (2 : Nat) = 1 from h) (by decide), fun _ => ⟨?_, ?_, fun k v hv => ?_⟩⟩ (fun z hz hne => ⟨?_, ?_⟩) (fun z hz hne => ⟨fun r hr => ?_, fun k hk => ?_⟩))
  · rw [l2, k2, mS_s, upd_n (by omega)]
  · rw [l2, k2, mS_n (by omega)]
  · rw [l2, k2, mS_n (by omega)]
  · rw [l2, k2, mS_s, upd_n (by omega)]
  · obtain ⟨k, hk⟩ := List.getElem?_of_mem hv
    rcases (hvk k v hk).2 with ⟨-, -, h⟩ | ⟨-, h⟩
    · exact o3 (by dsimp only at h0; omega) v (List.mem_of_getElem? h)
    · exact p3 h0 v (List.mem_of_getElem? h)
  · rw [cW_n (by omega), ce.1, c4]
  · rw [cW_n (by omega)]; exact e4
  · rw [cW_n (by omega), e5, hvl]
  · rw [cW_s]
    obtain ⟨hk, h⟩ := hvk k v hv
    rcases h with ⟨a1, a2, h⟩ | ⟨a1, h⟩
    · rw [pk_cpy_in a1 a2]; exact d6 _ v h
    · rw [pk_cpy_out (by omega)]; exact e6 k v h
  · rw [l2, k2, me.1, c4]
  · rw [l2, k2]; exact g4
  · rw [l2, k2, g5', hvl]
  · obtain ⟨hk, h⟩ := hvk k v hv
    rw [l3]
    rcases h with ⟨a1, a2, h⟩ | ⟨a1, h⟩
    · rw [if_pos (by omega), k4 _ (by omega), show 100 * d + i + (100 * e + k - (100 * e + j)) = 100 * d + (i + (k - j)) by omega]
      exact f6 _ v h
    · rw [if_neg (by omega), k3]
      exact g6 k v h
  · exact cW_n (by omega)
  · exact cW_n (by omega)
  · rw [l2, k2]
  · rw [l3, if_neg (by omega), k3]
/-! ===== told minutes looked at ===== -/
theorem lg_eq0 {x y : Int64} : lg_cmp x y = 0 ↔ x = y := by
  unfold lg_cmp
  by_cases h : x > y
  · rw [if_pos h]
    constructor
    · intro q; exact absurd q (by decide)
    · intro q
      rw [q, gt_iff_lt, Int64.lt_iff_toInt_lt] at h
      omega
  · rw [if_neg h]
    by_cases e : x = y
    · rw [if_pos e]; exact ⟨fun _ => e, fun _ => rfl⟩
    · rw [if_neg e]
      exact ⟨fun q => absurd q (by decide), fun q => absurd q e⟩
theorem i64_eq {x y : Int32} : x.toInt64 = y.toInt64 ↔ x = y := by
  constructor
  · intro h
    apply Int32.toInt_inj.mp
    have := congrArg Int64.toInt h
    rwa [Int32.toInt_toInt64, Int32.toInt_toInt64] at this
  · intro h; rw [h]
def lst (st : Nat) : Int32 := if st = 0 then -128 else if st = 1 then -32768 else -2147483648
theorem judge_l {u p : Nat} (hu : u = 1 ∨ u = 2) (hp : 7 ≤ p ∧ p ≤ 21) {x0 : Xx} (ok0 : okX x0) {a d : Nat} (ha : a < 5) (hd : d < 8) {sh : Nat → Sh} (hk : (sh d).1 = 2) (hP : p = 5 * u + 2 + a) (okd : okS (sh d)) : ∀ (l : List Int32) (n m k : Nat) (x : Xx) (q : Qq) (Sc : cM) (Sm : mM), (sh d).2.2.drop k = l → k ≤ 100 → l.length < n → l.length + 1 < m → okX x → x.2.2[a]? = some q → rQ Sc p q → rM Sm x → rI (Sm.1 8) x0 → rsC Sc d (sh d) → rsM Sm d (sh d) →
    ∃ r Sc' Sm', fX5_judge_58 n Sc (53 + d) p (nI k) = some (r, Sc') ∧ fX6_judge_49 m Sm (nI a) (nI d) (-4) (nI k) = some (r, Sm') ∧ frx Sc Sc' u ∧ rM Sm' x0 ∧ mkp Sm Sm' := by
  have hlen := (okd.2.2 hk).2.1
  have hst := (okd.2.2 hk).1
  intro l
  induction l with
  | nil =>
    intro n m k x q Sc Sm e hk1 hn hm ok hq hC hM hI sc sm
    have := dropN e
    obtain ⟨n, rfl⟩ : ∃ z, n = z + 1 := ⟨n - 1, by omega⟩
    obtain ⟨m, rfl⟩ : ∃ z, m = z + 1 := ⟨m - 1, by omega⟩
    obtain ⟨T3, g3, a3, c3, -⟩ := m_close hI ok0
    unfold fX5_judge_58 fX6_judge_49 fX6_judge_121
    rw [(sc.2.2 hk).2.1, ile_t (by omega) (by omega), g8 hd, cl_n (by omega), (sm.2.2 hk).2.1, ile_t (by omega) (by omega), g3, bv_s]
    exact ⟨_, _, _, rfl, rfl, frx.rf, a3, c3⟩
  | cons v l ih =>
    intro n m k x q Sc Sm e hk1 hn hm ok hq hC hM hI sc sm
    obtain ⟨e1, e2, e3⟩ := dropC e
    simp only [List.length_cons] at hn hm
    obtain ⟨n, rfl⟩ : ∃ z, n = z + 1 := ⟨n - 1, by omega⟩
    obtain ⟨m, rfl⟩ : ∃ z, m = z + 1 := ⟨m - 1, by omega⟩
    obtain ⟨S1, g1, r1, f1⟩ := p_minuteGoes hC (okX_at ok hq) hp
    obtain ⟨T1, h1, a1, b1, -⟩ := m_minuteOn hM ok
    have ok1 : okX (x.1 + nI 1, x.2.1 + nI (mG x.2.2), x.2.2.map qU) := ⟨by dsimp only; rw [List.length_map]; exact ok.1, fun z hz => by
      obtain ⟨y, hy, rfl⟩ := List.mem_map.mp hz
      exact okU (ok.2 y hy)⟩
    have hq1 : (x.2.2.map qU)[a]? = some (qU q) := by simp [hq]
    have sc1 : rsC S1 d (sh d) := rsC_keep hd sc (fun r hr => f1.2 r (by omega) (by omega) (by omega))
    have sm1 : rsM T1 d (sh d) := rsM_keep sm b1.kp
    have hI1 : rI (T1.1 8) x0 := by rw [b1.2.2 8 (by omega)]; exact hI
    have fq : frx Sc S1 u := by rw [hP] at f1; exact frx.ofq f1 ha
    -- on
    have go : ∃ r Sc' Sm', fX5_judge_58 n S1 (53 + d) p (nI (k + 1)) = some (r, Sc') ∧ fX6_judge_49 m T1 (nI a) (nI d) (-4) (nI (k + 1)) = some (r, Sm') ∧ frx Sc Sc' u ∧ rM Sm' x0 ∧ mkp Sm Sm' := by
      obtain ⟨r, Sc', Sm', k1, k2, k3, k4, k5⟩ := ih n m (k + 1) _ (qU q) S1 T1 e2 (by omega) (by omega) (by omega) ok1 hq1 r1 a1 hI1 sc1 sm1
      exact ⟨r, Sc', Sm', k1, k2, fq.tr k3, k4, b1.kp.tr k5⟩
    have elc : fX4_leastNumber (53 + d) S1 = some (lst (sh d).2.1.1, S1) := by
      unfold fX4_leastNumber lst
      rw [(sc1.2.2 hk).1]
      rcases (show (sh d).2.1.1 = 0 ∨ (sh d).2.1.1 = 1 ∨ (sh d).2.1.1 = 2 by omega) with e | e | e <;> rw [e] <;> rfl
    have elm : fX6_skippedIn T1 (nI d) = some ((lst (sh d).2.1.1).toInt64, T1) := by
      unfold fX6_skippedIn lst
      rw [g8 hd, g8 hd, cl_n (by omega), (sm1.2.2 hk).1]
      rcases (show (sh d).2.1.1 = 0 ∨ (sh d).2.1.1 = 1 ∨ (sh d).2.1.1 = 2 by omega) with e | e | e <;> rw [e] <;> rfl
    have ec : fX5_judge_58 (n + 1) Sc (53 + d) p (nI k) = if v = lst (sh d).2.1.1 then fX5_judge_58 n S1 (53 + d) p (nI (k + 1)) else if v = nI (qU q).2.2.2.2.length then fX5_judge_58 n S1 (53 + d) p (nI (k + 1)) else some (nI k, S1) := by
      conv => lhs; unfold fX5_judge_58
      unfold fX5_judge_109
      rw [(sc.2.2 hk).2.1, ile_f (by omega) (by omega), g1, bd_s, gi_n (show k < 100 by omega) (by omega), elc, bd_s, gi_n (show k < 100 by omega) (by omega), cl_n (by omega), show 53 + d + 8 = 61 + d by omega, (sc1.2.2 hk).2.2 k v e1, r1.2.2.1, nI_add]
    have em : fX6_judge_49 (m + 1) Sm (nI a) (nI d) (-4) (nI k) = if v = lst (sh d).2.1.1 then fX6_judge_49 m T1 (nI a) (nI d) (-4) (nI (k + 1)) else if v = nI (qU q).2.2.2.2.length then fX6_judge_49 m T1 (nI a) (nI d) (-4) (nI (k + 1)) else fX6_judge_49 m T1 (nI a) (nI d) (nI k) (nI (k + 1)) := by
      conv => lhs; unfold fX6_judge_49
      unfold fX6_judge_107 fX6_judge_114
      rw [g8 hd, cl_n (by omega), (sm.2.2 hk).2.1, ile_f (by omega) (by omega), fI_pos, h1, bd_s, pk_mul, nI_add, gi_n (show 100 * d + k < 800 by omega) (by omega), elm, bd_s, g5 ha, cl_n (by omega), cl_n (by omega), (sm1.2.2 hk).2.2 k v e1, (a1.2.2.2 a (qU q) hq1).2.2.1, nI_add]
      by_cases c1 : v = lst (sh d).2.1.1
      · rw [if_pos (lg_eq0.mpr (i64_eq.mpr c1)), if_pos c1]
      · rw [if_neg (fun q => c1 (i64_eq.mp (lg_eq0.mp q))), if_neg c1]
        by_cases c2 : v = nI (qU q).2.2.2.2.length
        · rw [if_pos (lg_eq0.mpr (i64_eq.mpr c2)), if_pos c2]
        · rw [if_neg (fun q => c2 (i64_eq.mp (lg_eq0.mp q))), if_neg c2]
    rw [ec, em]
    by_cases c1 : v = lst (sh d).2.1.1
    · rw [if_pos c1, if_pos c1]; exact go
    · rw [if_neg c1, if_neg c1]
      by_cases c2 : v = nI (qU q).2.2.2.2.length
      · rw [if_pos c2, if_pos c2]; exact go
      · rw [if_neg c2, if_neg c2]
        obtain ⟨T3, g3, a3, c3, -⟩ := m_close hI1 ok0
        refine ⟨nI k, S1, T3, rfl, ?_, fq, a3, b1.kp.tr c3⟩
        obtain ⟨m, rfl⟩ : ∃ z, m = z + 1 := ⟨m - 1, by omega⟩
        unfold fX6_judge_49 fX6_judge_121
        rw [g8 hd, i0p_t (by omega), ite_self, g3, bv_s]
theorem t_judge {Sc : cM} {Sm : mM} {x : Xx} {im : Option Xx} {sh : Nat → Sh} (R : Rl Sc Sm x im sh) (x1 x2 : Int32) : Same (fX5_judge Sc x1 x2) (fX6_judge Sm x1 x2) := by
  have hn := R.now
  obtain ⟨ok, hC, hM, -, -, r6⟩ := id R
  have hM9 := m9 hM
  have hl := ok.1
  have H9 := SH9 R
  rcases lane_c x hl x1 with h | ⟨a, q, rfl, hq, ha, ha5⟩
  · refine same_of R (r := -1) ?_ ?_
    · unfold fX5_judge; rw [gN hn.1, has_no hC h, bd_s]; rfl
    · unfold fX6_judge fX6_judge_21; rw [sv_s, m_isLane_no hM9.1 hl h, bd_s, if_pos nI_0, m_isLane_no hM9.1 hl h, bd_s]; rfl
  · rcases shelf_c H9 (Or.inr rfl) x2 with ⟨rc, h1, h2, -, h3, h4, -⟩ | ⟨d, rfl, hd, hk, h1, h2, -⟩
    · refine same_of R (r := rc) ?_ ?_
      · unfold fX5_judge fX5_rowRefusal; rw [gN hn.1, has_yes hC ok ha, bd_s, i0e_f (by omega) (by omega), h1, bd_s, bd_s, if_neg h3]
      · unfold fX6_judge fX6_judge_21; rw [sv_s, m_isLane_yes hM9.1 hl ha, bd_s, i0e_f (by omega) (by omega), h2 rfl, bd_s, if_neg h4, m_isLane_yes hM9.1 hl ha, bd_s, i0e_f (by omega) (by omega), h2 rfl, bd_s]
    · obtain ⟨okd, cd, md⟩ := H9 d hd
      obtain ⟨S1, e1, r1, f1⟩ := p_like (u0 := Sc.2.2) (u1 := Sc.2.1) (by omega) (by omega) (Ne.symm hn.2.2) ok hC
      have s1 : S1.2 = Sc.2 := f1.1
      obtain ⟨T1, g1, a1, b1, c1, -⟩ := m_open hM9 ok
      have hF : 110 < lF := by simp [lF]
      have hlen := (okd.2.2 hk).2.1
      unfold fX5_judge fX6_judge fX5_rowRefusal
      generalize lF = F at hF ⊢
      obtain ⟨r, Sc', Sm', k1, k2, k3, k4, k5⟩ := judge_l (p := 5 * Sc.2.2 + 2 + a) hn.2.1 (by omega) ok ha5 hd hk rfl okd (sh d).2.2 F F 0 x q S1 T1 rfl (by omega) (by omega) (by omega) ok hq (r1.2.2.2 a q hq) a1 b1 (rsC_keep hd cd (fun r hr => f1.2 r (by unfold inX; omega))) (rsM_keep md c1)
      refine ⟨r, Sc', Sm', x, im, sh, ?_, ?_, R.step ((f1.tr k3).kp hn.2.1) ((k9.tr c1).tr k5) ok (rC_keep ok.1 hC (f1.tr k3) (by omega) (by omega) hn.2.2) k4⟩
      · rw [gN hn.1, has_yes hC ok ha, bd_s, i0e_f (by omega) (by omega), h1, bd_s, bd_s, if_pos nI_0, g8 hd, gN hn.2.1, gN hn.1, e1, bv_s, s1, gN hn.2.1, g5 ha5, cl_n (by omega), cl_n (by omega)]
        exact k1
      · rw [sv_s, m_isLane_yes hM9.1 hl ha, bd_s, i0e_f (by omega) (by omega), h2 rfl, bd_s, if_pos (by decide), g1, bv_s]
        exact k2
