/-! ===== rows ===== -/
theorem p_fill {p : Nat} (hp : 53 ≤ p ∧ p ≤ 60) {t : Nat} (ht : t ≤ 100) : ∀ (d n k : Nat) (S : cM), t - k = d → k ≤ t → d < n → ∃ S', fX4_holdRow_17 p n S (nI t) (nI k) = some S' ∧ S'.2 = S.2 ∧ (∀ r, r ≠ p + 8 → S'.1 r = S.1 r) ∧ (∀ j, S'.1 (p + 8) j = if k ≤ j ∧ j < t then nI 0 else S.1 (p + 8) j) := by
  intro d
  induction d with
  | zero =>
    intro n k S hd hk hn
    obtain ⟨n, rfl⟩ : ∃ z, n = z + 1 := ⟨n - 1, by omega⟩
    unfold fX4_holdRow_17
    rw [ile_t (by omega) (by omega)]
    exact ⟨S, rfl, rfl, fun _ _ => rfl, fun j => by rw [if_neg (by omega)]⟩
  | succ d ih =>
    intro n k S hd hk hn
    obtain ⟨n, rfl⟩ : ∃ z, n = z + 1 := ⟨n - 1, by omega⟩
    obtain ⟨S', e, a1, a2, a3⟩ := ih n (k + 1) (cS S (p + 8) k (nI 0)) (by omega) (by omega) (by omega)
    unfold fX4_holdRow_17
    rw [ile_f (by omega) (by omega), gi_n (show k < 100 by omega) (by omega), cl_n (by omega), sv_s, nI_add]
    refine ⟨S', e, a1, fun r hr => (a2 r hr).trans (cS_n hr), fun j => ?_⟩
    rw [a3 j, cS_s]
    by_cases c : j = k
    · subst c; rw [if_neg (by omega), upd_s, if_pos (by omega)]
    · rw [upd_n c]
      by_cases c2 : k ≤ j ∧ j < t
      · rw [if_pos c2, if_pos (by omega)]
      · rw [if_neg c2, if_neg (by omega)]
theorem mL_n {S : mM} {q r k : Nat} {v : Int64} (h : r ≠ q) : (mL S q k v).2.1 r = S.2.1 r := by simp [mL, h]
theorem mL_1 {S : mM} {q k : Nat} {v : Int64} : (mL S q k v).1 = S.1 := rfl
theorem updL_s {f : Nat → Int64} {k : Nat} {x : Int64} : vp_updL f k x k = x := by simp [vp_updL]
theorem updL_n {f : Nat → Int64} {k j : Nat} {x : Int64} (h : j ≠ k) : vp_updL f k x j = f j := by simp [vp_updL, h]
theorem m_fill {e : Nat} (he : e < 8) : ∀ (d n k : Nat) (S : mM), 100 - k = d → k ≤ 100 → d < n → ∃ S', fX6_row_68 n S (nI e) (nI k) = some (nI 0, S') ∧ S'.1 = S.1 ∧ (∀ j, S'.2.1 26 j = if 100 * e + k ≤ j ∧ j < 100 * e + 100 then 0 else S.2.1 26 j) := by
  intro d
  induction d with
  | zero =>
    intro n k S hd hk hn
    obtain ⟨n, rfl⟩ : ∃ z, n = z + 1 := ⟨n - 1, by omega⟩
    unfold fX6_row_68
    rw [ile_t (by omega) (by omega)]
    exact ⟨S, rfl, rfl, fun j => by rw [if_neg (by omega)]⟩
  | succ d ih =>
    intro n k S hd hk hn
    obtain ⟨n, rfl⟩ : ∃ z, n = z + 1 := ⟨n - 1, by omega⟩
    obtain ⟨S', e', a1, a3⟩ := ih n (k + 1) (mL S 26 (100 * e + k) 0) (by omega) (by omega) (by omega)
    unfold fX6_row_68
    rw [ile_f (by omega) (by omega), pk_mul, nI_add, gi_n (show 100 * e + k < 800 by omega) (by omega), cl_n (by omega), sv_s, nI_add]
    refine ⟨S', e', a1, fun j => ?_⟩
    rw [a3 j, mL_s]
    by_cases c : j = 100 * e + k
    · subst c; rw [if_neg (by omega), updL_s, if_pos (by omega)]
    · rw [updL_n c]
      by_cases c2 : 100 * e + k ≤ j ∧ j < 100 * e + 100
      · rw [if_pos c2, if_pos (by omega)]
      · rw [if_neg c2, if_neg (by omega)]
theorem t_row {Sc : cM} {Sm : mM} {x : Xx} {im : Option Xx} {sh : Nat → Sh} (R : Rl Sc Sm x im sh) (x1 x2 x3 : Int32) : Same (fX5_row Sc x1 x2 x3) (fX6_row Sm x1 x2 x3) := by
  have hn := R.now
  obtain ⟨ok, hC, hM, -⟩ := id R
  have H9 := SH9 R
  rcases num_c x1 8 (by omega) with h | ⟨d, rfl, hd⟩
  · refine same_of R (r := -1) ?_ ?_
    · unfold fX5_row; rw [p_shelf_no h, bd_s]; rfl
    · unfold fX6_row; rw [sv_s, q_0, q_7, inr_no (by omega) h, bd_s]; rfl
  · rcases num_c x2 3 (by omega) with h | ⟨w, rfl, hw⟩
    · refine same_of R (r := -1) ?_ ?_
      · unfold fX5_row
        rw [p_shelf_yes hd, bd_s, i0e_f (by omega) (by omega)]
        by_cases h1 : x2 < 0
        · rw [if_pos h1]
        · rw [if_neg h1, if_pos (lt_of_le (by omega) (h.resolve_left h1))]
      · unfold fX6_row; rw [sv_s, q_0, q_7, inr_yes (by omega) (by omega), bd_s, i0e_f (by omega) (by omega), q_2, inr_no (by omega) h, bd_s]; rfl
    · have e1 : fX5_row Sc (nI d) (nI w) x3 = if x3 ≤ nI 100 then if (0 : Int32) ≤ x3 then (bv (fX4_holdRow (53 + d) Sc (nI w) x3) fun S9 => some (nI 0, S9)) else some (-14, Sc) else some (-1, Sc) := by
        unfold fX5_row
        rw [p_shelf_yes hd, bd_s, i0e_f (by omega) (by omega), i0n_f (by omega), ilt_f (by omega) (by omega), g8 hd, cl_n (by omega)]
      have e2 : fX6_row Sm (nI d) (nI w) x3 = if x3 ≤ nI 100 then if (0 : Int32) ≤ x3 then fX6_row_68 lF (mS (mS (mS (mS Sm 0 9 (nI 0)) 20 d (nI 2)) 24 d (nI w)) 25 d x3) (nI d) (nI 0) else some (-14, mS Sm 0 9 (nI 0)) else some (-1, mS Sm 0 9 (nI 0)) := by
        unfold fX6_row
        rw [sv_s, q_0, q_7, inr_yes (by omega) (by omega), bd_s, i0e_f (by omega) (by omega), q_2, inr_yes (by omega) (by omega), bd_s, i0e_f (by omega) (by omega)]
        simp only [g8 hd, sv_s, cl_n (show d < 2147483648 by omega)]
      rw [e1, e2]
      by_cases c1 : x3 ≤ nI 100
      · rw [if_pos c1, if_pos c1]
        by_cases c2 : (0 : Int32) ≤ x3
        · rw [if_pos c2, if_pos c2]
          obtain ⟨n, hnn, rfl⟩ : ∃ n : Nat, n ≤ 100 ∧ x3 = nI n := by
            obtain ⟨j, hj, rfl⟩ := nI_of2 (M := nI 100) (n := 100) (nI_toInt (by omega)) (fun h => by
              rw [Int32.lt_iff_toInt_lt] at h
              rw [Int32.le_iff_toInt_le] at c2
              omega) c1
            exact ⟨j, hj, rfl⟩
          have hF : 100 < lF := by simp [lF]
          unfold fX4_holdRow
          simp only [sv_s]
          generalize lF = F at hF ⊢
          obtain ⟨S1, k1, k2, k3, k4⟩ := p_fill (p := 53 + d) (by omega) hnn n F 0 (cS (cS (cS Sc (53 + d) 0 (nI 2)) (53 + d) 4 (nI w)) (53 + d) 5 (nI n)) (by omega) (by omega) (by omega)
          obtain ⟨T1, l1, l2, l3⟩ := m_fill hd 100 F 0 (mS (mS (mS (mS Sm 0 9 (nI 0)) 20 d (nI 2)) 24 d (nI w)) 25 d (nI n)) rfl (by omega) (by omega)
          rw [k1, bv_s, l1]
          refine ⟨nI 0, S1, T1, x, im, fun e => if e = d then (2, (w, 0, 0), List.replicate n 0) else sh e, rfl, rfl, ?_⟩
          have z8 : 53 + d + 8 = 61 + d := by omega
          rw [z8] at k3 k4
          refine R.shelf ⟨by rw [k2]; rfl, fun r hr => ?_⟩ ⟨fun k hk => ?_, fun r r1 r2 => ?_, ?_, ?_⟩ (SH_set H9 hd ⟨Nat.le_refl 2, fun h => absurd (show (2 : Nat) = 1 from h) (by decide), fun _ => ⟨by dsimp only; omega, by simp; omega, fun _ v hv => ?_⟩⟩ ⟨?_, fun h => absurd (show (2 : Nat) = 1 from h) (by decide), fun _ => ⟨?_, ?_, fun k v hv => ?_⟩⟩ ⟨?_, fun h => absurd (show (2 : Nat) = 1 from h) (by decide), fun _ => ⟨?_, ?_, fun k v hv => ?_⟩⟩ (fun e he hne => ⟨?_, ?_⟩) (fun e he hne => ⟨fun r hr => ?_, fun k hk => ?_⟩))
          · have h1 : r ≠ 61 + d := by unfold inX at hr; omega
            have h2 : r ≠ 53 + d := by unfold inX at hr; omega
            rw [k3 r h1, cS_n h2, cS_n h2, cS_n h2]
          · rw [l2, mS_n (by omega), mS_n (by omega), mS_n (by omega), mS_s, upd_n (by omega)]
          · rw [l2, mS_n (by omega), mS_n (by omega), mS_n (by omega), mS_n (by omega)]
          · rw [l2, mS_n (by omega), mS_n (by omega), mS_n (by omega), mS_n (by omega)]
          · rw [l2, mS_n (by omega), mS_n (by omega), mS_n (by omega), mS_s, upd_n (by omega)]
          · rw [(List.mem_replicate.mp hv).2]; decide
          · rw [k3 _ (by omega), cS_s, upd_n (by omega), cS_s, upd_n (by omega), cS_s, upd_s]
          · rw [k3 _ (by omega), cS_s, upd_n (by omega), cS_s, upd_s]
          · rw [k3 _ (by omega), cS_s, upd_s]; simp
          · have hk : k < n := by simpa using (List.getElem?_eq_some_iff.mp hv).1
            rw [k4 k, if_pos (by omega)]
            rw [List.getElem?_replicate, if_pos hk] at hv
            cases hv
            rfl
          · rw [l2, mS_n (by omega), mS_n (by omega), mS_s, upd_s]
          · rw [l2, mS_n (by omega), mS_s, upd_s]
          · rw [l2, mS_s, upd_s]; simp
          · have hk : k < n := by simpa using (List.getElem?_eq_some_iff.mp hv).1
            rw [l3, if_pos (by omega)]
            rw [List.getElem?_replicate, if_pos hk] at hv
            cases hv
            rfl
          · rw [k3 _ (by omega), cS_n (by omega), cS_n (by omega), cS_n (by omega)]
          · rw [k3 _ (by omega), cS_n (by omega), cS_n (by omega), cS_n (by omega)]
          · rw [l2]
            by_cases c3 : r = 25
            · subst c3; rw [mS_s, upd_n hne, mS_n (by omega), mS_n (by omega)]
            · rw [mS_n c3]
              by_cases c2 : r = 24
              · subst c2; rw [mS_s, upd_n hne, mS_n (by omega)]
              · rw [mS_n c2]
                by_cases c1 : r = 20
                · subst c1; rw [mS_s, upd_n hne]
                · rw [mS_n c1]
          · rw [l3, if_neg (by omega)]; rfl
        · rw [if_neg c2, if_neg c2]; exact same_of R rfl rfl
      · rw [if_neg c1, if_neg c1]; exact same_of R rfl rfl
/-- what a row's sort keeps of a number -/
def nar (st : Nat) (v : Int32) : Int32 := if st = 0 then v.toInt8.toInt32 else if st = 1 then v.toInt16.toInt32 else v
theorem i8_rng (v : Int32) : -128 ≤ v.toInt8.toInt32.toInt ∧ v.toInt8.toInt32.toInt ≤ 127 := by
  rw [Int8.toInt_toInt32]
  have h1 := Int8.le_toInt v.toInt8
  have h2 := Int8.toInt_lt v.toInt8
  omega
theorem t_put {Sc : cM} {Sm : mM} {x : Xx} {im : Option Xx} {sh : Nat → Sh} (R : Rl Sc Sm x im sh) (x1 x2 x3 : Int32) : Same (fX5_put Sc x1 x2 x3) (fX6_put Sm x1 x2 x3) := by
  have H9 := SH9 R
  rcases shelf_c H9 (Or.inr rfl) x1 with ⟨rc, h1, h2, -, h3, h4, -⟩ | ⟨d, rfl, hd, hk, h1, h2, -⟩
  · refine same_of R (r := rc) ?_ ?_
    · unfold fX5_put fX5_rowRefusal; rw [h1, bd_s, bd_s, if_neg h3]
    · unfold fX6_put; rw [sv_s, h2 rfl, bd_s, if_neg h4]
  · obtain ⟨hok, hc, hm⟩ := H9 d hd
    obtain ⟨c4, c5, c6⟩ := hc.2.2 hk
    obtain ⟨d4, d5, d6⟩ := hm.2.2 hk
    obtain ⟨o1, o2, o3⟩ := hok.2.2 hk
    have hc0 := hc.1
    rw [hk] at hc0
    rcases num_c x2 (sh d).2.2.length (by omega) with h | ⟨i, rfl, hi⟩
    · refine same_of R (r := -13) ?_ ?_
      · unfold fX5_put fX5_rowRefusal fX4_hasElement
        rw [h1, bd_s, bd_s, if_pos nI_0, g8 hd, cl_n (by omega), hc0, ieq_t rfl, c5]
        by_cases h1 : x2 < 0
        · rw [if_pos h1, bd_s]; rfl
        · rw [if_neg h1, if_pos (h.resolve_left h1), bd_s]; rfl
      · unfold fX6_put
        rw [sv_s, h2 rfl, bd_s, if_pos (by decide), g8 hd, cl_n (by omega), d5, q_0, in_no (h.imp (fun q => by rw [nI_0]; exact q) (fun q => ge_pred (by omega) q)), bd_s]
        rfl
    · have ec : fX5_put Sc (nI d) (nI i) x3 = some (nI 0, cS Sc (61 + d) i (nar (sh d).2.1.1 x3)) := by
        have e9 : fX4_lowestBits (53 + d) Sc x3 = some (nar (sh d).2.1.1 x3, Sc) := by
          unfold fX4_lowestBits nar
          rw [c4]
          rcases (show (sh d).2.1.1 = 0 ∨ (sh d).2.1.1 = 1 ∨ (sh d).2.1.1 = 2 by omega) with e | e | e <;> rw [e] <;> rfl
        unfold fX5_put fX5_rowRefusal fX4_hasElement
        rw [h1, bd_s, bd_s, if_pos nI_0, g8 hd, cl_n (by omega), hc0, ieq_t rfl, c5, i0n_f (by omega), ile_f (by omega) (by omega), bd_s, i0e_f (by omega) (by omega), g8 hd, g8 hd, e9, bd_s, gi_n (show i < 100 by omega) (by omega), cl_n (by omega), sv_s, show 53 + d + 8 = 61 + d by omega]
      have em : fX6_put Sm (nI d) (nI i) x3 = some (nI 0, mL (mS Sm 0 9 (nI 0)) 26 (100 * d + i) (nar (sh d).2.1.1 x3).toInt64) := by
        have e9 : fX6_narrowed (mS Sm 0 9 (nI 0)) x3 (nI (sh d).2.1.1) = some ((nar (sh d).2.1.1 x3).toInt64, mS Sm 0 9 (nI 0)) := by
          unfold fX6_narrowed nar
          rcases (show (sh d).2.1.1 = 0 ∨ (sh d).2.1.1 = 1 ∨ (sh d).2.1.1 = 2 by omega) with e | e | e <;> rw [e] <;> rfl
        unfold fX6_put
        rw [sv_s, h2 rfl, bd_s, if_pos (by decide), g8 hd, cl_n (by omega), d5, q_0, in_yes (nI_nlt (by omega) (by omega)) (lt_pred (by omega) hi), bd_s, i0e_f (by omega) (by omega), g8 hd, d4, e9, bd_s, pk_mul, nI_add, gi_n (show 100 * d + i < 800 by omega) (by omega), cl_n (by omega), sv_s]
      refine ⟨nI 0, _, _, x, im, fun e => if e = d then (2, (sh d).2.1, (sh d).2.2.set i (nar (sh d).2.1.1 x3)) else sh e, ec, em, ?_⟩
      refine R.shelf ⟨rfl, fun r hr => cS_n (by unfold inX at hr; omega)⟩ ⟨fun k hk => ?_, fun r r1 r2 => ?_, ?_, ?_⟩ (SH_set H9 hd ⟨Nat.le_refl 2, fun h => absurd (show (2 : Nat) = 1 from h) (by decide), fun _ => ⟨o1, by dsimp only; rw [List.length_set]; exact o2, fun h0 v hv => ?_⟩⟩ ⟨?_, fun h => absurd (show (2 : Nat) = 1 from h) (by decide), fun _ => ⟨?_, ?_, fun k v hv => ?_⟩⟩ ⟨?_, fun h => absurd (show (2 : Nat) = 1 from h) (by decide), fun _ => ⟨?_, ?_, fun k v hv => ?_⟩⟩ (fun e he hne => ⟨?_, ?_⟩) (fun e he hne => ⟨fun r hr => ?_, fun k hk => ?_⟩))
      · show (mS Sm 0 9 (nI 0)).1 0 k = _
        rw [mS_s, upd_n (by omega)]
      · show (mS Sm 0 9 (nI 0)).1 r = _
        rw [mS_n (by omega)]
      · show (mS Sm 0 9 (nI 0)).1 9 = _
        rw [mS_n (by omega)]
      · show (mS Sm 0 9 (nI 0)).1 0 13 = _
        rw [mS_s, upd_n (by omega)]
      · dsimp only at h0 hv
        rcases List.mem_or_eq_of_mem_set hv with h | h
        · exact o3 h0 v h
        · rw [h, h0]; exact i8_rng x3
      · rw [cS_n (by omega)]; exact hc0
      · rw [cS_n (by omega)]; exact c4
      · rw [cS_n (by omega), c5]; simp
      · rw [cS_s]
        dsimp only at hv
        rw [List.getElem?_set] at hv
        by_cases c : i = k
        · subst c; rw [if_pos rfl, if_pos hi] at hv; cases hv; rw [upd_s]
        · rw [if_neg c] at hv; rw [upd_n (Ne.symm c)]; exact c6 k v hv
      · show (mS Sm 0 9 (nI 0)).1 20 d = _
        rw [hm.1, hk]
      · exact d4
      · show (mS Sm 0 9 (nI 0)).1 25 d = _
        rw [d5]; simp
      · rw [mL_s]
        dsimp only at hv
        rw [List.getElem?_set] at hv
        by_cases c : i = k
        · subst c; rw [if_pos rfl, if_pos hi] at hv; cases hv; rw [updL_s]
        · rw [if_neg c] at hv; rw [updL_n (by omega)]; exact d6 k v hv
      · exact cS_n (by omega)
      · exact cS_n (by omega)
      · rfl
      · rw [mL_s, updL_n (by omega)]
