/-! ===== shelves ===== -/
def SH (Sc : cM) (Sm : mM) (sh : Nat → Sh) : Prop := ∀ d, d < 8 → okS (sh d) ∧ rsC Sc d (sh d) ∧ rsM Sm d (sh d)
theorem SH9 {Sc : cM} {Sm : mM} {x : Xx} {im : Option Xx} {sh : Nat → Sh} (R : Rl Sc Sm x im sh) : SH Sc (mS Sm 0 9 (nI 0)) sh := fun d hd => ⟨(R.2.2.2.2.2 d hd).1, (R.2.2.2.2.2 d hd).2.1, rsM_keep (R.2.2.2.2.2 d hd).2.2 k9⟩
theorem p_shelf_no {S : cM} {z : Int32} (h : z < 0 ∨ nI 8 ≤ z) : fX5_isShelf S z = some (nI 0, S) := by
  unfold fX5_isShelf
  by_cases h1 : z < 0
  · rw [if_pos h1]
  · rw [if_neg h1, if_pos (h.resolve_left h1)]
theorem p_shelf_yes {S : cM} {s : Nat} (h : s < 8) : fX5_isShelf S (nI s) = some (nI 1, S) := by
  unfold fX5_isShelf
  simp (disch := omega) only [ile_t, ile_f, ilt_t, ilt_f, ieq_t, ieq_f, i0n_f, i0p_t, i0e_t, i0e_f, i0l_t, i0l_f, i0g_t, i0g_f, b2_if, ↓reduceIte]
/-- a shelf that should hold a thing of kind k (1 a lane, 2 a row): refused alike, or it does -/
theorem shelf_c {Sc : cM} {Sm : mM} {sh : Nat → Sh} (H : SH Sc Sm sh) {k : Nat} (hk : k = 1 ∨ k = 2) (z : Int32) :
    (∃ rc : Int32, fX5_shelfRefusal Sc z (nI k) = some (rc, Sc) ∧ (k = 2 → fX6_wrongRow Sm z = some (rc, Sm)) ∧ (k = 1 → fX6_wrongLane Sm z = some (rc, Sm)) ∧ ¬ rc = 0 ∧ ¬ (0 : Int32) ≤ rc ∧ (rc = -1 ↔ (z < 0 ∨ nI 8 ≤ z))) ∨
    ∃ d, z = nI d ∧ d < 8 ∧ (sh d).1 = k ∧ fX5_shelfRefusal Sc z (nI k) = some (nI 0, Sc) ∧ (k = 2 → fX6_wrongRow Sm z = some (nI 0, Sm)) ∧ (k = 1 → fX6_wrongLane Sm z = some (nI 0, Sm)) := by
  rcases num_c z 8 (by omega) with h | ⟨d, rfl, hd⟩
  · refine Or.inl ⟨-1, ?_, fun _ => ?_, fun _ => ?_, by decide, by decide, Iff.intro (fun _ => h) (fun _ => rfl)⟩
    · unfold fX5_shelfRefusal; rw [p_shelf_no h, bd_s]; rfl
    · unfold fX6_wrongRow; rw [q_0, q_7, inr_no (by omega) h, bd_s]; rfl
    · unfold fX6_wrongLane; rw [q_0, q_7, inr_no (by omega) h, bd_s]; rfl
  · obtain ⟨hok, hc, hm⟩ := H d hd
    have h2 := hok.1
    have nin : ¬ ((nI d) < 0 ∨ nI 8 ≤ nI d) := fun h => h.elim (nI_pos (by omega)) (nI_ge (by omega) (by omega))
    have e1 : fX5_shelfRefusal Sc (nI d) (nI k) = if nI (sh d).1 = 0 then some (-11, Sc) else if nI (sh d).1 = nI k then some (nI 0, Sc) else some (-12, Sc) := by
      unfold fX5_shelfRefusal
      rw [p_shelf_yes hd, bd_s, i0e_f (by omega) (by omega), g8 hd, g8 hd, cl_n (by omega), hc.1]
    have e2 : fX6_wrongRow Sm (nI d) = if nI (sh d).1 = 0 then some (-11, Sm) else if nI (sh d).1 = nI 2 then some (nI 0, Sm) else some (-12, Sm) := by
      unfold fX6_wrongRow
      rw [q_0, q_7, inr_yes (by omega) (by omega), bd_s, i0e_f (by omega) (by omega), g8 hd, g8 hd, cl_n (by omega), hm.1]
    have e3 : fX6_wrongLane Sm (nI d) = if nI (sh d).1 = 0 then some (-11, Sm) else if nI (sh d).1 = nI 1 then some (nI 0, Sm) else some (-12, Sm) := by
      unfold fX6_wrongLane
      rw [q_0, q_7, inr_yes (by omega) (by omega), bd_s, i0e_f (by omega) (by omega), g8 hd, g8 hd, cl_n (by omega), hm.1]
    rw [e1, e2, e3]
    by_cases h0 : (sh d).1 = 0
    · refine Or.inl ⟨-11, i0e_t h0, fun _ => i0e_t h0, fun _ => i0e_t h0, by decide, by decide, Iff.intro (fun h => absurd h (by decide)) (fun h => absurd h nin)⟩
    · by_cases hk2 : (sh d).1 = k
      · refine Or.inr ⟨d, rfl, hd, hk2, ?_, fun e => ?_, fun e => ?_⟩
        · rw [i0e_f (by omega) (by omega), ieq_t hk2]
        · rw [i0e_f (by omega) (by omega), ieq_t (by omega)]
        · rw [i0e_f (by omega) (by omega), ieq_t (by omega)]
      · refine Or.inl ⟨-12, ?_, fun e => ?_, fun e => ?_, by decide, by decide, Iff.intro (fun h => absurd h (by decide)) (fun h => absurd h nin)⟩
        · rw [i0e_f (by omega) (by omega), ieq_f hk2 (by omega) (by omega)]
        · rw [i0e_f (by omega) (by omega), ieq_f (by omega) (by omega) (by omega)]
        · rw [i0e_f (by omega) (by omega), ieq_f (by omega) (by omega) (by omega)]
theorem pay_c {S : cM} {kd fg : Nat} (hk : kd ≤ 7) (hf : fg ≤ 9) {Sm : mM} {d : Nat} (hd : d < 8) (h1 : Sm.1 22 d = nI kd) (h2 : Sm.1 23 d = nI fg) : ∃ v, fX2_toPay S (nI kd) (nI fg) = some (v, S) ∧ fX6_tollOf Sm (nI d) = some (v, Sm) := by
  unfold fX2_toPay fX6_tollOf
  rw [g8 hd, g8 hd, cl_n (by omega), h1, h2]
  rcases (show kd = 0 ∨ kd = 1 ∨ kd = 2 ∨ kd = 3 ∨ kd = 4 ∨ kd = 5 ∨ kd = 6 ∨ kd = 7 by omega) with rfl | rfl | rfl | rfl | rfl | rfl | rfl | rfl
  case inr.inr.inr.inr.inr.inr.inl =>
    refine ⟨nI 8 + nI 2 * nI fg, ?_, rfl⟩
    rcases (show fg = 0 ∨ fg = 1 ∨ fg = 2 ∨ fg = 3 ∨ fg = 4 ∨ fg = 5 ∨ fg = 6 ∨ fg = 7 ∨ fg = 8 ∨ fg = 9 by omega) with rfl | rfl | rfl | rfl | rfl | rfl | rfl | rfl | rfl | rfl <;> rfl
  all_goals exact ⟨_, rfl, rfl⟩
theorem t_toll {Sc : cM} {Sm : mM} {x : Xx} {im : Option Xx} {sh : Nat → Sh} (R : Rl Sc Sm x im sh) (x1 : Int32) : Same (fX5_toll Sc x1) (fX6_toll Sm x1) := by
  rcases shelf_c (SH9 R) (Or.inl rfl) x1 with ⟨rc, h1, -, h2, h3, h4, -⟩ | ⟨d, rfl, hd, hk, h1, -, h2⟩
  · refine same_of R (r := rc) ?_ ?_
    · unfold fX5_toll fX5_keptLaneRefusal; rw [h1, bd_s, bd_s, if_neg h3]
    · unfold fX6_toll; rw [sv_s, h2 rfl, bd_s, if_neg h4, h2 rfl, bd_s]
  · obtain ⟨hok, hc, hm⟩ := SH9 R d hd
    obtain ⟨v, p1, p2⟩ := pay_c (S := Sc) (hok.2.1 hk).2.1 (hok.2.1 hk).2.2 hd (hm.2.1 hk).2.1 (hm.2.1 hk).2.2
    refine same_of R (r := v) ?_ ?_
    · unfold fX5_toll fX5_keptLaneRefusal
      rw [h1, bd_s, bd_s, if_pos nI_0, g8 hd, g8 hd, cl_n (by omega), (hc.2.1 hk).2.1, (hc.2.1 hk).2.2, p1, bd_s]
    · unfold fX6_toll
      rw [sv_s, h2 rfl, bd_s, if_pos (by decide), p2, bd_s]
/-- the shelves after a change of one of them -/
theorem SH_set {Sc Sc' : cM} {Sm Sm' : mM} {sh : Nat → Sh} {d : Nat} {h : Sh} (H : SH Sc Sm sh) (hd : d < 8) (ok : okS h) (h1 : rsC Sc' d h) (h2 : rsM Sm' d h) (kc : ∀ e, e < 8 → e ≠ d → Sc'.1 (53 + e) = Sc.1 (53 + e) ∧ Sc'.1 (61 + e) = Sc.1 (61 + e)) (km : ∀ e, e < 8 → e ≠ d → (∀ r, 20 ≤ r → Sm'.1 r e = Sm.1 r e) ∧ ∀ k, k < 100 → Sm'.2.1 26 (100 * e + k) = Sm.2.1 26 (100 * e + k)) : SH Sc' Sm' (fun e => if e = d then h else sh e) := by
  intro e he
  by_cases c : e = d
  · subst c
    simp only [if_true]
    exact ⟨ok, h1, h2⟩
  · simp only [c, if_false]
    obtain ⟨a, b, m⟩ := H e he
    refine ⟨a, ?_, ?_⟩
    · unfold rsC
      rw [(kc e he c).1, (kc e he c).2]
      exact b
    · obtain ⟨k1, k2⟩ := km e he c
      unfold rsM
      rw [k1 20 (by omega), k1 21 (by omega), k1 22 (by omega), k1 23 (by omega), k1 24 (by omega), k1 25 (by omega)]
      refine ⟨m.1, m.2.1, fun h2 => ⟨(m.2.2 h2).1, (m.2.2 h2).2.1, fun k v hv => ?_⟩⟩
      have hlen := (a.2.2 h2).2.1
      have := (List.getElem?_eq_some_iff.mp hv).1
      rw [k2 k (by omega)]
      exact (m.2.2 h2).2.2 k v hv
/-- all else stays when only shelves change -/
theorem Rl.shelf {Sc : cM} {Sm : mM} {x : Xx} {im : Option Xx} {sh : Nat → Sh} (R : Rl Sc Sm x im sh) {Sc' : cM} {Sm' : mM} {sh' : Nat → Sh} (hc : Sc'.2 = Sc.2 ∧ ∀ r, (r = 0 ∨ inX 1 r ∨ inX 2 r ∨ inX 3 r) → Sc'.1 r = Sc.1 r) (hm : (∀ k, k ≤ 2 → Sm'.1 0 k = Sm.1 0 k) ∧ (∀ r, 1 ≤ r → r ≤ 6 → Sm'.1 r = Sm.1 r) ∧ Sm'.1 9 = Sm.1 9 ∧ Sm'.1 0 13 = Sm.1 0 13) (H : SH Sc' Sm' sh') : Rl Sc' Sm' x im sh' := by
  have hn := R.now
  obtain ⟨ok, hC, hM, r4, r5, r6⟩ := R
  refine ⟨ok, ?_, rM_core hM hm.1 hm.2.1, by rw [hc.1]; exact r4, ?_, H⟩
  · rw [hc.1]
    refine rC_rows ok.1 hC (fun r hr => hc.2 r ?_)
    rcases hn.1 with h | h
    · rw [h] at hr; exact Or.inr (Or.inl hr)
    · rw [h] at hr; exact Or.inr (Or.inr (Or.inl hr))
  · cases im with
    | none =>
      show Sc'.1 0 3 = nI 0 ∧ Sm'.1 0 13 = nI 0
      rw [hc.2 0 (Or.inl rfl), hm.2.2.2]
      exact r5
    | some y =>
      obtain ⟨h1, h2, h3, h4, h5⟩ := r5
      show Sc'.1 0 3 = nI 1 ∧ Sm'.1 0 13 = nI 1 ∧ okX y ∧ rC Sc' 3 y ∧ rI (Sm'.1 9) y
      rw [hc.2 0 (Or.inl rfl), hm.2.2.2, hm.2.2.1]
      exact ⟨h1, h2, h3, rC_rows h3.1 h4 (fun r hr => hc.2 r (Or.inr (Or.inr (Or.inr hr)))), h5⟩
theorem t_keep {Sc : cM} {Sm : mM} {x : Xx} {im : Option Xx} {sh : Nat → Sh} (R : Rl Sc Sm x im sh) (x1 x2 x3 : Int32) : Same (fX5_keep Sc x1 x2 x3) (fX6_keep Sm x1 x2 x3) := by
  have hn := R.now
  obtain ⟨ok, hC, hM, -⟩ := id R
  have hM9 := m9 hM
  have hl := ok.1
  have H9 := SH9 R
  rcases num_c x1 8 (by omega) with h | ⟨d, rfl, hd⟩
  · refine same_of R (r := -1) ?_ ?_
    · unfold fX5_keep; rw [p_shelf_no h, bd_s]; rfl
    · unfold fX6_keep; rw [sv_s, q_0, q_7, inr_no (by omega) h, bd_s]; rfl
  · rcases num_c x2 2 (by omega) with h | ⟨w, rfl, hw⟩
    · refine same_of R (r := -1) ?_ ?_
      · unfold fX5_keep
        rw [p_shelf_yes hd, bd_s, i0e_f (by omega) (by omega)]
        by_cases h1 : x2 < 0
        · rw [if_pos h1]
        · rw [if_neg h1, if_pos (lt_of_le (by omega) (h.resolve_left h1))]
      · unfold fX6_keep; rw [sv_s, q_0, q_7, inr_yes (by omega) (by omega), bd_s, i0e_f (by omega) (by omega), q_1, inr_no (by omega) h, bd_s]; rfl
    · by_cases hw0 : w = 0
      · subst hw0
        refine ⟨nI 0, cS Sc (53 + d) 0 (nI 0), mS (mS Sm 0 9 (nI 0)) 20 d (nI 0), x, im, fun e => if e = d then (0, (0, 0, 0), []) else sh e, ?_, ?_, ?_⟩
        · unfold fX5_keep fX5_keep_34 fX4_holdNothing
          rw [p_shelf_yes hd, bd_s, i0e_f (by omega) (by omega), i0n_f (by omega), ilt_f (by omega) (by omega), ieq_f (by omega) (by omega) (by omega), if_pos nI_0, g8 hd, cl_n (by omega), sv_s, bv_s]
        · unfold fX6_keep fX6_keep_42
          rw [sv_s, q_0, q_7, inr_yes (by omega) (by omega), bd_s, i0e_f (by omega) (by omega), q_1, inr_yes (by omega) (by omega), bd_s, i0e_f (by omega) (by omega), ieq_f (by omega) (by omega) (by omega), g8 hd, cl_n (by omega), sv_s, ieq_f (by omega) (by omega) (by omega)]
        · refine R.shelf ⟨rfl, fun r hr => cS_n (by unfold inX at hr; omega)⟩ ⟨fun k hk => ?_, fun r r1 r2 => ?_, ?_, ?_⟩ (SH_set H9 hd ⟨by decide, fun h => absurd h (by decide), fun h => absurd h (by decide)⟩ ⟨by rw [cS_s, upd_s], fun h => absurd h (by decide), fun h => absurd h (by decide)⟩ ⟨by rw [mS_s, upd_s], fun h => absurd h (by decide), fun h => absurd h (by decide)⟩ (fun e he hne => ⟨cS_n (by omega), cS_n (by omega)⟩) (fun e he hne => ⟨fun r hr => ?_, fun k _ => rfl⟩))
          · rw [mS_n (by omega), mS_s, upd_n (by omega)]
          · rw [mS_n (by omega), mS_n (by omega)]
          · rw [mS_n (by omega), mS_n (by omega)]
          · rw [mS_n (by omega), mS_s, upd_n (by omega)]
          · by_cases c : r = 20
            · subst c; rw [mS_s, upd_n hne]
            · rw [mS_n c]
      · have hw1 : w = 1 := by omega
        subst hw1
        rcases lane_c x hl x3 with h | ⟨j, q, rfl, hq, hj, hj5⟩
        · refine same_of R (r := -1) ?_ ?_
          · unfold fX5_keep
            rw [p_shelf_yes hd, bd_s, i0e_f (by omega) (by omega), i0n_f (by omega), ilt_f (by omega) (by omega), ieq_t rfl, gN hn.1, has_no hC h, bd_s]
            rfl
          · unfold fX6_keep
            rw [sv_s, q_0, q_7, inr_yes (by omega) (by omega), bd_s, i0e_f (by omega) (by omega), q_1, inr_yes (by omega) (by omega), bd_s, i0e_f (by omega) (by omega), ieq_t rfl, m_isLane_no hM9.1 hl h, bd_s]
            rfl
        · have hc := hC.2.2.2 j q hq
          have hm := hM9.2.2.2 j q hq
          have okq := okX_at ok hq
          refine ⟨nI 0, cS (cS (cS (cS Sc (53 + d) 0 (nI 1)) (53 + d) 1 (nI j)) (53 + d) 2 (nI q.1)) (53 + d) 3 (nI q.2.1), mS (mS (mS (mS (mS Sm 0 9 (nI 0)) 20 d (nI 1)) 21 d (nI j)) 22 d (nI q.1)) 23 d (nI q.2.1), x, im, fun e => if e = d then (1, (j, q.1, q.2.1), []) else sh e, ?_, ?_, ?_⟩
          · unfold fX5_keep fX5_keep_34 fX4_holdLane
            rw [p_shelf_yes hd, bd_s, i0e_f (by omega) (by omega), i0n_f (by omega), ilt_f (by omega) (by omega), ieq_t rfl, gN hn.1, has_yes hC ok hj, bd_s, i0e_f (by omega) (by omega), i0e_f (by omega) (by omega), g8 hd, gN hn.1, g5 hj5, cl_n (by omega), cl_n (by omega)]
            simp only [sv_s, bv_s]
            rw [cS_n (by omega), cS_n (by omega), hc.1, cS_n (by omega), cS_n (by omega), cS_n (by omega), hc.2.1]
          · unfold fX6_keep fX6_keep_42
            rw [sv_s, q_0, q_7, inr_yes (by omega) (by omega), bd_s, i0e_f (by omega) (by omega), q_1, inr_yes (by omega) (by omega), bd_s, i0e_f (by omega) (by omega), ieq_t rfl, m_isLane_yes hM9.1 hl hj, bd_s, i0e_f (by omega) (by omega)]
            simp only [g8 hd, g5 hj5, sv_s]
            rw [if_pos trivial, cl_n (by omega), cl_n (by omega), mS_n (by omega), mS_n (by omega), hm.1, mS_n (by omega), mS_n (by omega), mS_n (by omega), hm.2.1]
          · refine R.shelf ⟨rfl, fun r hr => ?_⟩ ⟨fun k hk => ?_, fun r r1 r2 => ?_, ?_, ?_⟩ (SH_set H9 hd ⟨(by decide : (1 : Nat) ≤ 2), fun _ => ⟨hj5, okq.1, okq.2.1⟩, fun h => absurd (show (1 : Nat) = 2 from h) (by decide)⟩ ⟨?_, fun _ => ⟨?_, ?_, ?_⟩, fun h => absurd (show (1 : Nat) = 2 from h) (by decide)⟩ ⟨?_, fun _ => ⟨?_, ?_, ?_⟩, fun h => absurd (show (1 : Nat) = 2 from h) (by decide)⟩ (fun e he hne => ⟨?_, ?_⟩) (fun e he hne => ⟨fun r hr => ?_, fun k _ => rfl⟩))
            · have : r ≠ 53 + d := by unfold inX at hr; omega
              rw [cS_n this, cS_n this, cS_n this, cS_n this]
            · rw [mS_n (by omega), mS_n (by omega), mS_n (by omega), mS_n (by omega), mS_s, upd_n (by omega)]
            · rw [mS_n (by omega), mS_n (by omega), mS_n (by omega), mS_n (by omega), mS_n (by omega)]
            · rw [mS_n (by omega), mS_n (by omega), mS_n (by omega), mS_n (by omega), mS_n (by omega)]
            · rw [mS_n (by omega), mS_n (by omega), mS_n (by omega), mS_n (by omega), mS_s, upd_n (by omega)]
            · rw [cS_s, upd_n (by omega), cS_s, upd_n (by omega), cS_s, upd_n (by omega), cS_s, upd_s]
            · rw [cS_s, upd_n (by omega), cS_s, upd_n (by omega), cS_s, upd_s]
            · rw [cS_s, upd_n (by omega), cS_s, upd_s]
            · rw [cS_s, upd_s]
            · rw [mS_n (by omega), mS_n (by omega), mS_n (by omega), mS_s, upd_s]
            · rw [mS_n (by omega), mS_n (by omega), mS_s, upd_s]
            · rw [mS_n (by omega), mS_s, upd_s]
            · rw [mS_s, upd_s]
            · rw [cS_n (by omega), cS_n (by omega), cS_n (by omega), cS_n (by omega)]
            · rw [cS_n (by omega), cS_n (by omega), cS_n (by omega), cS_n (by omega)]
            · by_cases c3 : r = 23
              · subst c3; rw [mS_s, upd_n hne, mS_n (by omega), mS_n (by omega), mS_n (by omega)]
              · rw [mS_n c3]
                by_cases c2 : r = 22
                · subst c2; rw [mS_s, upd_n hne, mS_n (by omega), mS_n (by omega)]
                · rw [mS_n c2]
                  by_cases c1 : r = 21
                  · subst c1; rw [mS_s, upd_n hne, mS_n (by omega)]
                  · rw [mS_n c1]
                    by_cases c0 : r = 20
                    · subst c0; rw [mS_s, upd_n hne]
                    · rw [mS_n c0]
