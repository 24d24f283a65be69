/-! ===== one statement: what it is, and how the class reads it ===== -/
theorem tw_at : ∀ (l : List Nat) (i z : Nat), ((l.takeWhile isd).map (· - 48))[i]? = some z → l[i]? = some (48 + z) ∧ z ≤ 9 := by
  intro l
  induction l with
  | nil => intro i z h; simp at h
  | cons b l ih =>
    intro i z h
    by_cases c : isd b = true
    · rw [List.takeWhile_cons_of_pos c, List.map_cons] at h
      have := isd_t c
      cases i with
      | zero =>
        simp only [List.getElem?_cons_zero, Option.some.injEq] at h ⊢
        omega
      | succ i =>
        simp only [List.getElem?_cons_succ] at h ⊢
        exact ih i z h
    · rw [List.takeWhile_cons_of_neg c] at h
      simp at h
theorem tw_n59 : ∀ (l : List Nat) (i : Nat), i < (l.takeWhile isd).length → l[i]? ≠ some 59 := by
  intro l i hi
  have h : ((l.takeWhile isd).map (· - 48))[i]? = some (((l.takeWhile isd).map (· - 48))[i]'(by simpa using hi)) := List.getElem?_eq_getElem _
  have := tw_at l i _ h
  intro e
  rw [this.1] at e
  simp only [Option.some.injEq] at e
  omega
theorem dw_at : ∀ (l : List Nat) (e : Nat) (l' : List Nat), l.dropWhile isd = e :: l' → l[(l.takeWhile isd).length]? = some e ∧ l.drop ((l.takeWhile isd).length + 1) = l' := by
  intro l
  induction l with
  | nil => intro e l' h; cases h
  | cons b l ih =>
    intro e l' h
    by_cases c : isd b = true
    · rw [List.dropWhile_cons_of_pos c] at h
      rw [List.takeWhile_cons_of_pos c, List.length_cons]
      have := ih e l' h
      simp only [List.getElem?_cons_succ, List.drop_succ_cons]
      exact this
    · rw [List.dropWhile_cons_of_neg c] at h
      injection h with h1 h2
      subst h1 h2
      rw [List.takeWhile_cons_of_neg c]
      simp
theorem rs_c (l : List Nat) (k : Nat) (hk : l = [] → k = 0) :
    (∃ j, rs l = .inl j ∧ fbs l 0 k = some (k + j) ∧ j ≤ l.length) ∨ (∃ r, rs l = .inr r ∧ shp l r ∧ r.1 ≤ l.length ∧ fbs l 0 k = fbs (l.drop r.1) 0 (k + r.1)) := by
  cases l with
  | nil =>
    left
    refine ⟨0, rfl, ?_, Nat.le_refl _⟩
    unfold fbs
    rw [hk rfl]; rfl
  | cons c l =>
    by_cases hc : c = 108 ∨ c = 99 ∨ c = 109
    · have e0 : rs (c :: l) = rs1 c l := by rw [rs_k, if_pos hc]
      rw [e0]
      cases l with
      | nil =>
        left
        refine ⟨1, rfl, ?_, by simp⟩
        rcases hc with rfl | rfl | rfl <;> rfl
      | cons a l =>
        by_cases ha : isd a = true
        · have ha2 := isd_t ha
          by_cases hm : c = 109
          · subst hm
            have e1 : rs1 109 (a :: l) = rsm a l := by rw [rs1_k, if_pos ha, if_pos rfl]
            have f1 : fbs (109 :: a :: l) 0 k = fbs l (if a = 48 then 8 else 7) (k + 1 + 1) := by
              rw [fbs_cons (by decide), show nx 0 109 = 6 from rfl, fbs_cons (by rw [nx_6d ha]; split <;> omega), nx_6d ha]
            rw [e1, f1]
            cases l with
            | nil =>
              left
              refine ⟨2, rfl, ?_, by simp⟩
              unfold fbs
              rw [if_neg (by split <;> omega)]
            | cons b l =>
              by_cases hb : 48 < a ∧ isd b = true
              · have hb2 := isd_t hb.2
                have e2 : rsm a (b :: l) = en l 3 (4, 109, 10 * (a - 48) + (b - 48), 0, []) := by rw [rsm_k, if_pos hb]
                rw [e2, if_neg (by omega), fbs_cons (by rw [nx_7d hb.2]; decide), nx_7d hb.2]
                rcases en_c (l := l) (st := 8) (by omega) (fun e l' _ => nx_8) 3 (k + 1 + 1 + 1) (4, 109, 10 * (a - 48) + (b - 48), 0, []) with ⟨q1, q2⟩ | ⟨l', rfl, q1, q2⟩
                · left; exact ⟨3, q1, by rw [q2], by simp⟩
                · right
                  refine ⟨_, q1, ⟨rfl, by dsimp only; omega, rfl, fun i hi => ?_, Or.inr (Or.inr ⟨rfl, Or.inr ⟨rfl, a - 48, b - 48, rfl, ?_, ?_, by omega, by omega⟩⟩)⟩, by simp, by rw [q2]; rfl⟩
                  · dsimp only at hi
                    rcases (show i = 0 ∨ i = 1 ∨ i = 2 by omega) with rfl | rfl | rfl <;> simp <;> omega
                  · simp; omega
                  · simp; omega
              · have e2 : rsm a (b :: l) = en (b :: l) 2 (3, 109, a - 48, 0, []) := by rw [rsm_k, if_neg hb]
                rw [e2]
                have hst : ∀ e l', b :: l = e :: l' → nx (if a = 48 then 8 else 7) e = if e = 59 then 0 else 9 := by
                  intro e l' he
                  injection he with he1 he2
                  subst he1
                  by_cases c48 : a = 48
                  · rw [if_pos c48]; exact nx_8
                  · rw [if_neg c48]; exact nx_e (Or.inr (Or.inl rfl)) (fun q => hb ⟨by omega, q⟩)
                rcases en_c (l := b :: l) (st := if a = 48 then 8 else 7) (by split <;> omega) hst 2 (k + 1 + 1) (3, 109, a - 48, 0, []) with ⟨q1, q2⟩ | ⟨l', q0, q1, q2⟩
                · left; exact ⟨2, q1, by rw [q2], by simp⟩
                · right
                  injection q0 with q3 q4
                  subst q3 q4
                  refine ⟨_, q1, ⟨rfl, by dsimp only; omega, rfl, fun i hi => ?_, Or.inr (Or.inr ⟨rfl, Or.inl ⟨rfl, ?_, by dsimp only; omega⟩⟩)⟩, by simp, by rw [q2]; rfl⟩
                  · dsimp only at hi
                    rcases (show i = 0 ∨ i = 1 by omega) with rfl | rfl <;> simp <;> omega
                  · simp; omega
          · have e1 : rs1 c (a :: l) = rs2 c a l := by rw [rs1_k, if_pos ha, if_neg hm]
            rw [e1]
            cases l with
            | nil =>
              left
              refine ⟨2, rfl, ?_, by simp⟩
              rcases hc with rfl | rfl | rfl
              · rw [fbs_cons (by decide), show nx 0 108 = 1 from rfl, fbs_cons (by rw [nx_1d ha]; decide), nx_1d ha]; rfl
              · rw [fbs_cons (by decide), show nx 0 99 = 4 from rfl, fbs_cons (by rw [nx_4d ha]; decide), nx_4d ha]; rfl
              · exact absurd rfl hm
            | cons b l =>
              by_cases hb : isd b = true
              · have hb2 := isd_t hb
                by_cases h8 : c = 108
                · subst h8
                  have e2 : rs2 108 a (b :: l) = en (l.dropWhile isd) (3 + (l.takeWhile isd).length) (4 + (l.takeWhile isd).length, 108, a - 48, b - 48, (l.takeWhile isd).map (· - 48)) := by rw [rs2_k, if_pos hb, if_pos rfl]
                  have f2 : fbs (108 :: a :: b :: l) 0 k = fbs (l.dropWhile isd) 3 (k + 3 + (l.takeWhile isd).length) := by
                    rw [fbs_cons (by decide), show nx 0 108 = 1 from rfl, fbs_cons (by rw [nx_1d ha]; decide), nx_1d ha, fbs_cons (by rw [nx_2d hb]; decide), nx_2d hb]
                    exact fbs_tw k l 3
                  rw [e2, f2]
                  have hlen : (l.takeWhile isd).length ≤ l.length := by
                    have := List.takeWhile_prefix (p := isd) (l := l)
                    exact this.length_le
                  rcases en_c (l := l.dropWhile isd) (st := 3) (by omega) (fun e l' he => nx_e (Or.inl rfl) (dw_hd he)) (3 + (l.takeWhile isd).length) (k + 3 + (l.takeWhile isd).length) (4 + (l.takeWhile isd).length, 108, a - 48, b - 48, (l.takeWhile isd).map (· - 48)) with ⟨q1, q2⟩ | ⟨l', q0, q1, q2⟩
                  · left; exact ⟨3 + (l.takeWhile isd).length, q1, by rw [q2]; congr 1; omega, by simp; omega⟩
                  · right
                    obtain ⟨w1, w2⟩ := dw_at l _ _ q0
                    have w3 := (List.getElem?_eq_some_iff.mp w1).1
                    refine ⟨_, q1, ⟨rfl, by dsimp only; omega, ?_, fun i hi => ?_, Or.inl ⟨rfl, by simp, ?_, ?_, by dsimp only; omega, by dsimp only; omega, fun i z hz => ?_⟩⟩, by simp; omega, ?_⟩
                    · dsimp only
                      rw [show 4 + (l.takeWhile isd).length - 1 = (l.takeWhile isd).length + 1 + 1 + 1 by omega, List.getElem?_cons_succ, List.getElem?_cons_succ, List.getElem?_cons_succ]
                      exact w1
                    · dsimp only at hi
                      rcases (show i = 0 ∨ i = 1 ∨ i = 2 ∨ ∃ j, i = j + 1 + 1 + 1 ∧ j < (l.takeWhile isd).length from by
                        rcases Nat.lt_or_ge i 3 with h | h
                        · omega
                        · exact Or.inr (Or.inr (Or.inr ⟨i - 3, by omega, by omega⟩))) with rfl | rfl | rfl | ⟨j, rfl, hj⟩
                      · simp
                      · simp; omega
                      · simp; omega
                      · rw [List.getElem?_cons_succ, List.getElem?_cons_succ, List.getElem?_cons_succ]; exact tw_n59 l j hj
                    · simp; omega
                    · simp; omega
                    · rw [show 3 + i = i + 1 + 1 + 1 by omega, List.getElem?_cons_succ, List.getElem?_cons_succ, List.getElem?_cons_succ]
                      exact tw_at l i z hz
                    · rw [q2]
                      dsimp only
                      rw [show 4 + (l.takeWhile isd).length = (l.takeWhile isd).length + 1 + 1 + 1 + 1 by omega, List.drop_succ_cons, List.drop_succ_cons, List.drop_succ_cons, w2, show k + ((l.takeWhile isd).length + 1 + 1 + 1 + 1) = k + 3 + (l.takeWhile isd).length + 1 by omega]
                · have h9 : c = 99 := by rcases hc with h | h | h <;> omega
                  subst h9
                  have e2 : rs2 99 a (b :: l) = en l 3 (4, 99, a - 48, b - 48, []) := by rw [rs2_k, if_pos hb, if_neg (by omega)]
                  have f2 : fbs (99 :: a :: b :: l) 0 k = fbs l 8 (k + 1 + 1 + 1) := by
                    rw [fbs_cons (by decide), show nx 0 99 = 4 from rfl, fbs_cons (by rw [nx_4d ha]; decide), nx_4d ha, fbs_cons (by rw [nx_5d hb]; decide), nx_5d hb]
                  rw [e2, f2]
                  rcases en_c (l := l) (st := 8) (by omega) (fun e l' _ => nx_8) 3 (k + 1 + 1 + 1) (4, 99, a - 48, b - 48, []) with ⟨q1, q2⟩ | ⟨l', rfl, q1, q2⟩
                  · left; exact ⟨3, q1, by rw [q2], by simp⟩
                  · right
                    refine ⟨_, q1, ⟨rfl, by dsimp only; omega, rfl, fun i hi => ?_, Or.inr (Or.inl ⟨rfl, rfl, ?_, ?_, by dsimp only; omega, by dsimp only; omega⟩)⟩, by simp, by rw [q2]; rfl⟩
                    · dsimp only at hi
                      rcases (show i = 0 ∨ i = 1 ∨ i = 2 by omega) with rfl | rfl | rfl <;> simp <;> omega
                    · simp; omega
                    · simp; omega
              · left
                refine ⟨2, by rw [rs2_k, if_neg hb], ?_, by simp⟩
                rcases hc with rfl | rfl | rfl
                · rw [fbs_cons (by decide), show nx 0 108 = 1 from rfl, fbs_cons (by rw [nx_1d ha]; decide), nx_1d ha, fbs_bad (nx_n (by omega) hb (by omega) (by omega) (by omega))]
                · rw [fbs_cons (by decide), show nx 0 99 = 4 from rfl, fbs_cons (by rw [nx_4d ha]; decide), nx_4d ha, fbs_bad (nx_n (by omega) hb (by omega) (by omega) (by omega))]
                · exact absurd rfl hm
        · left
          refine ⟨1, by rw [rs1_k, if_neg ha], ?_, by simp⟩
          rcases hc with rfl | rfl | rfl
          · rw [fbs_cons (by decide), show nx 0 108 = 1 from rfl, fbs_bad (nx_n (by omega) ha (by omega) (by omega) (by omega))]
          · rw [fbs_cons (by decide), show nx 0 99 = 4 from rfl, fbs_bad (nx_n (by omega) ha (by omega) (by omega) (by omega))]
          · rw [fbs_cons (by decide), show nx 0 109 = 6 from rfl, fbs_bad (nx_n (by omega) ha (by omega) (by omega) (by omega))]
    · left
      refine ⟨0, by rw [rs_k, if_neg hc], ?_, by simp⟩
      have : nx 0 c = 9 := by
        unfold nx
        rw [if_pos rfl, if_neg (fun q => hc (Or.inr (Or.inl q))), if_neg (fun q => hc (Or.inl q)), if_neg (fun q => hc (Or.inr (Or.inr q)))]
      rw [fbs_bad this]; rfl
