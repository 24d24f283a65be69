/-! ===== how the reference reads a statement ===== -/
theorem mgy {S : mM} {p k : Nat} {v : Int32} : (mS S p k v).1 p k = v := by rw [mS_s, upd_s]
theorem mgn {S : mM} {p k q j : Nat} {v : Int32} (h : q ≠ p ∨ j ≠ k) : (mS S p k v).1 q j = S.1 q j := by
  by_cases c : q = p
  · subst c
    rw [mS_s, upd_n (h.resolve_left (fun z => z rfl))]
  · rw [mS_n c]
theorem mS_id {S : mM} {p k : Nat} {v : Int32} (h : S.1 p k = v) : mS S p k v = S := by
  have e : (mS S p k v).1 = S.1 := by
    funext q j
    by_cases c : q = p ∧ j = k
    · obtain ⟨rfl, rfl⟩ := c
      rw [mgy, h]
    · rw [mgn (by omega)]
  exact Prod.ext e rfl
def fr (t : Nat) (S S' : mM) : Prop := S'.2 = S.2 ∧ ∀ r j, ¬ (r = 0 ∧ 19 ≤ j ∧ j ≤ 21) → ¬ (10 ≤ r ∧ r ≤ 15 ∧ j = t) → S'.1 r j = S.1 r j
theorem fr.rf {t : Nat} {S : mM} : fr t S S := ⟨rfl, fun _ _ _ _ => rfl⟩
theorem fr.tr {t : Nat} {S S1 S2 : mM} (h1 : fr t S S1) (h2 : fr t S1 S2) : fr t S S2 := ⟨h2.1.trans h1.1, fun r j a b => (h2.2 r j a b).trans (h1.2 r j a b)⟩
theorem fr.set {t : Nat} {S S1 : mM} {p k : Nat} {v : Int32} (h : fr t S S1) (hp : (p = 0 ∧ 19 ≤ k ∧ k ≤ 21) ∨ (10 ≤ p ∧ p ≤ 15 ∧ k = t)) : fr t S (mS S1 p k v) := ⟨h.1, fun r j a b => by rw [mgn (by omega)]; exact h.2 r j a b⟩
def TM (S : mM) (d : Nat) (B : List Nat) : Prop := S.1 0 17 = nI (100 * d) ∧ S.1 0 18 = nI B.length ∧ ∀ k c, B[k]? = some c → ∃ v : Int32, S.2.1 26 (100 * d + k) = v.toInt64 ∧ rel v c
theorem TM.fr {t : Nat} {S S' : mM} {d : Nat} {B : List Nat} (h : TM S d B) (f : fr t S S') : TM S' d B := by
  refine ⟨?_, ?_, ?_⟩
  · rw [f.2 0 17 (by omega) (by omega)]; exact h.1
  · rw [f.2 0 18 (by omega) (by omega)]; exact h.2.1
  · rw [f.1]; exact h.2.2
theorem TM.set {S : mM} {d : Nat} {B : List Nat} {p k : Nat} {v : Int32} (h : TM S d B) (hp : (p = 0 ∧ 19 ≤ k ∧ k ≤ 21) ∨ (10 ≤ p ∧ p ≤ 15)) : TM (mS S p k v) d B := by
  refine ⟨?_, ?_, h.2.2⟩
  · rw [mgn (by omega)]; exact h.1
  · rw [mgn (by omega)]; exact h.2.1
def hdI (l : List Nat) : Int32 := match l with
  | [] => -1
  | c :: _ => nI c
def hds (l : List Nat) : Bool := match l with
  | [] => false
  | c :: _ => isd c
theorem m_here {S : mM} {d k : Nat} {B l : List Nat} (h : TM S d B) (hd : d < 8) (h100 : B.length ≤ 100) (h19 : S.1 0 19 = nI k) (hk : k ≤ B.length) (e : B.drop k = l) : fX6_here S = some (hdI l, S) := by
  unfold fX6_here
  rw [h.1, h.2.1, h19, nI_add]
  cases l with
  | nil =>
    have := dropN e
    rw [ilt_f (by omega) (by omega)]; rfl
  | cons c l =>
    obtain ⟨e1, e2, e3⟩ := dropC e
    obtain ⟨v, hv, hr⟩ := h.2.2 k c e1
    rw [ilt_t (by omega) (by omega), g800 (by omega), cl_n (by omega), hv, Int32.toInt32_toInt64, hr.2.1]; rfl
theorem m_hin {S : mM} {l : List Nat} (h : ∀ c ∈ l, c < 256) : fX6_in S (hdI l).toInt64 48 57 = some (b2 (hds l), S) := by
  rw [q_48, q_57]
  cases l with
  | nil => exact in_no (Or.inl (by decide))
  | cons c l =>
    have hc := h c List.mem_cons_self
    show fX6_in S (nI c).toInt64 _ _ = some (b2 (isd c), S)
    by_cases hd : isd c = true
    · have := isd_t hd
      rw [hd]
      exact in_yes (nI_nlt (by omega) (by omega)) (nI_nlt (by omega) (by omega))
    · have h2 := isd_f hd
      rw [show isd c = false by simpa using hd]
      by_cases h48 : c < 48
      · exact in_no (Or.inl (nI_lt (by omega) (by omega)))
      · exact in_no (Or.inr (nI_lt (by omega) (by omega)))
theorem rd_b {S : mM} (h : S.1 0 20 = nI 1) : fX6_readDigit S = some (nI 0, S) := by
  unfold fX6_readDigit fX6_readDigit_25 fX6_readDigit_30
  rw [h, i0e_f (by omega) (by omega), gb_1, sv_s, mS_id h, h, i0e_f (by omega) (by omega)]
theorem rd_n {S : mM} {d k : Nat} {B l : List Nat} (h : TM S d B) (hd : d < 8) (h100 : B.length ≤ 100) (h256 : ∀ c ∈ B, c < 256) (h20 : S.1 0 20 = nI 0) (h19 : S.1 0 19 = nI k) (hk : k ≤ B.length) (e : B.drop k = l) (hl : hds l = false) : fX6_readDigit S = some (nI 0, mS S 0 20 (nI 1)) := by
  unfold fX6_readDigit fX6_readDigit_25 fX6_readDigit_30
  rw [h20, if_pos nI_0, m_here h hd h100 h19 hk e, bd_s, m_hin (fun c hc => h256 c (by rw [← e] at hc; exact List.mem_of_mem_drop hc)), bd_s, hl, b2_f, if_pos nI_0, gb_1, sv_s, mgy, i0e_f (by omega) (by omega)]
theorem rd_y {S : mM} {d k a : Nat} {B l : List Nat} (h : TM S d B) (hd : d < 8) (h100 : B.length ≤ 100) (h256 : ∀ c ∈ B, c < 256) (h20 : S.1 0 20 = nI 0) (h19 : S.1 0 19 = nI k) (hk : k ≤ B.length) (e : B.drop k = a :: l) (ha : isd a = true) : fX6_readDigit S = some (nI (a - 48), mS S 0 19 (nI (k + 1))) := by
  have ha2 := isd_t ha
  obtain ⟨e1, e2, e3⟩ := dropC e
  obtain ⟨v, hv, hr⟩ := h.2.2 k a e1
  unfold fX6_readDigit fX6_readDigit_25 fX6_readDigit_30
  rw [h20, if_pos nI_0, m_here h hd h100 h19 hk e, bd_s, m_hin (fun c hc => h256 c (by rw [← e] at hc; exact List.mem_of_mem_drop hc)), bd_s, show hds (a :: l) = true from ha, b2_t, i0e_f (by omega) (by omega), gb_0, sv_s, mS_id h20, h20, if_pos nI_0, h19, nI_add, sv_s, mgy, mgn (by omega), h.1, nI_add, su_n (by omega), show 100 * d + (k + 1) - 1 = 100 * d + k by omega, g800 (by omega), cl_n (by omega), show (mS S 0 19 (nI (k + 1))).2.1 = S.2.1 from rfl, hv, Int32.toInt32_toInt64, rel_dig hr ha2.1 ha2.2, su_n (by omega)]
theorem g51 {α : Type} {j : Nat} {k : Option α} (h : j < 51) : gi (nI j) 51 k = k := gi_n h (by omega)
theorem t234_b {S : mM} {t : Nat} (ht : t < 51) (h20 : S.1 0 20 = nI 1) : ∃ S', fX6_readStatement_234 S (nI t) = some S' ∧ S'.1 0 20 = nI 1 ∧ S'.1 0 19 = S.1 0 19 ∧ fr t S S' := by
  unfold fX6_readStatement_234 fX6_readStatement_268 fX6_readStatement_273 fX6_readStatement_293
  rw [g51 ht, g51 ht, cl_n (by omega), sv_s, mgn (by omega), h20, i0e_f (by omega) (by omega), gb_1, sv_s, mgy, i0e_f (by omega) (by omega), sv_s, sv_s]
  refine ⟨_, rfl, ?_, ?_, ?_⟩
  · simp (disch := omega) only [mgy, mgn]
  · simp (disch := omega) only [mgy, mgn]
    exact Int32.add_zero _
  · exact ((((fr.rf.set (by omega)).set (by omega)).set (by omega)).set (by omega))
theorem t234_n {S : mM} {d t k : Nat} {B l : List Nat} (ht : t < 51) (h : TM S d B) (hd : d < 8) (h100 : B.length ≤ 100) (h256 : ∀ c ∈ B, c < 256) (h20 : S.1 0 20 = nI 0) (h19 : S.1 0 19 = nI k) (hk : k ≤ B.length) (e : B.drop k = l) (hl : ∀ l', l ≠ 59 :: l') : ∃ S', fX6_readStatement_234 S (nI t) = some S' ∧ S'.1 0 20 = nI 1 ∧ S'.1 0 19 = nI k ∧ fr t S S' := by
  have hne : ¬ hdI l = nI 59 := by
    cases l with
    | nil => decide
    | cons c l =>
      intro q
      have hc : c < 256 := h256 c (List.mem_of_mem_drop (by rw [e]; exact List.mem_cons_self))
      have := (nI_eq (by omega) (by omega)).mp q
      exact hl l (by rw [this])
  unfold fX6_readStatement_234 fX6_readStatement_268 fX6_readStatement_273 fX6_readStatement_293
  rw [g51 ht, g51 ht, cl_n (by omega), sv_s, mgn (by omega), h20, if_pos nI_0, m_here (h.set (Or.inr (by omega))) hd h100 (by rw [mgn (by omega)]; exact h19) hk e, bd_s, if_neg hne, gb_1, sv_s, mgy, i0e_f (by omega) (by omega), sv_s, sv_s]
  refine ⟨_, rfl, ?_, ?_, ?_⟩
  · simp (disch := omega) only [mgy, mgn]
  · simp (disch := omega) only [mgy, mgn]
    rw [h19]; exact Int32.add_zero _
  · exact ((((fr.rf.set (by omega)).set (by omega)).set (by omega)).set (by omega))
theorem t234_y {S : mM} {d t k : Nat} {B l : List Nat} (ht : t < 51) (h : TM S d B) (hd : d < 8) (h100 : B.length ≤ 100) (h20 : S.1 0 20 = nI 0) (h21 : S.1 0 21 = nI t) (h19 : S.1 0 19 = nI k) (hk : k ≤ B.length) (e : B.drop k = 59 :: l) : fX6_readStatement_234 S (nI t) = some (mS (mS (mS S 15 t (nI k - S.1 14 t)) 0 19 (nI (k + 1))) 0 21 (nI (t + 1))) := by
  unfold fX6_readStatement_234 fX6_readStatement_273 fX6_readStatement_293
  have e20 : (mS S 15 t (nI k - S.1 14 t)).1 0 20 = nI 0 := by rw [mgn (by omega)]; exact h20
  rw [g51 ht, g51 ht, cl_n (by omega), sv_s, h19, e20, if_pos nI_0, m_here (h.set (Or.inr (by omega))) hd h100 (by rw [mgn (by omega)]; exact h19) hk e, bd_s, if_pos (show hdI (59 :: l) = nI 59 from rfl), gb_0, sv_s, mS_id e20, e20, if_pos nI_0, mgn (by omega), h19, nI_add, sv_s, sv_s, mgn (by omega), mgn (by omega), h21, nI_add]
theorem t191 {d t : Nat} {B : List Nat} (hd : d < 8) (h100 : B.length ≤ 100) (h256 : ∀ c ∈ B, c < 256) : ∀ (l : List Nat) (n k : Nat) (S : mM), TM S d B → S.1 0 20 = nI 0 → S.1 0 19 = nI k → k ≤ B.length → B.drop k = l → l.length < n → fX6_readStatement_191 n S (nI t) (nI 108) = fX6_readStatement_234 (mS S 0 19 (nI (k + (l.takeWhile isd).length))) (nI t) := by
  intro l
  induction l with
  | nil =>
    intro n k S h h20 h19 hk e hn
    obtain ⟨n, rfl⟩ : ∃ z, n = z + 1 := ⟨n - 1, by omega⟩
    unfold fX6_readStatement_191
    rw [h20, if_pos nI_0, if_pos rfl, m_here h hd h100 h19 hk e, bd_s, m_hin (fun c hc => by cases hc), bd_s, show hds [] = false from rfl, b2_f, if_pos nI_0, mS_id (by rw [h19]; rfl)]
  | cons c l ih =>
    intro n k S h h20 h19 hk e hn
    obtain ⟨e1, e2, e3⟩ := dropC e
    simp only [List.length_cons] at hn
    obtain ⟨n, rfl⟩ : ∃ z, n = z + 1 := ⟨n - 1, by omega⟩
    unfold fX6_readStatement_191
    rw [h20, if_pos nI_0, if_pos rfl, m_here h hd h100 h19 hk e, bd_s, m_hin (fun c hc => h256 c (by rw [← e] at hc; exact List.mem_of_mem_drop hc)), bd_s, show hds (c :: l) = isd c from rfl]
    by_cases hc : isd c = true
    · rw [hc, b2_t, i0e_f (by omega) (by omega), h19, nI_add, sv_s, ih n (k + 1) _ (h.set (Or.inl (by omega))) (by rw [mgn (by omega)]; exact h20) mgy (by omega) e2 (by omega), List.takeWhile_cons_of_pos hc, List.length_cons]
      have e4 : mS (mS S 0 19 (nI (k + 1))) 0 19 (nI (k + 1 + (List.takeWhile isd l).length)) = mS S 0 19 (nI (k + ((List.takeWhile isd l).length + 1))) := by
        rw [show k + 1 + (List.takeWhile isd l).length = k + ((List.takeWhile isd l).length + 1) by omega]
        refine Prod.ext ?_ rfl
        funext q j
        by_cases c : q = 0 ∧ j = 19
        · obtain ⟨rfl, rfl⟩ := c
          rw [mgy, mgy]
        · rw [mgn (by omega), mgn (by omega), mgn (by omega)]
      rw [e4]
    · rw [show isd c = false by simpa using hc, b2_f, if_pos nI_0, List.takeWhile_cons_of_neg hc, mS_id (by rw [h19]; rfl)]
theorem b181 {S : mM} {t : Nat} (ht : t < 51) (h20 : S.1 0 20 = nI 1) (x2 : Int32) : ∃ S', fX6_readStatement_181 S (nI t) x2 = some S' ∧ S'.1 0 20 = nI 1 ∧ S'.1 0 19 = S.1 0 19 ∧ fr t S S' := by
  have hF : 110 < lF := by simp [lF]
  obtain ⟨S', k1, k2, k3, k4⟩ := t234_b (S := mS S 14 t (S.1 0 19)) ht (by rw [mgn (by omega)]; exact h20)
  refine ⟨S', ?_, k2, by rw [k3, mgn (by omega)], (fr.rf.set (by omega)).tr k4⟩
  unfold fX6_readStatement_181
  generalize lF = F at hF ⊢
  obtain ⟨F, rfl⟩ : ∃ z, F = z + 1 := ⟨F - 1, by omega⟩
  unfold fX6_readStatement_191
  rw [g51 ht, cl_n (by omega), sv_s, mgn (by omega), h20, i0e_f (by omega) (by omega)]
  exact k1
theorem b158 {S : mM} {t : Nat} (ht : t < 51) (h20 : S.1 0 20 = nI 1) (x2 : Int32) : ∃ S', fX6_readStatement_158 S (nI t) x2 = some S' ∧ S'.1 0 20 = nI 1 ∧ S'.1 0 19 = S.1 0 19 ∧ fr t S S' := by
  unfold fX6_readStatement_158
  rw [h20, i0e_f (by omega) (by omega)]
  exact b181 ht h20 x2
/-- a first digit that is none -/
theorem b78 {S S13 : mM} {t : Nat} (ht : t < 51) {x2 y1 y2 v : Int32} (h : fX6_readDigit (mS S 0 19 (y1 + y2)) = some (v, S13)) (h20 : S13.1 0 20 = nI 1) : ∃ S', fX6_readStatement_78 S (nI t) x2 y1 y2 = some S' ∧ S'.1 0 20 = nI 1 ∧ S'.1 0 19 = S13.1 0 19 ∧ fr t S13 S' := by
  obtain ⟨S', k1, k2, k3, k4⟩ := b158 (S := mS (mS S13 12 t v) 13 t (nI 0)) ht (by rw [mgn (by omega), mgn (by omega)]; exact h20) x2
  refine ⟨S', ?_, k2, by rw [k3, mgn (by omega), mgn (by omega)], ((fr.rf.set (by omega)).set (by omega)).tr k4⟩
  unfold fX6_readStatement_78
  rw [sv_s, h, bd_s, g51 ht, cl_n (by omega), sv_s, g51 ht, sv_s, mgn (by omega), mgn (by omega), h20, i0e_f (by omega) (by omega)]
  exact k1
