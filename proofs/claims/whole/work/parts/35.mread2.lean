/-! ===== how the reference reads a statement: all of it ===== -/
def rcd (S : mM) (t : Nat) (r : Ss) (k : Nat) : Prop := S.1 10 t = nI k ∧ S.1 11 t = nI r.2.1 ∧ S.1 12 t = nI r.2.2.1 ∧ S.1 13 t = nI r.2.2.2.1 ∧ (r.2.1 = 108 → S.1 14 t = nI (k + 3) ∧ S.1 15 t = nI r.2.2.2.2.length)
def outB (t k : Nat) (S : mM) (j : Nat) (z : Option mM) : Prop := ∃ S', z = some S' ∧ S'.1 0 20 = nI 1 ∧ S'.1 0 19 = nI (k + j) ∧ fr t S S'
def outG (t k : Nat) (S : mM) (r : Ss) (z : Option mM) : Prop := ∃ S', z = some S' ∧ S'.1 0 20 = nI 0 ∧ S'.1 0 19 = nI (k + r.1) ∧ S'.1 0 21 = nI (t + 1) ∧ rcd S' t r k ∧ fr t S S'
def out (t k : Nat) (S : mM) (o : Nat ⊕ Ss) (z : Option mM) : Prop := match o with
  | .inl j => outB t k S j z
  | .inr r => outG t k S r z
theorem fin_c {S0 S : mM} {d t k n c f s : Nat} {ds B l : List Nat} (ht : t < 51) (f0 : fr t S0 S) (h : TM S d B) (hd : d < 8) (h100 : B.length ≤ 100) (h256 : ∀ c ∈ B, c < 256) (h20 : S.1 0 20 = nI 0) (h21 : S.1 0 21 = nI t) (h19 : S.1 0 19 = nI (k + n)) (hk : k + n ≤ B.length) (e : B.drop (k + n) = l) (h10 : S.1 10 t = nI k) (h11 : S.1 11 t = nI c) (h12 : S.1 12 t = nI f) (h13 : S.1 13 t = nI s) (h14 : c = 108 → S.1 14 t = nI (k + 3) ∧ n = 3 + ds.length) :
    out t k S0 (en l n (n + 1, c, f, s, ds)) (fX6_readStatement_234 S (nI t)) := by
  have bad : (∀ l', l ≠ 59 :: l') → outB t k S0 n (fX6_readStatement_234 S (nI t)) := by
    intro hl
    obtain ⟨S', k1, k2, k3, k4⟩ := t234_n ht h hd h100 h256 h20 h19 hk e hl
    exact ⟨S', k1, k2, k3, f0.tr k4⟩
  cases l with
  | nil => exact bad (fun l' q => by cases q)
  | cons b l =>
    rw [en_k]
    by_cases hb : b = 59
    · subst hb
      rw [if_pos rfl]
      refine ⟨_, t234_y ht h hd h100 h20 h21 h19 hk e, ?_, ?_, ?_, ⟨?_, ?_, ?_, ?_, fun hc => ⟨?_, ?_⟩⟩, ((f0.set (by omega)).set (by omega)).set (by omega)⟩
      · simp (disch := omega) only [mgy, mgn]; exact h20
      · simp (disch := omega) only [mgy, mgn]; rfl
      · exact mgy
      · simp (disch := omega) only [mgy, mgn]; exact h10
      · simp (disch := omega) only [mgy, mgn]; exact h11
      · simp (disch := omega) only [mgy, mgn]; exact h12
      · simp (disch := omega) only [mgy, mgn]; exact h13
      · simp (disch := omega) only [mgy, mgn]; exact (h14 hc).1
      · simp (disch := omega) only [mgy, mgn]
        rw [(h14 hc).1, (h14 hc).2, su_n (by omega), show k + (3 + ds.length) - (k + 3) = ds.length by omega]
    · rw [if_neg hb]
      exact bad (fun l' q => by injection q with q1 q2; exact hb q1)
/-- from the first digit on -/
theorem rd78 {S0 S : mM} {d t k c a : Nat} {B l : List Nat} (ht : t < 51) (f0 : fr t S0 S) (h : TM S d B) (hd : d < 8) (h100 : B.length ≤ 100) (h256 : ∀ c ∈ B, c < 256) (h20 : S.1 0 20 = nI 0) (h21 : S.1 0 21 = nI t) (hk : k + 2 ≤ B.length) (e : B.drop (k + 1) = a :: l) (h10 : S.1 10 t = nI k) (h11 : S.1 11 t = nI c) (hc : c = 108 ∨ c = 99 ∨ c = 109) (ha : isd a = true) :
    out t k S0 (if c = 109 then rsm a l else rs2 c a l) (fX6_readStatement_78 S (nI t) (nI c) (nI k) (nI 1)) := by
  have ha2 := isd_t ha
  have hF : 110 < lF := by simp [lF]
  obtain ⟨e1, e2, e3⟩ := dropC e
  have hl256 : ∀ c ∈ l, c < 256 := fun c hc => h256 c (by rw [← e2] at hc; exact List.mem_of_mem_drop hc)
  have hS12 : TM (mS S 0 19 (nI (k + 1))) d B := h.set (Or.inl (by omega))
  have r1 := rd_y (k := k + 1) hS12 hd h100 h256 (by rw [mgn (by omega)]; exact h20) mgy (by omega) e ha
  generalize hS19 : mS (mS (mS (mS S 0 19 (nI (k + 1))) 0 19 (nI (k + 1 + 1))) 12 t (nI (a - 48))) 13 t (nI 0) = S19
  have f19 : fr t S0 S19 := by rw [← hS19]; exact (((f0.set (by omega)).set (by omega)).set (by omega)).set (by omega)
  have t19 : TM S19 d B := by rw [← hS19]; exact ((hS12.set (Or.inl (by omega))).set (Or.inr (by omega))).set (Or.inr (by omega))
  have a19 : S19.1 0 19 = nI (k + 2) := by rw [← hS19]; simp (disch := omega) only [mgy, mgn]
  have a20 : S19.1 0 20 = nI 0 := by rw [← hS19]; simp (disch := omega) only [mgy, mgn]; exact h20
  have a21 : S19.1 0 21 = nI t := by rw [← hS19]; simp (disch := omega) only [mgy, mgn]; exact h21
  have a10 : S19.1 10 t = nI k := by rw [← hS19]; simp (disch := omega) only [mgy, mgn]; exact h10
  have a11 : S19.1 11 t = nI c := by rw [← hS19]; simp (disch := omega) only [mgy, mgn]; exact h11
  have a12 : S19.1 12 t = nI (a - 48) := by rw [← hS19]; simp (disch := omega) only [mgy, mgn]
  have a13 : S19.1 13 t = nI 0 := by rw [← hS19]; simp (disch := omega) only [mgy, mgn]
  have e2' : B.drop (k + 2) = l := e2
  have q78 : fX6_readStatement_78 S (nI t) (nI c) (nI k) (nI 1) = if nI c = nI 109 then (if nI (a - 48) ≤ 0 then fX6_readStatement_158 S19 (nI t) (nI c) else if b2 (hds l) = 0 then fX6_readStatement_158 S19 (nI t) (nI c) else bd (fX6_readDigit S19) fun v58 S58 => gi (nI t) 51 (sv (mS S58 12 t (nI 10 * nI (a - 48) + v58)) fun S61 => fX6_readStatement_158 S61 (nI t) (nI c))) else fX6_readStatement_158 S19 (nI t) (nI c) := by
    unfold fX6_readStatement_78
    rw [nI_add, sv_s, r1, bd_s, g51 ht, cl_n (by omega), sv_s, g51 ht, sv_s, hS19, a20, if_pos nI_0, g51 ht, a12, m_here t19 hd h100 a19 (by omega) e2', bd_s, m_hin hl256, bd_s, g51 ht, a12]
  rw [q78]
  -- statements m
  by_cases h109 : c = 109
  · subst h109
    rw [if_pos rfl, if_pos rfl]
    have end109 : ∀ (S : mM) (k' : Nat), S.1 0 20 = nI 0 → S.1 0 19 = nI k' → fX6_readStatement_158 S (nI t) (nI 109) = fX6_readStatement_234 (mS S 14 t (nI k')) (nI t) := by
      intro S k' b20 b19
      unfold fX6_readStatement_158 fX6_readStatement_181
      generalize lF = F at hF ⊢
      obtain ⟨F, rfl⟩ : ∃ z, F = z + 1 := ⟨F - 1, by omega⟩
      unfold fX6_readStatement_191
      rw [b20, if_pos nI_0, if_pos rfl, g51 ht, cl_n (by omega), b19, sv_s, mgn (by omega), b20, if_pos nI_0, ieq_f (by omega) (by omega) (by omega)]
    have short : out t k S0 (en l 2 (3, 109, a - 48, 0, [])) (fX6_readStatement_158 S19 (nI t) (nI 109)) := by
      rw [end109 S19 (k + 2) a20 a19]
      exact fin_c ht (f19.set (by omega)) (t19.set (Or.inr (by omega))) hd h100 h256 (by rw [mgn (by omega)]; exact a20) (by rw [mgn (by omega)]; exact a21) (by rw [mgn (by omega)]; exact a19) (by omega) e2' (by rw [mgn (by omega)]; exact a10) (by rw [mgn (by omega)]; exact a11) (by rw [mgn (by omega)]; exact a12) (by rw [mgn (by omega)]; exact a13) (fun q => by omega)
    cases l with
    | nil =>
      rw [show hds [] = false from rfl, b2_f, if_pos nI_0, ite_self]
      exact short
    | cons b l =>
      rw [rsm_k]
      by_cases h48 : a = 48
      · rw [if_neg (fun q => by omega), i0l_t (by omega)]; exact short
      · rw [i0l_f (by omega) (by omega), show hds (b :: l) = isd b from rfl]
        by_cases hb : isd b = true
        · have hb2 := isd_t hb
          obtain ⟨w1, w2, w3⟩ := dropC e2'
          rw [if_pos ⟨by omega, hb⟩, hb, b2_t, i0e_f (by omega) (by omega), rd_y (k := k + 2) t19 hd h100 h256 a20 a19 (by omega) e2' hb, bd_s, g51 ht, pk_mul, nI_add, sv_s]
          rw [end109 _ (k + 3) (by simp (disch := omega) only [mgy, mgn]; exact a20) (by simp (disch := omega) only [mgy, mgn])]
          refine fin_c (n := 3) ht (((f19.set (by omega)).set (by omega)).set (by omega)) (((t19.set (Or.inl (by omega))).set (Or.inr (by omega))).set (Or.inr (by omega))) hd h100 h256 ?_ ?_ ?_ (by omega) w2 ?_ ?_ ?_ ?_ (fun q => by omega)
          · simp (disch := omega) only [mgy, mgn]; exact a20
          · simp (disch := omega) only [mgy, mgn]; exact a21
          · simp (disch := omega) only [mgy, mgn]
          · simp (disch := omega) only [mgy, mgn]; exact a10
          · simp (disch := omega) only [mgy, mgn]; exact a11
          · simp (disch := omega) only [mgy, mgn]
          · simp (disch := omega) only [mgy, mgn]; exact a13
        · rw [if_neg (fun q => hb q.2), show isd b = false by simpa using hb, b2_f, if_pos nI_0]; exact short
  · -- statements l and c
    rw [if_neg h109, ieq_f h109 (by omega) (by omega)]
    unfold fX6_readStatement_158
    rw [a20, if_pos nI_0, ieq_f h109 (by omega) (by omega)]
    have nodig : hds l = false → outB t k S0 2 (bd (fX6_readDigit S19) fun v45 S45 => gi (nI t) 51 (sv (mS S45 13 (nI t).toNatClampNeg v45) fun S48 => fX6_readStatement_181 S48 (nI t) (nI c))) := by
      intro hl
      rw [rd_n t19 hd h100 h256 a20 a19 (by omega) e2' hl, bd_s, g51 ht, cl_n (by omega), sv_s]
      obtain ⟨S', k1, k2, k3, k4⟩ := b181 (S := mS (mS S19 0 20 (nI 1)) 13 t (nI 0)) ht (by rw [mgn (by omega), mgy]) (nI c)
      exact ⟨S', k1, k2, by rw [k3, mgn (by omega), mgn (by omega)]; exact a19, ((f19.set (by omega)).set (by omega)).tr k4⟩
    cases l with
    | nil => exact nodig rfl
    | cons b l =>
      rw [rs2_k]
      by_cases hb : isd b = true
      · have hb2 := isd_t hb
        obtain ⟨w1, w2, w3⟩ := dropC e2'
        rw [if_pos hb, rd_y (k := k + 2) t19 hd h100 h256 a20 a19 (by omega) e2' hb, bd_s, g51 ht, cl_n (by omega), sv_s]
        unfold fX6_readStatement_181
        rw [g51 ht, cl_n (by omega), sv_s, mgn (by omega), mgy]
        generalize hS24 : mS (mS (mS S19 0 19 (nI (k + 2 + 1))) 13 t (nI (b - 48))) 14 t (nI (k + 2 + 1)) = S24
        have f24 : fr t S0 S24 := by rw [← hS24]; exact ((f19.set (by omega)).set (by omega)).set (by omega)
        have t24 : TM S24 d B := by rw [← hS24]; exact ((t19.set (Or.inl (by omega))).set (Or.inr (by omega))).set (Or.inr (by omega))
        have c19 : S24.1 0 19 = nI (k + 3) := by rw [← hS24]; simp (disch := omega) only [mgy, mgn]
        have c20 : S24.1 0 20 = nI 0 := by rw [← hS24]; simp (disch := omega) only [mgy, mgn]; exact a20
        have c21 : S24.1 0 21 = nI t := by rw [← hS24]; simp (disch := omega) only [mgy, mgn]; exact a21
        have c10 : S24.1 10 t = nI k := by rw [← hS24]; simp (disch := omega) only [mgy, mgn]; exact a10
        have c11 : S24.1 11 t = nI c := by rw [← hS24]; simp (disch := omega) only [mgy, mgn]; exact a11
        have c12 : S24.1 12 t = nI (a - 48) := by rw [← hS24]; simp (disch := omega) only [mgy, mgn]; exact a12
        have c13 : S24.1 13 t = nI (b - 48) := by rw [← hS24]; simp (disch := omega) only [mgy, mgn]
        have c14 : S24.1 14 t = nI (k + 3) := by rw [← hS24]; simp (disch := omega) only [mgy, mgn]
        have w2' : B.drop (k + 3) = l := w2
        by_cases h108 : c = 108
        · subst h108
          have hll : l.length ≤ B.length := by rw [← w2']; simp
          have htl : k + (3 + (l.takeWhile isd).length) ≤ B.length := by
            have h1 : (l.takeWhile isd).length ≤ l.length := (List.takeWhile_prefix (p := isd) (l := l)).length_le
            have h2 : l.length = B.length - (k + 3) := by rw [← w2', List.length_drop]
            omega
          rw [if_pos rfl]
          generalize lF = F at hF ⊢
          rw [t191 hd h100 h256 l F (k + 3) S24 t24 c20 c19 (by omega) w2' (by omega)]
          have hdr : B.drop (k + (3 + (l.takeWhile isd).length)) = l.dropWhile isd := by
            rw [show k + (3 + (l.takeWhile isd).length) = (k + 3) + (l.takeWhile isd).length by omega, ← List.drop_drop, w2']
            clear h100 h256 t24 f24
            induction l with
            | nil => rfl
            | cons z l ih =>
              by_cases hz : isd z = true
              · rw [List.takeWhile_cons_of_pos hz, List.dropWhile_cons_of_pos hz, List.length_cons, List.drop_succ_cons]
                have : ∀ l : List Nat, l.drop (l.takeWhile isd).length = l.dropWhile isd := by
                  intro l
                  induction l with
                  | nil => rfl
                  | cons y l ih =>
                    by_cases hy : isd y = true
                    · rw [List.takeWhile_cons_of_pos hy, List.dropWhile_cons_of_pos hy, List.length_cons, List.drop_succ_cons, ih]
                    · rw [List.takeWhile_cons_of_neg hy, List.dropWhile_cons_of_neg hy]; rfl
                exact this l
              · rw [List.takeWhile_cons_of_neg hz, List.dropWhile_cons_of_neg hz]; rfl
          have q := fin_c (S0 := S0) (S := mS S24 0 19 (nI (k + 3 + (l.takeWhile isd).length))) (d := d) (t := t) (k := k) (n := 3 + (l.takeWhile isd).length) (c := 108) (f := a - 48) (s := b - 48) (ds := (l.takeWhile isd).map (· - 48)) ht (f24.set (by omega)) (t24.set (Or.inl (by omega))) hd h100 h256 (by rw [mgn (by omega)]; exact c20) (by rw [mgn (by omega)]; exact c21) (by rw [mgy, Nat.add_assoc]) htl hdr (by rw [mgn (by omega)]; exact c10) (by rw [mgn (by omega)]; exact c11) (by rw [mgn (by omega)]; exact c12) (by rw [mgn (by omega)]; exact c13) (fun _ => ⟨by rw [mgn (by omega)]; exact c14, by rw [List.length_map]⟩)
          rw [show 3 + (l.takeWhile isd).length + 1 = 4 + (l.takeWhile isd).length by omega] at q
          exact q
        · rw [if_neg h108]
          generalize lF = F at hF ⊢
          obtain ⟨F, rfl⟩ : ∃ z, F = z + 1 := ⟨F - 1, by omega⟩
          unfold fX6_readStatement_191
          rw [c20, if_pos nI_0, ieq_f h108 (by omega) (by omega)]
          exact fin_c (n := 3) ht f24 t24 hd h100 h256 c20 c21 c19 (by omega) w2' c10 c11 c12 c13 (fun q => absurd q h108)
      · rw [if_neg hb]; exact nodig (show isd b = false by simpa using hb)
theorem m_read {S : mM} {d t k : Nat} {B l : List Nat} (ht : t < 51) (h : TM S d B) (hd : d < 8) (h100 : B.length ≤ 100) (h256 : ∀ c ∈ B, c < 256) (h20 : S.1 0 20 = nI 0) (h21 : S.1 0 21 = nI t) (h19 : S.1 0 19 = nI k) (hk : k ≤ B.length) (e : B.drop k = l) : out t k S (rs l) (fX6_readStatement S) := by
  have hl256 : ∀ c ∈ l, c < 256 := fun c hc => h256 c (by rw [← e] at hc; exact List.mem_of_mem_drop hc)
  generalize hS7 : mS (mS S 10 t (nI k)) 11 t (hdI l) = S7
  have f7 : fr t S S7 := by rw [← hS7]; exact (fr.rf.set (by omega)).set (by omega)
  have t7 : TM S7 d B := by rw [← hS7]; exact (h.set (Or.inr (by omega))).set (Or.inr (by omega))
  have a19 : S7.1 0 19 = nI k := by rw [← hS7]; simp (disch := omega) only [mgy, mgn]; exact h19
  have a20 : S7.1 0 20 = nI 0 := by rw [← hS7]; simp (disch := omega) only [mgy, mgn]; exact h20
  have a21 : S7.1 0 21 = nI t := by rw [← hS7]; simp (disch := omega) only [mgy, mgn]; exact h21
  have a10 : S7.1 10 t = nI k := by rw [← hS7]; simp (disch := omega) only [mgy, mgn]
  have a11 : S7.1 11 t = hdI l := by rw [← hS7]; simp (disch := omega) only [mgy, mgn]
  have q0 : fX6_readStatement S = if hdI l = nI 108 then fX6_readStatement_57 S7 (nI t) (hdI l) else if hdI l = nI 99 then fX6_readStatement_57 S7 (nI t) (hdI l) else if hdI l = nI 109 then fX6_readStatement_57 S7 (nI t) (hdI l) else fX6_readStatement_53 S7 (nI t) (hdI l) := by
    unfold fX6_readStatement
    rw [m_here h hd h100 h19 hk e, bd_s, h21, g51 ht, h19, cl_n (by omega), sv_s, g51 ht, sv_s, hS7, a20, if_pos nI_0]
  have badL : outB t k S 0 (fX6_readStatement_53 S7 (nI t) (hdI l)) := by
    unfold fX6_readStatement_53 fX6_readStatement_58
    rw [gb_1, sv_s, mgy, i0e_f (by omega) (by omega), mgn (by omega), a19]
    obtain ⟨S', k1, k2, k3, k4⟩ := b78 (S := mS S7 0 20 (nI 1)) (x2 := hdI l) (y1 := nI k) (y2 := nI 0) ht (rd_b (by rw [mgn (by omega), mgy])) (by rw [mgn (by omega), mgy])
    exact ⟨S', k1, k2, by rw [k3, mgy, nI_add], (((f7.set (by omega)).set (by omega)).tr k4)⟩
  rw [q0]
  cases l with
  | nil =>
    exact badL
  | cons c l =>
    have hc256 := hl256 c List.mem_cons_self
    obtain ⟨e1, e2, e3⟩ := dropC e
    have hh : hdI (c :: l) = nI c := rfl
    rw [hh] at badL a11 ⊢
    rw [rs_k]
    have go : (c = 108 ∨ c = 99 ∨ c = 109) → out t k S (rs1 c l) (fX6_readStatement_57 S7 (nI t) (nI c)) := by
      intro hc
      unfold fX6_readStatement_57 fX6_readStatement_58
      rw [gb_0, sv_s, mS_id a20, a20, if_pos nI_0, a19]
      have nodig : hds l = false → outB t k S 1 (fX6_readStatement_78 S7 (nI t) (nI c) (nI k) (nI 1)) := by
        intro hl
        have r := rd_n (S := mS S7 0 19 (nI k + nI 1)) (k := k + 1) (t7.set (Or.inl (by omega))) hd h100 h256 (by rw [mgn (by omega)]; exact a20) (by rw [mgy, nI_add]) (by omega) e2 hl
        obtain ⟨S', k1, k2, k3, k4⟩ := b78 (x2 := nI c) ht r (by rw [mgy])
        exact ⟨S', k1, k2, by rw [k3, mgn (by omega), mgy, nI_add], (((f7.set (by omega)).set (by omega)).tr k4)⟩
      cases l with
      | nil => exact nodig rfl
      | cons a l =>
        rw [rs1_k]
        by_cases ha : isd a = true
        · rw [if_pos ha]
          obtain ⟨w1, w2, w3⟩ := dropC e2
          exact rd78 ht f7 t7 hd h100 h256 a20 a21 (by omega) e2 a10 a11 hc ha
        · rw [if_neg ha]; exact nodig (show isd a = false by simpa using ha)
    by_cases h108 : c = 108
    · rw [ieq_t h108, if_pos (Or.inl h108)]; exact go (Or.inl h108)
    · rw [ieq_f h108 (by omega) (by omega)]
      by_cases h99 : c = 99
      · rw [ieq_t h99, if_pos (Or.inr (Or.inl h99))]; exact go (Or.inr (Or.inl h99))
      · rw [ieq_f h99 (by omega) (by omega)]
        by_cases h109 : c = 109
        · rw [ieq_t h109, if_pos (Or.inr (Or.inr h109))]; exact go (Or.inr (Or.inr h109))
        · rw [ieq_f h109 (by omega) (by omega), if_neg (by omega)]; exact badL
