/-! ===== borders as texts: signs ===== -/
def cod (v : Int32) : Nat := v.toBitVec.toNat % 256
def rel (v : Int32) (c : Nat) : Prop := c < 256 ∧ v &&& nI 255 = nI c ∧ ((c < 128 ∧ v = nI c) ∨ (128 ≤ c ∧ v < 0))
theorem rel_cod {v : Int32} (h1 : -128 ≤ v.toInt) (h2 : v.toInt ≤ 127) : rel v (cod v) := by
  have hb : v.toInt = if 2 * v.toBitVec.toNat < 2 ^ 32 then (v.toBitVec.toNat : Int) else (v.toBitVec.toNat : Int) - 2 ^ 32 := BitVec.toInt_eq_toNat_cond v.toBitVec
  have hlt : v.toBitVec.toNat < 2 ^ 32 := v.toBitVec.isLt
  unfold rel cod
  refine ⟨Nat.mod_lt _ (by omega), pk_and v 8 (by decide), ?_⟩
  by_cases c : 2 * v.toBitVec.toNat < 2 ^ 32
  · rw [if_pos c] at hb
    left
    have e : v.toBitVec.toNat % 256 = v.toBitVec.toNat := by omega
    refine ⟨by omega, ?_⟩
    rw [e]
    apply Int32.toInt_inj.mp
    rw [nI_toInt (by omega), hb]
  · rw [if_neg c] at hb
    right
    refine ⟨by omega, ?_⟩
    rw [Int32.lt_iff_toInt_lt]
    have : (0 : Int32).toInt = 0 := by decide
    omega
theorem rel_eq {v : Int32} {c t : Nat} (h : rel v c) (ht : t < 128) : v = nI t ↔ c = t := by
  obtain ⟨h0, -, ⟨h1, rfl⟩ | ⟨h1, h2⟩⟩ := h
  · exact nI_eq (by omega) (by omega)
  · constructor
    · intro e; subst e; exact absurd h2 (nI_pos (by omega))
    · intro e; omega
theorem rel_lt {v : Int32} {c : Nat} (h : rel v c) : (v < nI 48 ∨ nI 57 < v) ↔ ¬ (48 ≤ c ∧ c ≤ 57) := by
  obtain ⟨h0, -, ⟨h1, rfl⟩ | ⟨h1, h2⟩⟩ := h
  · rw [nI_ltI (by omega) (by omega), nI_ltI (by omega) (by omega)]; omega
  · constructor
    · intro _; omega
    · intro _
      left
      rw [Int32.lt_iff_toInt_lt] at h2 ⊢
      rw [nI_toInt (by omega)]
      have : (0 : Int32).toInt = 0 := by decide
      omega
theorem rel_dig {v : Int32} {c : Nat} (h : rel v c) (h1 : 48 ≤ c) (h2 : c ≤ 57) : v = nI c := (rel_eq h (by omega)).mpr rfl
def isd (c : Nat) : Bool := decide (48 ≤ c) && decide (c ≤ 57)
theorem isd_t {c : Nat} (h : isd c = true) : 48 ≤ c ∧ c ≤ 57 := by unfold isd at h; simpa using h
theorem isd_f {c : Nat} (h : ¬ isd c = true) : ¬ (48 ≤ c ∧ c ≤ 57) := by unfold isd at h; simpa using h
/-- how the class reads on -/
def nx (st b : Nat) : Nat := if st = 0 then (if b = 99 then 4 else if b = 108 then 1 else if b = 109 then 6 else 9) else if b = 59 then (if st = 3 then 0 else if st = 7 then 0 else if st = 8 then 0 else 9) else if isd b = true then (if st = 1 then 2 else if st = 2 then 3 else if st = 3 then 3 else if st = 4 then 5 else if st = 5 then 8 else if st = 6 then (if b = 48 then 8 else 7) else if st = 7 then 8 else 9) else 9
theorem nx_le {st b : Nat} : nx st b ≤ 9 := by
  unfold nx
  repeat' split
  all_goals omega
theorem cut_if {α : Type} {P Q : Prop} [Decidable P] [Decidable Q] {a b : α} : (if P then a else if Q then a else b) = if P ∨ Q then a else b := by
  by_cases h : P
  · rw [if_pos h, if_pos (Or.inl h)]
  · by_cases h2 : Q
    · rw [if_neg h, if_pos h2, if_pos (Or.inr h2)]
    · rw [if_neg h, if_neg h2, if_neg (fun e => e.elim h h2)]
theorem p_next {S : cM} {v : Int32} {b st : Nat} (h : rel v b) (hst : st ≤ 8) : fX0_next S (nI st) v = some (nI (nx st b), S) := by
  unfold fX0_next fX0_next_32 fX0_next_37
  rw [cut_if (P := v < nI 48) (Q := nI 57 < v)]
  simp only [rel_eq h (show 59 < 128 by omega), rel_lt h]
  by_cases h0 : st = 0
  · subst h0
    rw [i0e_t rfl]
    unfold fX0_behindLetter nx
    simp only [rel_eq h (show 99 < 128 by omega), rel_eq h (show 108 < 128 by omega), rel_eq h (show 109 < 128 by omega), if_true]
    repeat' split
    all_goals rfl
  · rw [i0e_f (by omega) (by omega)]
    have e0 : nx st b = if b = 59 then (if st = 3 then 0 else if st = 7 then 0 else if st = 8 then 0 else 9) else if isd b = true then (if st = 1 then 2 else if st = 2 then 3 else if st = 3 then 3 else if st = 4 then 5 else if st = 5 then 8 else if st = 6 then (if b = 48 then 8 else 7) else if st = 7 then 8 else 9) else 9 := by unfold nx; rw [if_neg h0]
    rw [e0]
    by_cases h59 : b = 59
    · rw [if_pos h59, if_pos h59]
      rcases (show st = 1 ∨ st = 2 ∨ st = 3 ∨ st = 4 ∨ st = 5 ∨ st = 6 ∨ st = 7 ∨ st = 8 by omega) with rfl | rfl | rfl | rfl | rfl | rfl | rfl | rfl <;> rfl
    · rw [if_neg h59, if_neg h59]
      by_cases hd : isd b = true
      · have hd2 := isd_t hd
        rw [if_neg (fun q => q hd2), if_pos hd]
        unfold fX0_behindDigit
        simp only [rel_eq h (show 48 < 128 by omega)]
        rcases (show st = 1 ∨ st = 2 ∨ st = 3 ∨ st = 4 ∨ st = 5 ∨ st = 6 ∨ st = 7 ∨ st = 8 by omega) with rfl | rfl | rfl | rfl | rfl | rfl | rfl | rfl
        case inr.inr.inr.inr.inr.inl =>
          by_cases h48 : b = 48
          · subst h48; rfl
          · simp (disch := omega) only [ieq_f, ieq_t, h48, if_false, bd_s]
            rfl
        all_goals rfl
      · rw [if_pos (isd_f hd), if_neg hd]
/-- the first bad place -/
def fbs : List Nat → Nat → Nat → Option Nat
  | [], st, k => if st = 0 ∧ 0 < k then none else some k
  | b :: l, st, k => if nx st b = 9 then some k else fbs l (nx st b) (k + 1)
/-- a text on a shelf of the class -/
def TX (S : cM) (d : Nat) (B : List Nat) : Prop := S.1 (53 + d) 0 = nI 2 ∧ S.1 (53 + d) 5 = nI B.length ∧ ∀ k c, B[k]? = some c → rel (S.1 (61 + d) k) c
def bad (o : Option Nat) : Int32 := match o with
  | none => -1
  | some k => nI k
theorem p_fb_l {S : cM} {d : Nat} {B : List Nat} (h : TX S d B) (h100 : B.length ≤ 100) : ∀ (l : List Nat) (n st k : Nat), B.drop k = l → k ≤ B.length → l.length < n → st ≤ 8 → fX0_firstBadByte_4 (53 + d) n S (nI st) (nI k) = some (bad (fbs l st k), S) := by
  intro l
  induction l with
  | nil =>
    intro n st k e hk hn hst
    have := dropN e
    obtain ⟨n, rfl⟩ : ∃ z, n = z + 1 := ⟨n - 1, by omega⟩
    have hkl : k = B.length := by omega
    unfold fX0_firstBadByte_4 fX0_firstBadByte_52 fbs
    rw [h.2.1, ile_t (by omega) (by omega)]
    by_cases c : st = 0
    · rw [i0e_t c]
      by_cases c2 : B.length = 0
      · rw [i0l_t c2, if_neg (by omega), hkl]; rfl
      · rw [i0l_f (by omega) (by omega), if_pos (by omega)]; rfl
    · rw [i0e_f (by omega) (by omega), if_neg (fun q => c q.1), hkl]; rfl
  | cons b l ih =>
    intro n st k e hk hn hst
    obtain ⟨e1, e2, e3⟩ := dropC e
    simp only [List.length_cons] at hn
    obtain ⟨n, rfl⟩ : ∃ z, n = z + 1 := ⟨n - 1, by omega⟩
    have hle := @nx_le st b
    unfold fX0_firstBadByte_4 fbs
    rw [h.2.1, ile_f (by omega) (by omega), gi_n (show k < 100 by omega) (by omega), cl_n (by omega), show 53 + d + 8 = 61 + d by omega, p_next (h.2.2 k b e1) hst, bd_s]
    by_cases c : nx st b = 9
    · rw [ieq_t c, if_pos c]; rfl
    · rw [ieq_f c (by omega) (by omega), if_neg c, nI_add]
      exact ih n (nx st b) (k + 1) e2 (by omega) (by omega) (by omega)
theorem p_fb {S : cM} {d : Nat} {B : List Nat} (h : TX S d B) (h100 : B.length ≤ 100) : fX0_firstBadByte (53 + d) S = some (bad (fbs B 0 0), S) := by
  have hF : 110 < lF := by simp [lF]
  unfold fX0_firstBadByte
  generalize lF = F at hF ⊢
  exact p_fb_l h h100 B F 0 0 rfl (by omega) (by omega) (by omega)
/-! ===== one statement ===== -/
abbrev Ss : Type := Nat × Nat × Nat × Nat × List Nat
def en (l : List Nat) (n : Nat) (r : Ss) : Nat ⊕ Ss := match l with
  | [] => .inl n
  | e :: _ => if e = 59 then .inr r else .inl n
def rs2 (c a : Nat) (l : List Nat) : Nat ⊕ Ss := match l with
  | [] => .inl 2
  | b :: l => if isd b = true then (if c = 108 then en (l.dropWhile isd) (3 + (l.takeWhile isd).length) (4 + (l.takeWhile isd).length, 108, a - 48, b - 48, (l.takeWhile isd).map (· - 48)) else en l 3 (4, c, a - 48, b - 48, [])) else .inl 2
def rsm (a : Nat) (l : List Nat) : Nat ⊕ Ss := match l with
  | [] => .inl 2
  | b :: l => if 48 < a ∧ isd b = true then en l 3 (4, 109, 10 * (a - 48) + (b - 48), 0, []) else en (b :: l) 2 (3, 109, a - 48, 0, [])
def rs1 (c : Nat) (l : List Nat) : Nat ⊕ Ss := match l with
  | [] => .inl 1
  | a :: l => if isd a = true then (if c = 109 then rsm a l else rs2 c a l) else .inl 1
def rs (l : List Nat) : Nat ⊕ Ss := match l with
  | [] => .inl 0
  | c :: l => if c = 108 ∨ c = 99 ∨ c = 109 then rs1 c l else .inl 0
/-- the shape of a good statement -/
def shp (l : List Nat) (r : Ss) : Prop := l[0]? = some r.2.1 ∧ 3 ≤ r.1 ∧ l[r.1 - 1]? = some 59 ∧ (∀ i, i < r.1 - 1 → l[i]? ≠ some 59) ∧
  ((r.2.1 = 108 ∧ r.1 = 4 + r.2.2.2.2.length ∧ l[1]? = some (48 + r.2.2.1) ∧ l[2]? = some (48 + r.2.2.2.1) ∧ r.2.2.1 ≤ 9 ∧ r.2.2.2.1 ≤ 9 ∧ ∀ i z, r.2.2.2.2[i]? = some z → l[3 + i]? = some (48 + z) ∧ z ≤ 9) ∨
   (r.2.1 = 99 ∧ r.1 = 4 ∧ l[1]? = some (48 + r.2.2.1) ∧ l[2]? = some (48 + r.2.2.2.1) ∧ r.2.2.1 ≤ 9 ∧ r.2.2.2.1 ≤ 9) ∨
   (r.2.1 = 109 ∧ ((r.1 = 3 ∧ l[1]? = some (48 + r.2.2.1) ∧ r.2.2.1 ≤ 9) ∨ (r.1 = 4 ∧ ∃ a b, r.2.2.1 = 10 * a + b ∧ l[1]? = some (48 + a) ∧ l[2]? = some (48 + b) ∧ a ≤ 9 ∧ b ≤ 9))))
theorem en_k {e n : Nat} {l : List Nat} {r : Ss} : en (e :: l) n r = if e = 59 then .inr r else .inl n := id rfl
theorem rs1_k {c a : Nat} {l : List Nat} : rs1 c (a :: l) = if isd a = true then (if c = 109 then rsm a l else rs2 c a l) else .inl 1 := id rfl
theorem rs2_k {c a b : Nat} {l : List Nat} : rs2 c a (b :: l) = if isd b = true then (if c = 108 then en (l.dropWhile isd) (3 + (l.takeWhile isd).length) (4 + (l.takeWhile isd).length, 108, a - 48, b - 48, (l.takeWhile isd).map (· - 48)) else en l 3 (4, c, a - 48, b - 48, [])) else .inl 2 := id rfl
theorem rsm_k {a b : Nat} {l : List Nat} : rsm a (b :: l) = if 48 < a ∧ isd b = true then en l 3 (4, 109, 10 * (a - 48) + (b - 48), 0, []) else en (b :: l) 2 (3, 109, a - 48, 0, []) := id rfl
theorem rs_k {c : Nat} {l : List Nat} : rs (c :: l) = if c = 108 ∨ c = 99 ∨ c = 109 then rs1 c l else .inl 0 := id rfl
theorem en_c {l : List Nat} {st : Nat} (hst : st ≠ 0) (h : ∀ e l', l = e :: l' → nx st e = if e = 59 then 0 else 9) (n k : Nat) (r : Ss) :
    (en l n r = .inl n ∧ fbs l st k = some k) ∨ (∃ l', l = 59 :: l' ∧ en l n r = .inr r ∧ fbs l st k = fbs l' 0 (k + 1)) := by
  cases l with
  | nil =>
    left
    refine ⟨rfl, ?_⟩
    unfold fbs
    rw [if_neg (fun q => hst q.1)]
  | cons e l' =>
    have h1 := h e l' rfl
    by_cases c : e = 59
    · right
      subst c
      rw [if_pos rfl] at h1
      refine ⟨l', rfl, by rw [en_k, if_pos rfl], ?_⟩
      conv => lhs; unfold fbs
      rw [h1, if_neg (by omega)]
    · left
      rw [if_neg c] at h1
      refine ⟨by rw [en_k, if_neg c], ?_⟩
      conv => lhs; unfold fbs
      rw [h1, if_pos rfl]
theorem fbs_cons {b st k : Nat} {l : List Nat} (h : nx st b ≠ 9) : fbs (b :: l) st k = fbs l (nx st b) (k + 1) := by
  conv => lhs; unfold fbs
  rw [if_neg h]
theorem fbs_bad {b st k : Nat} {l : List Nat} (h : nx st b = 9) : fbs (b :: l) st k = some k := by
  unfold fbs
  rw [if_pos h]
theorem nx_d {st b : Nat} (h0 : st ≠ 0) (h : isd b = true) : nx st b = if st = 1 then 2 else if st = 2 then 3 else if st = 3 then 3 else if st = 4 then 5 else if st = 5 then 8 else if st = 6 then (if b = 48 then 8 else 7) else if st = 7 then 8 else 9 := by
  have := isd_t h
  unfold nx
  rw [if_neg h0, if_neg (by omega), if_pos h]
theorem nx_1d {b : Nat} (h : isd b = true) : nx 1 b = 2 := by rw [nx_d (by omega) h]; rfl
theorem nx_2d {b : Nat} (h : isd b = true) : nx 2 b = 3 := by rw [nx_d (by omega) h]; rfl
theorem nx_3d {b : Nat} (h : isd b = true) : nx 3 b = 3 := by rw [nx_d (by omega) h]; rfl
theorem nx_4d {b : Nat} (h : isd b = true) : nx 4 b = 5 := by rw [nx_d (by omega) h]; rfl
theorem nx_5d {b : Nat} (h : isd b = true) : nx 5 b = 8 := by rw [nx_d (by omega) h]; rfl
theorem nx_6d {b : Nat} (h : isd b = true) : nx 6 b = if b = 48 then 8 else 7 := by rw [nx_d (by omega) h]; rfl
theorem nx_7d {b : Nat} (h : isd b = true) : nx 7 b = 8 := by rw [nx_d (by omega) h]; rfl
theorem nx_n {st b : Nat} (h0 : st ≠ 0) (h : ¬ isd b = true) (h2 : st ≠ 3) (h3 : st ≠ 7) (h4 : st ≠ 8) : nx st b = 9 := by
  unfold nx
  rw [if_neg h0, if_neg h2, if_neg h3, if_neg h4, if_neg h, ite_self]
theorem nx_e {st b : Nat} (hs : st = 3 ∨ st = 7 ∨ st = 8) (h : ¬ isd b = true) : nx st b = if b = 59 then 0 else 9 := by
  unfold nx
  rw [if_neg (by omega), if_neg h]
  by_cases c : b = 59
  · rw [if_pos c, if_pos c]
    rcases hs with rfl | rfl | rfl <;> rfl
  · rw [if_neg c, if_neg c]
theorem nx_8 {b : Nat} : nx 8 b = if b = 59 then 0 else 9 := by
  by_cases h : isd b = true
  · have := isd_t h
    rw [nx_d (by omega) h, if_neg (show ¬ b = 59 by omega)]; rfl
  · exact nx_e (Or.inr (Or.inr rfl)) h
theorem fbs_tw (k : Nat) : ∀ (l : List Nat) (j : Nat), fbs l 3 (k + j) = fbs (l.dropWhile isd) 3 (k + j + (l.takeWhile isd).length) := by
  intro l
  induction l with
  | nil => intro j; rfl
  | cons b l ih =>
    intro j
    by_cases h : isd b = true
    · rw [List.dropWhile_cons_of_pos h, List.takeWhile_cons_of_pos h, fbs_cons (by rw [nx_3d h]; decide), nx_3d h, List.length_cons]
      have := ih (j + 1)
      rw [show k + j + ((List.takeWhile isd l).length + 1) = k + (j + 1) + (List.takeWhile isd l).length by omega]
      exact this
    · rw [List.dropWhile_cons_of_neg h, List.takeWhile_cons_of_neg h]
      rfl
theorem dw_hd {l : List Nat} {e : Nat} {l' : List Nat} (h : l.dropWhile isd = e :: l') : ¬ isd e = true := by
  induction l with
  | nil => cases h
  | cons b l ih =>
    by_cases c : isd b = true
    · rw [List.dropWhile_cons_of_pos c] at h; exact ih h
    · rw [List.dropWhile_cons_of_neg c] at h
      injection h with h1 h2
      subst h1
      exact c
