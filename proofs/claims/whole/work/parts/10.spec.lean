/-! ===== pure helpers: binds, guards and tests over nI ===== -/
theorem bd_s {α β σ : Type} {r : α} {S : σ} {k : α → σ → Option β} : bd (some (r, S)) k = k r S := id rfl
theorem bv_s {β σ : Type} {S : σ} {k : σ → Option β} : bv (some S) k = k S := id rfl
theorem sv_s {β σ : Type} {x : σ} {k : σ → Option β} : sv x k = k x := id rfl
theorem gi_n {α : Type} {i n : Nat} {k : Option α} (h : i < n) (hn : n < 2147483648) : gi (nI i) n k = k := by
  unfold gi; rw [if_neg (nI_in h (by omega))]
theorem gz_n {α : Type} {d : Nat} {k : Option α} (h : 0 < d) (hd : d < 2147483648) : gz (nI d) k = k := by
  unfold gz; rw [if_neg (nI_ne0 h (by omega))]
theorem gb_0 {α : Type} {k : Option α} : gb (nI 0) k = k := id rfl
theorem gb_1 {α : Type} {k : Option α} : gb (nI 1) k = k := id rfl
theorem gn_o {α : Type} {q lo hi : Nat} {k : Option α} (h1 : lo ≤ q) (h2 : q ≤ hi) : gn q lo hi k = k := by
  unfold gn; rw [if_pos ⟨h1, h2⟩]
theorem ile_t {α : Type} {a b : Nat} {x y : α} (h : a ≤ b) (hb : b < 2147483648) : (if nI a ≤ nI b then x else y) = x := if_pos (nI_le h (by omega))
theorem ile_f {α : Type} {a b : Nat} {x y : α} (h : b < a) (ha : a < 2147483648) : (if nI a ≤ nI b then x else y) = y := if_neg (nI_ge h (by omega))
theorem ilt_t {α : Type} {a b : Nat} {x y : α} (h : a < b) (hb : b < 2147483648) : (if nI a < nI b then x else y) = x := if_pos (nI_lt h (by omega))
theorem ilt_f {α : Type} {a b : Nat} {x y : α} (h : b ≤ a) (ha : a < 2147483648) : (if nI a < nI b then x else y) = y := if_neg (nI_nlt h (by omega))
theorem ieq_t {α : Type} {a b : Nat} {x y : α} (h : a = b) : (if nI a = nI b then x else y) = x := if_pos (by rw [h])
theorem ieq_f {α : Type} {a b : Nat} {x y : α} (h : a ≠ b) (ha : a < 2147483648) (hb : b < 2147483648) : (if nI a = nI b then x else y) = y := if_neg (fun e => h ((nI_eq (by omega) (by omega)).mp e))
theorem i0n_f {α : Type} {a : Nat} {x y : α} (ha : a < 2147483648) : (if nI a < 0 then x else y) = y := if_neg (nI_pos (by omega))
theorem i0p_t {α : Type} {a : Nat} {x y : α} (ha : a < 2147483648) : (if (0 : Int32) ≤ nI a then x else y) = x := if_pos (nI_pos' (by omega))
theorem i0e_t {α : Type} {a : Nat} {x y : α} (h : a = 0) : (if nI a = 0 then x else y) = x := if_pos (by rw [h]; rfl)
theorem i0e_f {α : Type} {a : Nat} {x y : α} (h : 0 < a) (ha : a < 2147483648) : (if nI a = 0 then x else y) = y := if_neg (nI_ne0 h (by omega))
theorem i0l_t {α : Type} {a : Nat} {x y : α} (h : a = 0) : (if nI a ≤ 0 then x else y) = x := if_pos (by rw [h]; decide)
theorem i0l_f {α : Type} {a : Nat} {x y : α} (h : 0 < a) (ha : a < 2147483648) : (if nI a ≤ 0 then x else y) = y := if_neg (nI_nle h (by omega))
theorem i0g_t {α : Type} {a : Nat} {x y : α} (h : 0 < a) (ha : a < 2147483648) : (if (0 : Int32) < nI a then x else y) = x := if_pos (by rw [← nI_0]; exact nI_lt h (by omega))
theorem i0g_f {α : Type} {a : Nat} {x y : α} (h : a = 0) : (if (0 : Int32) < nI a then x else y) = y := if_neg (by rw [h]; decide)
/-- a truth as a number -/
def b2 (b : Bool) : Int32 := if b = true then nI 1 else nI 0
theorem b2_t : b2 true = nI 1 := id rfl
theorem b2_f : b2 false = nI 0 := id rfl
theorem b2_if {α : Type} {b : Bool} {x y : α} : (if b2 b = 0 then x else y) = if b = true then y else x := by cases b <;> rfl
theorem gb_b {α : Type} {b : Bool} {k : Option α} : gb (b2 b) k = k := by cases b <;> rfl
theorem m1_0 {α : Type} {x y : α} : (if (-1 : Int32) = 0 then x else y) = y := id rfl
theorem cl_n {a : Nat} (h : a < 2147483648) : (nI a).toNatClampNeg = a := nI_clamp (by omega)
theorem su_n {a b : Nat} (h : b ≤ a) : nI a - nI b = nI (a - b) := pk_sub h
theorem dropC {α : Type} {a l : List α} {b : α} {k : Nat} (e : a.drop k = b :: l) : a[k]? = some b ∧ a.drop (k + 1) = l ∧ k < a.length := by
  have hk : k < a.length := by
    rcases Nat.lt_or_ge k a.length with h | h
    · exact h
    · rw [List.drop_eq_nil_of_le h] at e; cases e
  rw [List.drop_eq_getElem_cons hk] at e
  injection e with e1 e2
  exact ⟨by rw [List.getElem?_eq_getElem hk, e1], e2, hk⟩
theorem dropN {α : Type} {a : List α} {k : Nat} (e : a.drop k = []) : a.length ≤ k := by
  have := congrArg List.length e
  simp at this
  omega
/-! ===== what a lane is: kind, figure, left, over, sorts ===== -/
abbrev Qq : Type := Nat × Nat × Nat × Int32 × List Nat
def pl (s : Nat) : Nat := if s = 0 then 2 else if s = 1 then 3 else if s = 2 then 5 else 8
def tk (kd fg s : Nat) : Nat := if kd = 1 then pl s - 1 else if kd = 2 then 2 * pl s else if kd = 3 then (if s = 3 then 2 * pl s + fg else 2 * pl s) else if kd = 5 then 2 * pl s + 1 else if kd = 6 then pl s / 2 else if kd = 7 then pl s + fg else pl s
def tks (kd fg : Nat) : List Nat → Nat
  | [] => 0
  | s :: l => tk kd fg s + tks kd fg l
def aT (kd fg : Nat) : Nat → List Nat → Nat
  | _, [] => 0
  | e, s :: l => (e + tk kd fg s) + aT kd fg (e + tk kd fg s) l
def pls : List Nat → Nat
  | [] => 0
  | s :: l => pl s + pls l
def sn (kd fg n : Nat) : Nat := if kd = 2 then n - 1 else if kd = 3 then n - 1 else if kd = 4 then (if fg < n then fg else n) else if kd = 5 then (n - 1) / 2 else if kd = 7 then (n + 1) / 2 else n
def op (kd fg n : Nat) : Bool := !(decide (kd = 5) && decide (fg ≤ n))
def okQ (q : Qq) : Prop := q.1 ≤ 7 ∧ q.2.1 ≤ 9 ∧ q.2.2.1 ≤ 25 ∧ q.2.2.2.2.length ≤ 8 ∧ (∀ s ∈ q.2.2.2.2, s < 4) ∧ (q.2.2.2.2 = [] → q.2.2.1 = 0) ∧ (q.2.2.2.2 ≠ [] → 1 ≤ q.2.2.1)
def qT (q : Qq) (i : Nat) : Nat := q.2.2.1 + tks q.1 q.2.1 ((q.2.2.2.2.drop 1).take i)
def qW (q : Qq) : Nat := q.2.2.1 + tks q.1 q.2.1 (q.2.2.2.2.drop 1)
def qN (q : Qq) (s : Nat) : Nat := qW q + tk q.1 q.2.1 s
def qA (q : Qq) : Nat := q.2.2.1 + aT q.1 q.2.1 q.2.2.1 (q.2.2.2.2.drop 1)
def qS (q : Qq) : Nat := pls (q.2.2.2.2.take (sn q.1 q.2.1 q.2.2.2.2.length))
def qO (q : Qq) : Bool := op q.1 q.2.1 q.2.2.2.2.length
def qM (q : Qq) : Bool := qO q && decide (q.2.2.2.2.length < 8)
def qC (q : Qq) (s : Nat) : Qq := (q.1, q.2.1, if q.2.2.2.2 = [] then tk q.1 q.2.1 s else q.2.2.1, q.2.2.2.1, q.2.2.2.2 ++ [s])
def qD (q : Qq) (i : Nat) : Qq := (q.1, q.2.1, q.2.2.1, q.2.2.2.1, q.2.2.2.2.eraseIdx i)
def qF (kd fg : Nat) : List Nat → Nat
  | [] => 0
  | s :: _ => tk kd fg s
def qG (q : Qq) : Bool := decide (q.2.2.2.2 ≠ []) && decide (q.2.2.1 = 1)
def qU (q : Qq) : Qq := if q.2.2.2.2 = [] then q else if q.2.2.1 = 1 then (q.1, q.2.1, qF q.1 q.2.1 (q.2.2.2.2.drop 1), q.2.2.2.1 + 1, q.2.2.2.2.drop 1) else (q.1, q.2.1, q.2.2.1 - 1, q.2.2.2.1, q.2.2.2.2)
theorem pl_le {s : Nat} : 2 ≤ pl s ∧ pl s ≤ 8 := by unfold pl; split <;> (try split) <;> (try split) <;> omega
theorem tk_le {kd fg s : Nat} (h : fg ≤ 9) : 1 ≤ tk kd fg s ∧ tk kd fg s ≤ 25 := by
  have := @pl_le s
  unfold tk
  repeat' split
  all_goals omega
theorem tks_le {kd fg : Nat} (h : fg ≤ 9) : ∀ l : List Nat, tks kd fg l ≤ 25 * l.length
  | [] => by simp [tks]
  | s :: l => by
    have h1 := @tk_le kd fg s h
    have h2 := tks_le (kd := kd) h l
    simp only [tks, List.length_cons]
    omega
theorem pls_le : ∀ l : List Nat, pls l ≤ 8 * l.length
  | [] => by simp [pls]
  | s :: l => by
    have h1 := @pl_le s
    have h2 := pls_le l
    simp only [pls, List.length_cons]
    omega
theorem aT_le {kd fg : Nat} (h : fg ≤ 9) : ∀ (l : List Nat) (e : Nat), aT kd fg e l ≤ (e + 25 * l.length) * l.length
  | [], e => by simp [aT]
  | s :: l, e => by
    have h1 := @tk_le kd fg s h
    have h2 := aT_le (kd := kd) h l (e + tk kd fg s)
    simp only [aT, List.length_cons]
    have h3 : (e + tk kd fg s + 25 * l.length) * l.length ≤ (e + 25 * (l.length + 1)) * l.length := Nat.mul_le_mul_right _ (by omega)
    have h4 : (e + 25 * (l.length + 1)) * (l.length + 1) = (e + 25 * (l.length + 1)) * l.length + (e + 25 * (l.length + 1)) := Nat.mul_succ _ _
    omega
theorem sn_le {kd fg n : Nat} : sn kd fg n ≤ n := by
  unfold sn
  repeat' split
  all_goals omega
