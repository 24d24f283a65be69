/-- the words that stay: all that the tables say and that a later state keeps -/
def Ub : List Cond := lw_tbl.filter goodWord
theorem Ub_mem {w : Cond} (h : w ∈ lw_tbl) (g : goodWord w = true) : w ∈ Ub := List.mem_filter.mpr ⟨h, g⟩
theorem Ub_good : GoodIn Ub Ub := fun w h => ⟨h, good_of_word (List.mem_filter.mp h).2⟩
theorem tb_in1 : ∀ w ∈ tables_1_1, w ∈ lw_tbl := fun w h => List.mem_append_right (as := k2_sels lw_privs) (bs := tables_1) (List.mem_append_left _ h)
theorem tb_in2 : ∀ w ∈ tables_1_2, w ∈ lw_tbl := fun w h => List.mem_append_right (as := k2_sels lw_privs) (bs := tables_1) (List.mem_append_right _ (List.mem_append_left _ h))
theorem tb_in3 : ∀ w ∈ tables_1_3, w ∈ lw_tbl := fun w h => List.mem_append_right (as := k2_sels lw_privs) (bs := tables_1) (List.mem_append_right _ (List.mem_append_right _ (List.mem_append_left _ h)))
theorem tb_in4 : ∀ w ∈ tables_1_4, w ∈ lw_tbl := fun w h => List.mem_append_right (as := k2_sels lw_privs) (bs := tables_1) (List.mem_append_right _ (List.mem_append_right _ (List.mem_append_right _ (List.mem_append_left _ h))))
theorem tb_in5 : ∀ w ∈ tables_1_5, w ∈ lw_tbl := fun w h => List.mem_append_right (as := k2_sels lw_privs) (bs := tables_1) (List.mem_append_right _ (List.mem_append_right _ (List.mem_append_right _ (List.mem_append_right _ (List.mem_append_left _ h)))))
theorem tb_in6 : ∀ w ∈ tables_1_6, w ∈ lw_tbl := fun w h => List.mem_append_right (as := k2_sels lw_privs) (bs := tables_1) (List.mem_append_right _ (List.mem_append_right _ (List.mem_append_right _ (List.mem_append_right _ (List.mem_append_right _ h)))))
theorem sel_in {q : MethodName × Nat} (h : q ∈ lw_privs) : Cond.selects q.1.cls q.1 q.1 ∈ lw_tbl := List.mem_append_left _ (List.mem_map.mpr ⟨q, h, rfl⟩)
