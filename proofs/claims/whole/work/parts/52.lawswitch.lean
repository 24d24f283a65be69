/-! ===== the law: the switch ===== -/
section Ls
variable {p : Program} {l : Launch} {e : Env} {s : State} {m : MethodId} {below : List Frame} {meth : Method} {c : Code} {H : Heap} {locs : List Loc} {cells slots : Nat} {Q : State → Prop}
variable {Γ : gG} {ac am : Nat → Nat} {ao b L n : Nat} {xs : Nat → Int32} {ls : Array Slot} {Sc : cM} {Sm : mM} {o : Nat → Int64} {x : Xx} {im : Option Xx} {sh : Nat → Sh}
set_option maxHeartbeats 4000000 in
set_option maxRecDepth 100000 in
theorem L_switch (hl0 : l.stackTraces = false) (F : Lf Γ p s m meth c b L xs) (P : Lp Γ s ac am ao) (hH : Lh Γ s ac am ao Sc Sm o H locs) (R : Rl Sc Sm x im sh) (hL : L ≤ 384) (hn : 6 * n + 5 < L) (hl : lv_has ls 8 (lws b ac am ao n)) (hcs : cells + 1 ≤ room_1.cells ∧ slots + 6 ≤ room_1.slots) (next : Lnx p l e s m below meth c (cells + 1) (slots + 6) Q Γ ac am ao b n) (v : Int32) : W p l e room_1 s m #[Value.ref b] below meth c H locs cells slots Q (F0 m 40 ls [.int v]) := by
  have hx := F.1.1
  have hb := F.1.2.1
  by_cases hv : v.toInt < 0 ∨ 36 < v.toInt
  · refine lv_tableOut (tgt := 1591) hx hb dL_law_40 hv (by decide) ?_
    refine W.widen (k := cells + 1) (n := slots + 6) (Nat.le_add_right _ _) (Nat.le_add_right _ _) ?_
    exact next _ _ _ _ _ _ _ _ _ R hH hl
  · have h1 : ¬ v.toInt < 0 := fun q => hv (Or.inl q)
    have h2 : ¬ 36 < v.toInt := fun q => hv (Or.inr q)
    rcases (show v.toInt = 0 ∨ v.toInt = 1 ∨ v.toInt = 2 ∨ v.toInt = 3 ∨ v.toInt = 4 ∨ v.toInt = 5 ∨ v.toInt = 6 ∨ v.toInt = 7 ∨ v.toInt = 8 ∨ v.toInt = 9 ∨ v.toInt = 10 ∨ v.toInt = 11 ∨ v.toInt = 12 ∨ v.toInt = 13 ∨ v.toInt = 14 ∨ v.toInt = 15 ∨ v.toInt = 16 ∨ v.toInt = 17 ∨ v.toInt = 18 ∨ v.toInt = 19 ∨ v.toInt = 20 ∨ v.toInt = 21 ∨ v.toInt = 22 ∨ v.toInt = 23 ∨ v.toInt = 24 ∨ v.toInt = 25 ∨ v.toInt = 26 ∨ v.toInt = 27 ∨ v.toInt = 28 ∨ v.toInt = 29 ∨ v.toInt = 30 ∨ v.toInt = 31 ∨ v.toInt = 32 ∨ v.toInt = 33 ∨ v.toInt = 34 ∨ v.toInt = 35 ∨ v.toInt = 36 by omega) with h | h | h | h | h | h | h | h | h | h | h | h | h | h | h | h | h | h | h | h | h | h | h | h | h | h | h | h | h | h | h | h | h | h | h | h | h
    · exact lv_tableIn (off := 164) (tgt := 204) hx hb dL_law_40 h1 h2 (by rw [h]; rfl) (by decide) (L_border F P hH R hL hn hl hcs next)
    · exact lv_tableIn (off := 189) (tgt := 229) hx hb dL_law_40 h1 h2 (by rw [h]; rfl) (by decide) (L_lane F P hH R hL hn hl hcs next)
    · exact lv_tableIn (off := 226) (tgt := 266) hx hb dL_law_40 h1 h2 (by rw [h]; rfl) (by decide) (L_car F P hH R hL hn hl hcs next)
    · exact lv_tableIn (off := 263) (tgt := 303) hx hb dL_law_40 h1 h2 (by rw [h]; rfl) (by decide) (L_takes F P hH R hL hn hl hcs next)
    · exact lv_tableIn (off := 300) (tgt := 340) hx hb dL_law_40 h1 h2 (by rw [h]; rfl) (by decide) (L_comes F P hH R hL hn hl hcs next)
    · exact lv_tableIn (off := 337) (tgt := 377) hx hb dL_law_40 h1 h2 (by rw [h]; rfl) (by decide) (L_minutes F P hH R hL hn hl hcs next)
    · exact lv_tableIn (off := 362) (tgt := 402) hx hb dL_law_40 h1 h2 (by rw [h]; rfl) (by decide) (L_which F P hH R hL hn hl hcs next)
    · exact lv_tableIn (off := 387) (tgt := 427) hx hb dL_law_40 h1 h2 (by rw [h]; rfl) (by decide) (L_best F P hH R hL hn hl hcs next)
    · exact lv_tableIn (off := 412) (tgt := 452) hx hb dL_law_40 h1 h2 (by rw [h]; rfl) (by decide) (L_regret F P hH R hL hn hl hcs next)
    · exact lv_tableIn (off := 437) (tgt := 477) hx hb dL_law_40 h1 h2 (by rw [h]; rfl) (by decide) (L_time F P hH R hL hn hl hcs next)
    · exact lv_tableIn (off := 474) (tgt := 514) hx hb dL_law_40 h1 h2 (by rw [h]; rfl) (by decide) (L_all F P hH R hL hn hl hcs next)
    · exact lv_tableIn (off := 487) (tgt := 527) hx hb dL_law_40 h1 h2 (by rw [h]; rfl) (by decide) (L_change F P hH R hL hn hl hcs next)
    · exact lv_tableIn (off := 548) (tgt := 588) hx hb dL_law_40 h1 h2 (by rw [h]; rfl) (by decide) (L_changes F P hH R hL hn hl hcs next)
    · exact lv_tableIn (off := 597) (tgt := 637) hx hb dL_law_40 h1 h2 (by rw [h]; rfl) (by decide) (L_paysMost F P hH R hL hn hl hcs next)
    · exact lv_tableIn (off := 622) (tgt := 662) hx hb dL_law_40 h1 h2 (by rw [h]; rfl) (by decide) (L_rests F P hH R hL hn hl hcs next)
    · exact lv_tableIn (off := 659) (tgt := 699) hx hb dL_law_40 h1 h2 (by rw [h]; rfl) (by decide) (L_least F P hH R hL hn hl hcs next)
    · exact lv_tableIn (off := 672) (tgt := 712) hx hb dL_law_40 h1 h2 (by rw [h]; rfl) (by decide) (L_oneLine F P hH R hL hn hl hcs next)
    · exact lv_tableIn (off := 685) (tgt := 725) hx hb dL_law_40 h1 h2 (by rw [h]; rfl) (by decide) (L_beside F P hH R hL hn hl hcs next)
    · exact lv_tableIn (off := 734) (tgt := 774) hx hb dL_law_40 h1 h2 (by rw [h]; rfl) (by decide) (L_comers F P hH R hL hn hl hcs next)
    · exact lv_tableIn (off := 795) (tgt := 835) hx hb dL_law_40 h1 h2 (by rw [h]; rfl) (by decide) (L_opens F P hH R hL hn hl hcs next)
    · exact lv_tableIn (off := 844) (tgt := 884) hx hb dL_law_40 h1 h2 (by rw [h]; rfl) (by decide) (L_bySorts F P hH R hL hn hl hcs next)
    · exact lv_tableIn (off := 881) (tgt := 921) hx hb dL_law_40 h1 h2 (by rw [h]; rfl) (by decide) (L_advice F P hH R hL hn hl hcs next)
    · exact lv_tableIn (off := 918) (tgt := 958) hx hb dL_law_40 h1 h2 (by rw [h]; rfl) (by decide) (L_news F P hH R hL hn hl hcs next)
    · exact lv_tableIn (off := 979) (tgt := 1019) hx hb dL_law_40 h1 h2 (by rw [h]; rfl) (by decide) (L_grows F P hH R hL hn hl hcs next)
    · exact lv_tableIn (off := 1028) (tgt := 1068) hx hb dL_law_40 h1 h2 (by rw [h]; rfl) (by decide) (L_other F P hH R hL hn hl hcs next)
    · exact lv_tableIn (off := 1077) (tgt := 1117) hx hb dL_law_40 h1 h2 (by rw [h]; rfl) (by decide) (L_seeded F P hH R hL hn hl hcs next)
    · exact lv_tableIn (off := 1126) (tgt := 1166) hx hb dL_law_40 h1 h2 (by rw [h]; rfl) (by decide) (L_judge F P hH R hL hn hl hcs next)
    · exact lv_tableIn (off := 1163) (tgt := 1203) hx hb dL_law_40 h1 h2 (by rw [h]; rfl) (by decide) (L_image F P hH R hL hn hl hcs next)
    · exact lv_tableIn (off := 1176) (tgt := 1216) hx hb dL_law_40 h1 h2 (by rw [h]; rfl) (by decide) (L_restore F P hH R hL hn hl hcs next)
    · exact lv_tableIn (off := 1189) (tgt := 1229) hx hb dL_law_40 h1 h2 (by rw [h]; rfl) (by decide) (L_count F P hH R hL hn hl hcs next)
    · exact lv_tableIn (off := 1214) (tgt := 1254) hx hb dL_law_40 h1 h2 (by rw [h]; rfl) (by decide) (L_keep F P hH R hL hn hl hcs next)
    · exact lv_tableIn (off := 1263) (tgt := 1303) hx hb dL_law_40 h1 h2 (by rw [h]; rfl) (by decide) (L_row F P hH R hL hn hl hcs next)
    · exact lv_tableIn (off := 1312) (tgt := 1352) hx hb dL_law_40 h1 h2 (by rw [h]; rfl) (by decide) (L_put F P hH R hL hn hl hcs next)
    · exact lv_tableIn (off := 1361) (tgt := 1401) hx hb dL_law_40 h1 h2 (by rw [h]; rfl) (by decide) (L_element hl0 F P hH R hL hn hl hcs next)
    · exact lv_tableIn (off := 1428) (tgt := 1468) hx hb dL_law_40 h1 h2 (by rw [h]; rfl) (by decide) (L_copy F P hH R hL hn hl hcs next)
    · exact lv_tableIn (off := 1501) (tgt := 1541) hx hb dL_law_40 h1 h2 (by rw [h]; rfl) (by decide) (L_toll F P hH R hL hn hl hcs next)
    · exact lv_tableIn (off := 1526) (tgt := 1566) hx hb dL_law_40 h1 h2 (by rw [h]; rfl) (by decide) (L_toss hl0 F P hH R hL hn hl hcs next)
end Ls
