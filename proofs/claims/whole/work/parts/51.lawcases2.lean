/-! ===== the law: its cases, the rest ===== -/
section Lc
variable {p : Program} {l : Launch} {e : Env} {s : State} {m : MethodId} {below : List Frame} {meth : Method} {c : Code} {H : Heap} {locs : List Loc} {cells slots : Nat} {Q : State → Prop}
variable {Γ : gG} {ac am : Nat → Nat} {ao b L n : Nat} {xs : Nat → Int32} {ls : Array Slot} {Sc : cM} {Sm : mM} {o : Nat → Int64} {x : Xx} {im : Option Xx} {sh : Nat → Sh}
set_option maxHeartbeats 4000000 in
set_option maxRecDepth 100000 in
theorem L_opens (F : Lf Γ p s m meth c b L xs) (P : Lp Γ s ac am ao) (hH : Lh Γ s ac am ao Sc Sm o H locs) (R : Rl Sc Sm x im sh) (hL : L ≤ 384) (hn : 6 * n + 5 < L) (hl : lv_has ls 8 (lws b ac am ao n)) (hcs : cells + 1 ≤ room_1.cells ∧ slots + 6 ≤ room_1.slots) (next : Lnx p l e s m below meth c (cells + 1) (slots + 6) Q Γ ac am ao b n) : W p l e room_1 s m #[Value.ref b] below meth c H locs cells slots Q (F0 m 835 ls []) := by
  obtain ⟨r, Sc', Sm', x', im', sh', e1, e2, R'⟩ := t_opens R (xs (6 * n + 1)) (xs (6 * n + 2)) (xs (6 * n + 3))
  have hx := F.1.1
  have hb := F.1.2.1
  refine W.widen (k := cells + 1) (n := slots + 6) (Nat.le_add_right _ _) (Nat.le_add_right _ _) ?_
  refine lv_aload_n hx hb dL_law_835 rfl (lv_at hl 1 rfl) ?_
  refine L_rd (n := n) (j := 1) F hH.2.2.2 (lv_at hl 0 rfl) (lv_at hl 4 rfl) (by omega) hL dL_law_836 dL_law_837 dL_law_839 rfl dL_law_840 dL_law_841 ?_
  refine L_rd (n := n) (j := 2) F hH.2.2.2 (lv_at hl 0 rfl) (lv_at hl 4 rfl) (by omega) hL dL_law_842 dL_law_843 dL_law_845 rfl dL_law_846 dL_law_847 ?_
  refine L_rd (n := n) (j := 3) F hH.2.2.2 (lv_at hl 0 rfl) (lv_at hl 4 rfl) (by omega) hL dL_law_848 dL_law_849 dL_law_851 rfl dL_law_852 dL_law_853 ?_
  refine L_c (av := [.int (xs (6 * n + 1)), .int (xs (6 * n + 2)), .int (xs (6 * n + 3))]) (rest := []) F P hH (mX5_opens l (gA Γ ac) e1) hl.1 k3_16 qX5_opens rfl ⟨Nat.le_of_ble_eq_true rfl, Nat.le_of_ble_eq_true rfl⟩ hcs (Nat.le_of_ble_eq_true rfl) dL_law_854 (fun H locs hH => ?_)
  refine lv_aload_n hx hb dL_law_857 rfl (lv_at hl 2 rfl) ?_
  refine L_rd (n := n) (j := 1) F hH.2.2.2 (lv_at hl 0 rfl) (lv_at hl 4 rfl) (by omega) hL dL_law_858 dL_law_859 dL_law_861 rfl dL_law_862 dL_law_863 ?_
  refine L_rd (n := n) (j := 2) F hH.2.2.2 (lv_at hl 0 rfl) (lv_at hl 4 rfl) (by omega) hL dL_law_864 dL_law_865 dL_law_867 rfl dL_law_868 dL_law_869 ?_
  refine L_rd (n := n) (j := 3) F hH.2.2.2 (lv_at hl 0 rfl) (lv_at hl 4 rfl) (by omega) hL dL_law_870 dL_law_871 dL_law_873 rfl dL_law_874 dL_law_875 ?_
  refine L_m (av := [.int (xs (6 * n + 1)), .int (xs (6 * n + 2)), .int (xs (6 * n + 3))]) (rest := [.int r]) F P hH (mX6_opens l (gA Γ am) e2) hl.1 k5_213 qX6_opens rfl ⟨Nat.le_of_ble_eq_true rfl, Nat.le_of_ble_eq_true rfl⟩ hcs (Nat.le_of_ble_eq_true rfl) dL_law_876 (fun H locs hH => ?_)
  exact lv_icmp_eq (tgt := 1591) hx hb dL_law_879 (by decide) (fun _ => next _ _ _ _ _ _ _ _ _ R' hH hl) (fun h => absurd rfl h)
set_option maxHeartbeats 4000000 in
set_option maxRecDepth 100000 in
theorem L_bySorts (F : Lf Γ p s m meth c b L xs) (P : Lp Γ s ac am ao) (hH : Lh Γ s ac am ao Sc Sm o H locs) (R : Rl Sc Sm x im sh) (hL : L ≤ 384) (hn : 6 * n + 5 < L) (hl : lv_has ls 8 (lws b ac am ao n)) (hcs : cells + 1 ≤ room_1.cells ∧ slots + 6 ≤ room_1.slots) (next : Lnx p l e s m below meth c (cells + 1) (slots + 6) Q Γ ac am ao b n) : W p l e room_1 s m #[Value.ref b] below meth c H locs cells slots Q (F0 m 884 ls []) := by
  obtain ⟨r, Sc', Sm', x', im', sh', e1, e2, R'⟩ := t_bySorts R (xs (6 * n + 1)) (xs (6 * n + 2))
  have hx := F.1.1
  have hb := F.1.2.1
  refine W.widen (k := cells + 1) (n := slots + 6) (Nat.le_add_right _ _) (Nat.le_add_right _ _) ?_
  refine lv_aload_n hx hb dL_law_884 rfl (lv_at hl 1 rfl) ?_
  refine L_rd (n := n) (j := 1) F hH.2.2.2 (lv_at hl 0 rfl) (lv_at hl 4 rfl) (by omega) hL dL_law_885 dL_law_886 dL_law_888 rfl dL_law_889 dL_law_890 ?_
  refine L_rd (n := n) (j := 2) F hH.2.2.2 (lv_at hl 0 rfl) (lv_at hl 4 rfl) (by omega) hL dL_law_891 dL_law_892 dL_law_894 rfl dL_law_895 dL_law_896 ?_
  refine L_c (av := [.int (xs (6 * n + 1)), .int (xs (6 * n + 2))]) (rest := []) F P hH (mX5_bySorts l (gA Γ ac) e1) hl.1 k3_21 qX5_bySorts rfl ⟨Nat.le_of_ble_eq_true rfl, Nat.le_of_ble_eq_true rfl⟩ hcs (Nat.le_of_ble_eq_true rfl) dL_law_897 (fun H locs hH => ?_)
  refine lv_aload_n hx hb dL_law_900 rfl (lv_at hl 2 rfl) ?_
  refine L_rd (n := n) (j := 1) F hH.2.2.2 (lv_at hl 0 rfl) (lv_at hl 4 rfl) (by omega) hL dL_law_901 dL_law_902 dL_law_904 rfl dL_law_905 dL_law_906 ?_
  refine L_rd (n := n) (j := 2) F hH.2.2.2 (lv_at hl 0 rfl) (lv_at hl 4 rfl) (by omega) hL dL_law_907 dL_law_908 dL_law_910 rfl dL_law_911 dL_law_912 ?_
  refine L_m (av := [.int (xs (6 * n + 1)), .int (xs (6 * n + 2))]) (rest := [.int r]) F P hH (mX6_bySorts l (gA Γ am) e2) hl.1 k5_217 qX6_bySorts rfl ⟨Nat.le_of_ble_eq_true rfl, Nat.le_of_ble_eq_true rfl⟩ hcs (Nat.le_of_ble_eq_true rfl) dL_law_913 (fun H locs hH => ?_)
  exact lv_icmp_eq (tgt := 1591) hx hb dL_law_916 (by decide) (fun _ => next _ _ _ _ _ _ _ _ _ R' hH hl) (fun h => absurd rfl h)
set_option maxHeartbeats 4000000 in
set_option maxRecDepth 100000 in
theorem L_advice (F : Lf Γ p s m meth c b L xs) (P : Lp Γ s ac am ao) (hH : Lh Γ s ac am ao Sc Sm o H locs) (R : Rl Sc Sm x im sh) (hL : L ≤ 384) (hn : 6 * n + 5 < L) (hl : lv_has ls 8 (lws b ac am ao n)) (hcs : cells + 1 ≤ room_1.cells ∧ slots + 6 ≤ room_1.slots) (next : Lnx p l e s m below meth c (cells + 1) (slots + 6) Q Γ ac am ao b n) : W p l e room_1 s m #[Value.ref b] below meth c H locs cells slots Q (F0 m 921 ls []) := by
  obtain ⟨r, Sc', Sm', x', im', sh', e1, e2, R'⟩ := t_advice R (xs (6 * n + 1)) (xs (6 * n + 2))
  have hx := F.1.1
  have hb := F.1.2.1
  refine W.widen (k := cells + 1) (n := slots + 6) (Nat.le_add_right _ _) (Nat.le_add_right _ _) ?_
  refine lv_aload_n hx hb dL_law_921 rfl (lv_at hl 1 rfl) ?_
  refine L_rd (n := n) (j := 1) F hH.2.2.2 (lv_at hl 0 rfl) (lv_at hl 4 rfl) (by omega) hL dL_law_922 dL_law_923 dL_law_925 rfl dL_law_926 dL_law_927 ?_
  refine L_rd (n := n) (j := 2) F hH.2.2.2 (lv_at hl 0 rfl) (lv_at hl 4 rfl) (by omega) hL dL_law_928 dL_law_929 dL_law_931 rfl dL_law_932 dL_law_933 ?_
  refine L_c (av := [.int (xs (6 * n + 1)), .int (xs (6 * n + 2))]) (rest := []) F P hH (mX5_advice l (gA Γ ac) e1) hl.1 k3_37 qX5_advice rfl ⟨Nat.le_of_ble_eq_true rfl, Nat.le_of_ble_eq_true rfl⟩ hcs (Nat.le_of_ble_eq_true rfl) dL_law_934 (fun H locs hH => ?_)
  refine lv_aload_n hx hb dL_law_937 rfl (lv_at hl 2 rfl) ?_
  refine L_rd (n := n) (j := 1) F hH.2.2.2 (lv_at hl 0 rfl) (lv_at hl 4 rfl) (by omega) hL dL_law_938 dL_law_939 dL_law_941 rfl dL_law_942 dL_law_943 ?_
  refine L_rd (n := n) (j := 2) F hH.2.2.2 (lv_at hl 0 rfl) (lv_at hl 4 rfl) (by omega) hL dL_law_944 dL_law_945 dL_law_947 rfl dL_law_948 dL_law_949 ?_
  refine L_m (av := [.int (xs (6 * n + 1)), .int (xs (6 * n + 2))]) (rest := [.int r]) F P hH (mX6_advice l (gA Γ am) e2) hl.1 k5_221 qX6_advice rfl ⟨Nat.le_of_ble_eq_true rfl, Nat.le_of_ble_eq_true rfl⟩ hcs (Nat.le_of_ble_eq_true rfl) dL_law_950 (fun H locs hH => ?_)
  exact lv_icmp_eq (tgt := 1591) hx hb dL_law_953 (by decide) (fun _ => next _ _ _ _ _ _ _ _ _ R' hH hl) (fun h => absurd rfl h)
set_option maxHeartbeats 4000000 in
set_option maxRecDepth 100000 in
theorem L_news (F : Lf Γ p s m meth c b L xs) (P : Lp Γ s ac am ao) (hH : Lh Γ s ac am ao Sc Sm o H locs) (R : Rl Sc Sm x im sh) (hL : L ≤ 384) (hn : 6 * n + 5 < L) (hl : lv_has ls 8 (lws b ac am ao n)) (hcs : cells + 1 ≤ room_1.cells ∧ slots + 6 ≤ room_1.slots) (next : Lnx p l e s m below meth c (cells + 1) (slots + 6) Q Γ ac am ao b n) : W p l e room_1 s m #[Value.ref b] below meth c H locs cells slots Q (F0 m 958 ls []) := by
  obtain ⟨r, Sc', Sm', x', im', sh', e1, e2, R'⟩ := t_news R (xs (6 * n + 1)) (xs (6 * n + 2)) (xs (6 * n + 3)) (xs (6 * n + 4))
  have hx := F.1.1
  have hb := F.1.2.1
  refine W.widen (k := cells + 1) (n := slots + 6) (Nat.le_add_right _ _) (Nat.le_add_right _ _) ?_
  refine lv_aload_n hx hb dL_law_958 rfl (lv_at hl 1 rfl) ?_
  refine L_rd (n := n) (j := 1) F hH.2.2.2 (lv_at hl 0 rfl) (lv_at hl 4 rfl) (by omega) hL dL_law_959 dL_law_960 dL_law_962 rfl dL_law_963 dL_law_964 ?_
  refine L_rd (n := n) (j := 2) F hH.2.2.2 (lv_at hl 0 rfl) (lv_at hl 4 rfl) (by omega) hL dL_law_965 dL_law_966 dL_law_968 rfl dL_law_969 dL_law_970 ?_
  refine L_rd (n := n) (j := 3) F hH.2.2.2 (lv_at hl 0 rfl) (lv_at hl 4 rfl) (by omega) hL dL_law_971 dL_law_972 dL_law_974 rfl dL_law_975 dL_law_976 ?_
  refine L_rd (n := n) (j := 4) F hH.2.2.2 (lv_at hl 0 rfl) (lv_at hl 4 rfl) (by omega) hL dL_law_977 dL_law_978 dL_law_980 rfl dL_law_981 dL_law_982 ?_
  refine L_c (av := [.int (xs (6 * n + 1)), .int (xs (6 * n + 2)), .int (xs (6 * n + 3)), .int (xs (6 * n + 4))]) (rest := []) F P hH (mX5_news l (gA Γ ac) e1) hl.1 k3_41 qX5_news rfl ⟨Nat.le_of_ble_eq_true rfl, Nat.le_of_ble_eq_true rfl⟩ hcs (Nat.le_of_ble_eq_true rfl) dL_law_983 (fun H locs hH => ?_)
  refine lv_aload_n hx hb dL_law_986 rfl (lv_at hl 2 rfl) ?_
  refine L_rd (n := n) (j := 1) F hH.2.2.2 (lv_at hl 0 rfl) (lv_at hl 4 rfl) (by omega) hL dL_law_987 dL_law_988 dL_law_990 rfl dL_law_991 dL_law_992 ?_
  refine L_rd (n := n) (j := 2) F hH.2.2.2 (lv_at hl 0 rfl) (lv_at hl 4 rfl) (by omega) hL dL_law_993 dL_law_994 dL_law_996 rfl dL_law_997 dL_law_998 ?_
  refine L_rd (n := n) (j := 3) F hH.2.2.2 (lv_at hl 0 rfl) (lv_at hl 4 rfl) (by omega) hL dL_law_999 dL_law_1000 dL_law_1002 rfl dL_law_1003 dL_law_1004 ?_
  refine L_rd (n := n) (j := 4) F hH.2.2.2 (lv_at hl 0 rfl) (lv_at hl 4 rfl) (by omega) hL dL_law_1005 dL_law_1006 dL_law_1008 rfl dL_law_1009 dL_law_1010 ?_
  refine L_m (av := [.int (xs (6 * n + 1)), .int (xs (6 * n + 2)), .int (xs (6 * n + 3)), .int (xs (6 * n + 4))]) (rest := [.int r]) F P hH (mX6_news l (gA Γ am) e2) hl.1 k5_225 qX6_news rfl ⟨Nat.le_of_ble_eq_true rfl, Nat.le_of_ble_eq_true rfl⟩ hcs (Nat.le_of_ble_eq_true rfl) dL_law_1011 (fun H locs hH => ?_)
  exact lv_icmp_eq (tgt := 1591) hx hb dL_law_1014 (by decide) (fun _ => next _ _ _ _ _ _ _ _ _ R' hH hl) (fun h => absurd rfl h)
set_option maxHeartbeats 4000000 in
set_option maxRecDepth 100000 in
theorem L_grows (F : Lf Γ p s m meth c b L xs) (P : Lp Γ s ac am ao) (hH : Lh Γ s ac am ao Sc Sm o H locs) (R : Rl Sc Sm x im sh) (hL : L ≤ 384) (hn : 6 * n + 5 < L) (hl : lv_has ls 8 (lws b ac am ao n)) (hcs : cells + 1 ≤ room_1.cells ∧ slots + 6 ≤ room_1.slots) (next : Lnx p l e s m below meth c (cells + 1) (slots + 6) Q Γ ac am ao b n) : W p l e room_1 s m #[Value.ref b] below meth c H locs cells slots Q (F0 m 1019 ls []) := by
  obtain ⟨r, Sc', Sm', x', im', sh', e1, e2, R'⟩ := t_grows R (xs (6 * n + 1)) (xs (6 * n + 2)) (xs (6 * n + 3))
  have hx := F.1.1
  have hb := F.1.2.1
  refine W.widen (k := cells + 1) (n := slots + 6) (Nat.le_add_right _ _) (Nat.le_add_right _ _) ?_
  refine lv_aload_n hx hb dL_law_1019 rfl (lv_at hl 1 rfl) ?_
  refine L_rd (n := n) (j := 1) F hH.2.2.2 (lv_at hl 0 rfl) (lv_at hl 4 rfl) (by omega) hL dL_law_1020 dL_law_1021 dL_law_1023 rfl dL_law_1024 dL_law_1025 ?_
  refine L_rd (n := n) (j := 2) F hH.2.2.2 (lv_at hl 0 rfl) (lv_at hl 4 rfl) (by omega) hL dL_law_1026 dL_law_1027 dL_law_1029 rfl dL_law_1030 dL_law_1031 ?_
  refine L_rd (n := n) (j := 3) F hH.2.2.2 (lv_at hl 0 rfl) (lv_at hl 4 rfl) (by omega) hL dL_law_1032 dL_law_1033 dL_law_1035 rfl dL_law_1036 dL_law_1037 ?_
  refine L_c (av := [.int (xs (6 * n + 1)), .int (xs (6 * n + 2)), .int (xs (6 * n + 3))]) (rest := []) F P hH (mX5_grows l (gA Γ ac) e1) hl.1 k3_53 qX5_grows rfl ⟨Nat.le_of_ble_eq_true rfl, Nat.le_of_ble_eq_true rfl⟩ hcs (Nat.le_of_ble_eq_true rfl) dL_law_1038 (fun H locs hH => ?_)
  refine lv_aload_n hx hb dL_law_1041 rfl (lv_at hl 2 rfl) ?_
  refine L_rd (n := n) (j := 1) F hH.2.2.2 (lv_at hl 0 rfl) (lv_at hl 4 rfl) (by omega) hL dL_law_1042 dL_law_1043 dL_law_1045 rfl dL_law_1046 dL_law_1047 ?_
  refine L_rd (n := n) (j := 2) F hH.2.2.2 (lv_at hl 0 rfl) (lv_at hl 4 rfl) (by omega) hL dL_law_1048 dL_law_1049 dL_law_1051 rfl dL_law_1052 dL_law_1053 ?_
  refine L_rd (n := n) (j := 3) F hH.2.2.2 (lv_at hl 0 rfl) (lv_at hl 4 rfl) (by omega) hL dL_law_1054 dL_law_1055 dL_law_1057 rfl dL_law_1058 dL_law_1059 ?_
  refine L_m (av := [.int (xs (6 * n + 1)), .int (xs (6 * n + 2)), .int (xs (6 * n + 3))]) (rest := [.int r]) F P hH (mX6_grows l (gA Γ am) e2) hl.1 k5_239 qX6_grows rfl ⟨Nat.le_of_ble_eq_true rfl, Nat.le_of_ble_eq_true rfl⟩ hcs (Nat.le_of_ble_eq_true rfl) dL_law_1060 (fun H locs hH => ?_)
  exact lv_icmp_eq (tgt := 1591) hx hb dL_law_1063 (by decide) (fun _ => next _ _ _ _ _ _ _ _ _ R' hH hl) (fun h => absurd rfl h)
set_option maxHeartbeats 4000000 in
set_option maxRecDepth 100000 in
theorem L_other (F : Lf Γ p s m meth c b L xs) (P : Lp Γ s ac am ao) (hH : Lh Γ s ac am ao Sc Sm o H locs) (R : Rl Sc Sm x im sh) (hL : L ≤ 384) (hn : 6 * n + 5 < L) (hl : lv_has ls 8 (lws b ac am ao n)) (hcs : cells + 1 ≤ room_1.cells ∧ slots + 6 ≤ room_1.slots) (next : Lnx p l e s m below meth c (cells + 1) (slots + 6) Q Γ ac am ao b n) : W p l e room_1 s m #[Value.ref b] below meth c H locs cells slots Q (F0 m 1068 ls []) := by
  obtain ⟨r, Sc', Sm', x', im', sh', e1, e2, R'⟩ := t_other R (xs (6 * n + 1)) (xs (6 * n + 2)) (xs (6 * n + 3))
  have hx := F.1.1
  have hb := F.1.2.1
  refine W.widen (k := cells + 1) (n := slots + 6) (Nat.le_add_right _ _) (Nat.le_add_right _ _) ?_
  refine lv_aload_n hx hb dL_law_1068 rfl (lv_at hl 1 rfl) ?_
  refine L_rd (n := n) (j := 1) F hH.2.2.2 (lv_at hl 0 rfl) (lv_at hl 4 rfl) (by omega) hL dL_law_1069 dL_law_1070 dL_law_1072 rfl dL_law_1073 dL_law_1074 ?_
  refine L_rd (n := n) (j := 2) F hH.2.2.2 (lv_at hl 0 rfl) (lv_at hl 4 rfl) (by omega) hL dL_law_1075 dL_law_1076 dL_law_1078 rfl dL_law_1079 dL_law_1080 ?_
  refine L_rd (n := n) (j := 3) F hH.2.2.2 (lv_at hl 0 rfl) (lv_at hl 4 rfl) (by omega) hL dL_law_1081 dL_law_1082 dL_law_1084 rfl dL_law_1085 dL_law_1086 ?_
  refine L_c (av := [.int (xs (6 * n + 1)), .int (xs (6 * n + 2)), .int (xs (6 * n + 3))]) (rest := []) F P hH (mX5_other l (gA Γ ac) e1) hl.1 k3_64 qX5_other rfl ⟨Nat.le_of_ble_eq_true rfl, Nat.le_of_ble_eq_true rfl⟩ hcs (Nat.le_of_ble_eq_true rfl) dL_law_1087 (fun H locs hH => ?_)
  refine lv_aload_n hx hb dL_law_1090 rfl (lv_at hl 2 rfl) ?_
  refine L_rd (n := n) (j := 1) F hH.2.2.2 (lv_at hl 0 rfl) (lv_at hl 4 rfl) (by omega) hL dL_law_1091 dL_law_1092 dL_law_1094 rfl dL_law_1095 dL_law_1096 ?_
  refine L_rd (n := n) (j := 2) F hH.2.2.2 (lv_at hl 0 rfl) (lv_at hl 4 rfl) (by omega) hL dL_law_1097 dL_law_1098 dL_law_1100 rfl dL_law_1101 dL_law_1102 ?_
  refine L_rd (n := n) (j := 3) F hH.2.2.2 (lv_at hl 0 rfl) (lv_at hl 4 rfl) (by omega) hL dL_law_1103 dL_law_1104 dL_law_1106 rfl dL_law_1107 dL_law_1108 ?_
  refine L_m (av := [.int (xs (6 * n + 1)), .int (xs (6 * n + 2)), .int (xs (6 * n + 3))]) (rest := [.int r]) F P hH (mX6_other l (gA Γ am) e2) hl.1 k6_7 qX6_other rfl ⟨Nat.le_of_ble_eq_true rfl, Nat.le_of_ble_eq_true rfl⟩ hcs (Nat.le_of_ble_eq_true rfl) dL_law_1109 (fun H locs hH => ?_)
  exact lv_icmp_eq (tgt := 1591) hx hb dL_law_1112 (by decide) (fun _ => next _ _ _ _ _ _ _ _ _ R' hH hl) (fun h => absurd rfl h)
set_option maxHeartbeats 4000000 in
set_option maxRecDepth 100000 in
theorem L_seeded (F : Lf Γ p s m meth c b L xs) (P : Lp Γ s ac am ao) (hH : Lh Γ s ac am ao Sc Sm o H locs) (R : Rl Sc Sm x im sh) (hL : L ≤ 384) (hn : 6 * n + 5 < L) (hl : lv_has ls 8 (lws b ac am ao n)) (hcs : cells + 1 ≤ room_1.cells ∧ slots + 6 ≤ room_1.slots) (next : Lnx p l e s m below meth c (cells + 1) (slots + 6) Q Γ ac am ao b n) : W p l e room_1 s m #[Value.ref b] below meth c H locs cells slots Q (F0 m 1117 ls []) := by
  obtain ⟨r, Sc', Sm', x', im', sh', e1, e2, R'⟩ := t_seeded R (xs (6 * n + 1)) (xs (6 * n + 2)) (xs (6 * n + 3))
  have hx := F.1.1
  have hb := F.1.2.1
  refine W.widen (k := cells + 1) (n := slots + 6) (Nat.le_add_right _ _) (Nat.le_add_right _ _) ?_
  refine lv_aload_n hx hb dL_law_1117 rfl (lv_at hl 1 rfl) ?_
  refine L_rd (n := n) (j := 1) F hH.2.2.2 (lv_at hl 0 rfl) (lv_at hl 4 rfl) (by omega) hL dL_law_1118 dL_law_1119 dL_law_1121 rfl dL_law_1122 dL_law_1123 ?_
  refine L_rd (n := n) (j := 2) F hH.2.2.2 (lv_at hl 0 rfl) (lv_at hl 4 rfl) (by omega) hL dL_law_1124 dL_law_1125 dL_law_1127 rfl dL_law_1128 dL_law_1129 ?_
  refine L_rd (n := n) (j := 3) F hH.2.2.2 (lv_at hl 0 rfl) (lv_at hl 4 rfl) (by omega) hL dL_law_1130 dL_law_1131 dL_law_1133 rfl dL_law_1134 dL_law_1135 ?_
  refine L_c (av := [.int (xs (6 * n + 1)), .int (xs (6 * n + 2)), .int (xs (6 * n + 3))]) (rest := []) F P hH (mX5_seeded l (gA Γ ac) e1) hl.1 k3_68 qX5_seeded rfl ⟨Nat.le_of_ble_eq_true rfl, Nat.le_of_ble_eq_true rfl⟩ hcs (Nat.le_of_ble_eq_true rfl) dL_law_1136 (fun H locs hH => ?_)
  refine lv_aload_n hx hb dL_law_1139 rfl (lv_at hl 2 rfl) ?_
  refine L_rd (n := n) (j := 1) F hH.2.2.2 (lv_at hl 0 rfl) (lv_at hl 4 rfl) (by omega) hL dL_law_1140 dL_law_1141 dL_law_1143 rfl dL_law_1144 dL_law_1145 ?_
  refine L_rd (n := n) (j := 2) F hH.2.2.2 (lv_at hl 0 rfl) (lv_at hl 4 rfl) (by omega) hL dL_law_1146 dL_law_1147 dL_law_1149 rfl dL_law_1150 dL_law_1151 ?_
  refine L_rd (n := n) (j := 3) F hH.2.2.2 (lv_at hl 0 rfl) (lv_at hl 4 rfl) (by omega) hL dL_law_1152 dL_law_1153 dL_law_1155 rfl dL_law_1156 dL_law_1157 ?_
  refine L_m (av := [.int (xs (6 * n + 1)), .int (xs (6 * n + 2)), .int (xs (6 * n + 3))]) (rest := [.int r]) F P hH (mX6_seeded l (gA Γ am) e2) hl.1 k6_12 qX6_seeded rfl ⟨Nat.le_of_ble_eq_true rfl, Nat.le_of_ble_eq_true rfl⟩ hcs (Nat.le_of_ble_eq_true rfl) dL_law_1158 (fun H locs hH => ?_)
  exact lv_icmp_eq (tgt := 1591) hx hb dL_law_1161 (by decide) (fun _ => next _ _ _ _ _ _ _ _ _ R' hH hl) (fun h => absurd rfl h)
set_option maxHeartbeats 4000000 in
set_option maxRecDepth 100000 in
theorem L_judge (F : Lf Γ p s m meth c b L xs) (P : Lp Γ s ac am ao) (hH : Lh Γ s ac am ao Sc Sm o H locs) (R : Rl Sc Sm x im sh) (hL : L ≤ 384) (hn : 6 * n + 5 < L) (hl : lv_has ls 8 (lws b ac am ao n)) (hcs : cells + 1 ≤ room_1.cells ∧ slots + 6 ≤ room_1.slots) (next : Lnx p l e s m below meth c (cells + 1) (slots + 6) Q Γ ac am ao b n) : W p l e room_1 s m #[Value.ref b] below meth c H locs cells slots Q (F0 m 1166 ls []) := by
  obtain ⟨r, Sc', Sm', x', im', sh', e1, e2, R'⟩ := t_judge R (xs (6 * n + 1)) (xs (6 * n + 2))
  have hx := F.1.1
  have hb := F.1.2.1
  refine W.widen (k := cells + 1) (n := slots + 6) (Nat.le_add_right _ _) (Nat.le_add_right _ _) ?_
  refine lv_aload_n hx hb dL_law_1166 rfl (lv_at hl 1 rfl) ?_
  refine L_rd (n := n) (j := 1) F hH.2.2.2 (lv_at hl 0 rfl) (lv_at hl 4 rfl) (by omega) hL dL_law_1167 dL_law_1168 dL_law_1170 rfl dL_law_1171 dL_law_1172 ?_
  refine L_rd (n := n) (j := 2) F hH.2.2.2 (lv_at hl 0 rfl) (lv_at hl 4 rfl) (by omega) hL dL_law_1173 dL_law_1174 dL_law_1176 rfl dL_law_1177 dL_law_1178 ?_
  refine L_c (av := [.int (xs (6 * n + 1)), .int (xs (6 * n + 2))]) (rest := []) F P hH (mX5_judge l (gA Γ ac) e1) hl.1 k3_84 qX5_judge rfl ⟨Nat.le_of_ble_eq_true rfl, Nat.le_of_ble_eq_true rfl⟩ hcs (Nat.le_of_ble_eq_true rfl) dL_law_1179 (fun H locs hH => ?_)
  refine lv_aload_n hx hb dL_law_1182 rfl (lv_at hl 2 rfl) ?_
  refine L_rd (n := n) (j := 1) F hH.2.2.2 (lv_at hl 0 rfl) (lv_at hl 4 rfl) (by omega) hL dL_law_1183 dL_law_1184 dL_law_1186 rfl dL_law_1187 dL_law_1188 ?_
  refine L_rd (n := n) (j := 2) F hH.2.2.2 (lv_at hl 0 rfl) (lv_at hl 4 rfl) (by omega) hL dL_law_1189 dL_law_1190 dL_law_1192 rfl dL_law_1193 dL_law_1194 ?_
  refine L_m (av := [.int (xs (6 * n + 1)), .int (xs (6 * n + 2))]) (rest := [.int r]) F P hH (mX6_judge l (gA Γ am) e2) hl.1 k6_28 qX6_judge rfl ⟨Nat.le_of_ble_eq_true rfl, Nat.le_of_ble_eq_true rfl⟩ hcs (Nat.le_of_ble_eq_true rfl) dL_law_1195 (fun H locs hH => ?_)
  exact lv_icmp_eq (tgt := 1591) hx hb dL_law_1198 (by decide) (fun _ => next _ _ _ _ _ _ _ _ _ R' hH hl) (fun h => absurd rfl h)
set_option maxHeartbeats 4000000 in
set_option maxRecDepth 100000 in
theorem L_image (F : Lf Γ p s m meth c b L xs) (P : Lp Γ s ac am ao) (hH : Lh Γ s ac am ao Sc Sm o H locs) (R : Rl Sc Sm x im sh) (hL : L ≤ 384) (hn : 6 * n + 5 < L) (hl : lv_has ls 8 (lws b ac am ao n)) (hcs : cells + 1 ≤ room_1.cells ∧ slots + 6 ≤ room_1.slots) (next : Lnx p l e s m below meth c (cells + 1) (slots + 6) Q Γ ac am ao b n) : W p l e room_1 s m #[Value.ref b] below meth c H locs cells slots Q (F0 m 1203 ls []) := by
  obtain ⟨r, Sc', Sm', x', im', sh', e1, e2, R'⟩ := t_image R
  have hx := F.1.1
  have hb := F.1.2.1
  refine W.widen (k := cells + 1) (n := slots + 6) (Nat.le_add_right _ _) (Nat.le_add_right _ _) ?_
  refine lv_aload_n hx hb dL_law_1203 rfl (lv_at hl 1 rfl) ?_
  refine L_c (av := []) (rest := []) F P hH (mX5_image l (gA Γ ac) e1) hl.1 k3_93 qX5_image rfl ⟨Nat.le_of_ble_eq_true rfl, Nat.le_of_ble_eq_true rfl⟩ hcs (Nat.le_of_ble_eq_true rfl) dL_law_1204 (fun H locs hH => ?_)
  refine lv_aload_n hx hb dL_law_1207 rfl (lv_at hl 2 rfl) ?_
  refine L_m (av := []) (rest := [.int r]) F P hH (mX6_image l (gA Γ am) e2) hl.1 k4_186 qX6_image rfl ⟨Nat.le_of_ble_eq_true rfl, Nat.le_of_ble_eq_true rfl⟩ hcs (Nat.le_of_ble_eq_true rfl) dL_law_1208 (fun H locs hH => ?_)
  exact lv_icmp_eq (tgt := 1591) hx hb dL_law_1211 (by decide) (fun _ => next _ _ _ _ _ _ _ _ _ R' hH hl) (fun h => absurd rfl h)
set_option maxHeartbeats 4000000 in
set_option maxRecDepth 100000 in
theorem L_restore (F : Lf Γ p s m meth c b L xs) (P : Lp Γ s ac am ao) (hH : Lh Γ s ac am ao Sc Sm o H locs) (R : Rl Sc Sm x im sh) (hL : L ≤ 384) (hn : 6 * n + 5 < L) (hl : lv_has ls 8 (lws b ac am ao n)) (hcs : cells + 1 ≤ room_1.cells ∧ slots + 6 ≤ room_1.slots) (next : Lnx p l e s m below meth c (cells + 1) (slots + 6) Q Γ ac am ao b n) : W p l e room_1 s m #[Value.ref b] below meth c H locs cells slots Q (F0 m 1216 ls []) := by
  obtain ⟨r, Sc', Sm', x', im', sh', e1, e2, R'⟩ := t_restore R
  have hx := F.1.1
  have hb := F.1.2.1
  refine W.widen (k := cells + 1) (n := slots + 6) (Nat.le_add_right _ _) (Nat.le_add_right _ _) ?_
  refine lv_aload_n hx hb dL_law_1216 rfl (lv_at hl 1 rfl) ?_
  refine L_c (av := []) (rest := []) F P hH (mX5_restore l (gA Γ ac) e1) hl.1 k3_97 qX5_restore rfl ⟨Nat.le_of_ble_eq_true rfl, Nat.le_of_ble_eq_true rfl⟩ hcs (Nat.le_of_ble_eq_true rfl) dL_law_1217 (fun H locs hH => ?_)
  refine lv_aload_n hx hb dL_law_1220 rfl (lv_at hl 2 rfl) ?_
  refine L_m (av := []) (rest := [.int r]) F P hH (mX6_restore l (gA Γ am) e2) hl.1 k4_198 qX6_restore rfl ⟨Nat.le_of_ble_eq_true rfl, Nat.le_of_ble_eq_true rfl⟩ hcs (Nat.le_of_ble_eq_true rfl) dL_law_1221 (fun H locs hH => ?_)
  exact lv_icmp_eq (tgt := 1591) hx hb dL_law_1224 (by decide) (fun _ => next _ _ _ _ _ _ _ _ _ R' hH hl) (fun h => absurd rfl h)
set_option maxHeartbeats 4000000 in
set_option maxRecDepth 100000 in
theorem L_count (F : Lf Γ p s m meth c b L xs) (P : Lp Γ s ac am ao) (hH : Lh Γ s ac am ao Sc Sm o H locs) (R : Rl Sc Sm x im sh) (hL : L ≤ 384) (hn : 6 * n + 5 < L) (hl : lv_has ls 8 (lws b ac am ao n)) (hcs : cells + 1 ≤ room_1.cells ∧ slots + 6 ≤ room_1.slots) (next : Lnx p l e s m below meth c (cells + 1) (slots + 6) Q Γ ac am ao b n) : W p l e room_1 s m #[Value.ref b] below meth c H locs cells slots Q (F0 m 1229 ls []) := by
  obtain ⟨r, Sc', Sm', x', im', sh', e1, e2, R'⟩ := t_count R (xs (6 * n + 1))
  have hx := F.1.1
  have hb := F.1.2.1
  refine W.widen (k := cells + 1) (n := slots + 6) (Nat.le_add_right _ _) (Nat.le_add_right _ _) ?_
  refine lv_aload_n hx hb dL_law_1229 rfl (lv_at hl 1 rfl) ?_
  refine L_rd (n := n) (j := 1) F hH.2.2.2 (lv_at hl 0 rfl) (lv_at hl 4 rfl) (by omega) hL dL_law_1230 dL_law_1231 dL_law_1233 rfl dL_law_1234 dL_law_1235 ?_
  refine L_c (av := [.int (xs (6 * n + 1))]) (rest := []) F P hH (mX5_count l (gA Γ ac) e1) hl.1 k3_101 qX5_count rfl ⟨Nat.le_of_ble_eq_true rfl, Nat.le_of_ble_eq_true rfl⟩ hcs (Nat.le_of_ble_eq_true rfl) dL_law_1236 (fun H locs hH => ?_)
  refine lv_aload_n hx hb dL_law_1239 rfl (lv_at hl 2 rfl) ?_
  refine L_rd (n := n) (j := 1) F hH.2.2.2 (lv_at hl 0 rfl) (lv_at hl 4 rfl) (by omega) hL dL_law_1240 dL_law_1241 dL_law_1243 rfl dL_law_1244 dL_law_1245 ?_
  refine L_m (av := [.int (xs (6 * n + 1))]) (rest := [.int r]) F P hH (mX6_count l (gA Γ am) e2) hl.1 k6_39 qX6_count rfl ⟨Nat.le_of_ble_eq_true rfl, Nat.le_of_ble_eq_true rfl⟩ hcs (Nat.le_of_ble_eq_true rfl) dL_law_1246 (fun H locs hH => ?_)
  exact lv_icmp_eq (tgt := 1591) hx hb dL_law_1249 (by decide) (fun _ => next _ _ _ _ _ _ _ _ _ R' hH hl) (fun h => absurd rfl h)
set_option maxHeartbeats 4000000 in
set_option maxRecDepth 100000 in
theorem L_keep (F : Lf Γ p s m meth c b L xs) (P : Lp Γ s ac am ao) (hH : Lh Γ s ac am ao Sc Sm o H locs) (R : Rl Sc Sm x im sh) (hL : L ≤ 384) (hn : 6 * n + 5 < L) (hl : lv_has ls 8 (lws b ac am ao n)) (hcs : cells + 1 ≤ room_1.cells ∧ slots + 6 ≤ room_1.slots) (next : Lnx p l e s m below meth c (cells + 1) (slots + 6) Q Γ ac am ao b n) : W p l e room_1 s m #[Value.ref b] below meth c H locs cells slots Q (F0 m 1254 ls []) := by
  obtain ⟨r, Sc', Sm', x', im', sh', e1, e2, R'⟩ := t_keep R (xs (6 * n + 1)) (xs (6 * n + 2)) (xs (6 * n + 3))
  have hx := F.1.1
  have hb := F.1.2.1
  refine W.widen (k := cells + 1) (n := slots + 6) (Nat.le_add_right _ _) (Nat.le_add_right _ _) ?_
  refine lv_aload_n hx hb dL_law_1254 rfl (lv_at hl 1 rfl) ?_
  refine L_rd (n := n) (j := 1) F hH.2.2.2 (lv_at hl 0 rfl) (lv_at hl 4 rfl) (by omega) hL dL_law_1255 dL_law_1256 dL_law_1258 rfl dL_law_1259 dL_law_1260 ?_
  refine L_rd (n := n) (j := 2) F hH.2.2.2 (lv_at hl 0 rfl) (lv_at hl 4 rfl) (by omega) hL dL_law_1261 dL_law_1262 dL_law_1264 rfl dL_law_1265 dL_law_1266 ?_
  refine L_rd (n := n) (j := 3) F hH.2.2.2 (lv_at hl 0 rfl) (lv_at hl 4 rfl) (by omega) hL dL_law_1267 dL_law_1268 dL_law_1270 rfl dL_law_1271 dL_law_1272 ?_
  refine L_c (av := [.int (xs (6 * n + 1)), .int (xs (6 * n + 2)), .int (xs (6 * n + 3))]) (rest := []) F P hH (mX5_keep l (gA Γ ac) e1) hl.1 k3_115 qX5_keep rfl ⟨Nat.le_of_ble_eq_true rfl, Nat.le_of_ble_eq_true rfl⟩ hcs (Nat.le_of_ble_eq_true rfl) dL_law_1273 (fun H locs hH => ?_)
  refine lv_aload_n hx hb dL_law_1276 rfl (lv_at hl 2 rfl) ?_
  refine L_rd (n := n) (j := 1) F hH.2.2.2 (lv_at hl 0 rfl) (lv_at hl 4 rfl) (by omega) hL dL_law_1277 dL_law_1278 dL_law_1280 rfl dL_law_1281 dL_law_1282 ?_
  refine L_rd (n := n) (j := 2) F hH.2.2.2 (lv_at hl 0 rfl) (lv_at hl 4 rfl) (by omega) hL dL_law_1283 dL_law_1284 dL_law_1286 rfl dL_law_1287 dL_law_1288 ?_
  refine L_rd (n := n) (j := 3) F hH.2.2.2 (lv_at hl 0 rfl) (lv_at hl 4 rfl) (by omega) hL dL_law_1289 dL_law_1290 dL_law_1292 rfl dL_law_1293 dL_law_1294 ?_
  refine L_m (av := [.int (xs (6 * n + 1)), .int (xs (6 * n + 2)), .int (xs (6 * n + 3))]) (rest := [.int r]) F P hH (mX6_keep l (gA Γ am) e2) hl.1 k6_43 qX6_keep rfl ⟨Nat.le_of_ble_eq_true rfl, Nat.le_of_ble_eq_true rfl⟩ hcs (Nat.le_of_ble_eq_true rfl) dL_law_1295 (fun H locs hH => ?_)
  exact lv_icmp_eq (tgt := 1591) hx hb dL_law_1298 (by decide) (fun _ => next _ _ _ _ _ _ _ _ _ R' hH hl) (fun h => absurd rfl h)
set_option maxHeartbeats 4000000 in
set_option maxRecDepth 100000 in
theorem L_row (F : Lf Γ p s m meth c b L xs) (P : Lp Γ s ac am ao) (hH : Lh Γ s ac am ao Sc Sm o H locs) (R : Rl Sc Sm x im sh) (hL : L ≤ 384) (hn : 6 * n + 5 < L) (hl : lv_has ls 8 (lws b ac am ao n)) (hcs : cells + 1 ≤ room_1.cells ∧ slots + 6 ≤ room_1.slots) (next : Lnx p l e s m below meth c (cells + 1) (slots + 6) Q Γ ac am ao b n) : W p l e room_1 s m #[Value.ref b] below meth c H locs cells slots Q (F0 m 1303 ls []) := by
  obtain ⟨r, Sc', Sm', x', im', sh', e1, e2, R'⟩ := t_row R (xs (6 * n + 1)) (xs (6 * n + 2)) (xs (6 * n + 3))
  have hx := F.1.1
  have hb := F.1.2.1
  refine W.widen (k := cells + 1) (n := slots + 6) (Nat.le_add_right _ _) (Nat.le_add_right _ _) ?_
  refine lv_aload_n hx hb dL_law_1303 rfl (lv_at hl 1 rfl) ?_
  refine L_rd (n := n) (j := 1) F hH.2.2.2 (lv_at hl 0 rfl) (lv_at hl 4 rfl) (by omega) hL dL_law_1304 dL_law_1305 dL_law_1307 rfl dL_law_1308 dL_law_1309 ?_
  refine L_rd (n := n) (j := 2) F hH.2.2.2 (lv_at hl 0 rfl) (lv_at hl 4 rfl) (by omega) hL dL_law_1310 dL_law_1311 dL_law_1313 rfl dL_law_1314 dL_law_1315 ?_
  refine L_rd (n := n) (j := 3) F hH.2.2.2 (lv_at hl 0 rfl) (lv_at hl 4 rfl) (by omega) hL dL_law_1316 dL_law_1317 dL_law_1319 rfl dL_law_1320 dL_law_1321 ?_
  refine L_c (av := [.int (xs (6 * n + 1)), .int (xs (6 * n + 2)), .int (xs (6 * n + 3))]) (rest := []) F P hH (mX5_row l (gA Γ ac) e1) hl.1 k3_127 qX5_row rfl ⟨Nat.le_of_ble_eq_true rfl, Nat.le_of_ble_eq_true rfl⟩ hcs (Nat.le_of_ble_eq_true rfl) dL_law_1322 (fun H locs hH => ?_)
  refine lv_aload_n hx hb dL_law_1325 rfl (lv_at hl 2 rfl) ?_
  refine L_rd (n := n) (j := 1) F hH.2.2.2 (lv_at hl 0 rfl) (lv_at hl 4 rfl) (by omega) hL dL_law_1326 dL_law_1327 dL_law_1329 rfl dL_law_1330 dL_law_1331 ?_
  refine L_rd (n := n) (j := 2) F hH.2.2.2 (lv_at hl 0 rfl) (lv_at hl 4 rfl) (by omega) hL dL_law_1332 dL_law_1333 dL_law_1335 rfl dL_law_1336 dL_law_1337 ?_
  refine L_rd (n := n) (j := 3) F hH.2.2.2 (lv_at hl 0 rfl) (lv_at hl 4 rfl) (by omega) hL dL_law_1338 dL_law_1339 dL_law_1341 rfl dL_law_1342 dL_law_1343 ?_
  refine L_m (av := [.int (xs (6 * n + 1)), .int (xs (6 * n + 2)), .int (xs (6 * n + 3))]) (rest := [.int r]) F P hH (mX6_row l (gA Γ am) e2) hl.1 k6_47 qX6_row rfl ⟨Nat.le_of_ble_eq_true rfl, Nat.le_of_ble_eq_true rfl⟩ hcs (Nat.le_of_ble_eq_true rfl) dL_law_1344 (fun H locs hH => ?_)
  exact lv_icmp_eq (tgt := 1591) hx hb dL_law_1347 (by decide) (fun _ => next _ _ _ _ _ _ _ _ _ R' hH hl) (fun h => absurd rfl h)
set_option maxHeartbeats 4000000 in
set_option maxRecDepth 100000 in
theorem L_put (F : Lf Γ p s m meth c b L xs) (P : Lp Γ s ac am ao) (hH : Lh Γ s ac am ao Sc Sm o H locs) (R : Rl Sc Sm x im sh) (hL : L ≤ 384) (hn : 6 * n + 5 < L) (hl : lv_has ls 8 (lws b ac am ao n)) (hcs : cells + 1 ≤ room_1.cells ∧ slots + 6 ≤ room_1.slots) (next : Lnx p l e s m below meth c (cells + 1) (slots + 6) Q Γ ac am ao b n) : W p l e room_1 s m #[Value.ref b] below meth c H locs cells slots Q (F0 m 1352 ls []) := by
  obtain ⟨r, Sc', Sm', x', im', sh', e1, e2, R'⟩ := t_put R (xs (6 * n + 1)) (xs (6 * n + 2)) (xs (6 * n + 3))
  have hx := F.1.1
  have hb := F.1.2.1
  refine W.widen (k := cells + 1) (n := slots + 6) (Nat.le_add_right _ _) (Nat.le_add_right _ _) ?_
  refine lv_aload_n hx hb dL_law_1352 rfl (lv_at hl 1 rfl) ?_
  refine L_rd (n := n) (j := 1) F hH.2.2.2 (lv_at hl 0 rfl) (lv_at hl 4 rfl) (by omega) hL dL_law_1353 dL_law_1354 dL_law_1356 rfl dL_law_1357 dL_law_1358 ?_
  refine L_rd (n := n) (j := 2) F hH.2.2.2 (lv_at hl 0 rfl) (lv_at hl 4 rfl) (by omega) hL dL_law_1359 dL_law_1360 dL_law_1362 rfl dL_law_1363 dL_law_1364 ?_
  refine L_rd (n := n) (j := 3) F hH.2.2.2 (lv_at hl 0 rfl) (lv_at hl 4 rfl) (by omega) hL dL_law_1365 dL_law_1366 dL_law_1368 rfl dL_law_1369 dL_law_1370 ?_
  refine L_c (av := [.int (xs (6 * n + 1)), .int (xs (6 * n + 2)), .int (xs (6 * n + 3))]) (rest := []) F P hH (mX5_put l (gA Γ ac) e1) hl.1 k3_135 qX5_put rfl ⟨Nat.le_of_ble_eq_true rfl, Nat.le_of_ble_eq_true rfl⟩ hcs (Nat.le_of_ble_eq_true rfl) dL_law_1371 (fun H locs hH => ?_)
  refine lv_aload_n hx hb dL_law_1374 rfl (lv_at hl 2 rfl) ?_
  refine L_rd (n := n) (j := 1) F hH.2.2.2 (lv_at hl 0 rfl) (lv_at hl 4 rfl) (by omega) hL dL_law_1375 dL_law_1376 dL_law_1378 rfl dL_law_1379 dL_law_1380 ?_
  refine L_rd (n := n) (j := 2) F hH.2.2.2 (lv_at hl 0 rfl) (lv_at hl 4 rfl) (by omega) hL dL_law_1381 dL_law_1382 dL_law_1384 rfl dL_law_1385 dL_law_1386 ?_
  refine L_rd (n := n) (j := 3) F hH.2.2.2 (lv_at hl 0 rfl) (lv_at hl 4 rfl) (by omega) hL dL_law_1387 dL_law_1388 dL_law_1390 rfl dL_law_1391 dL_law_1392 ?_
  refine L_m (av := [.int (xs (6 * n + 1)), .int (xs (6 * n + 2)), .int (xs (6 * n + 3))]) (rest := [.int r]) F P hH (mX6_put l (gA Γ am) e2) hl.1 k6_51 qX6_put rfl ⟨Nat.le_of_ble_eq_true rfl, Nat.le_of_ble_eq_true rfl⟩ hcs (Nat.le_of_ble_eq_true rfl) dL_law_1393 (fun H locs hH => ?_)
  exact lv_icmp_eq (tgt := 1591) hx hb dL_law_1396 (by decide) (fun _ => next _ _ _ _ _ _ _ _ _ R' hH hl) (fun h => absurd rfl h)
set_option maxHeartbeats 4000000 in
set_option maxRecDepth 100000 in
theorem L_copy (F : Lf Γ p s m meth c b L xs) (P : Lp Γ s ac am ao) (hH : Lh Γ s ac am ao Sc Sm o H locs) (R : Rl Sc Sm x im sh) (hL : L ≤ 384) (hn : 6 * n + 5 < L) (hl : lv_has ls 8 (lws b ac am ao n)) (hcs : cells + 1 ≤ room_1.cells ∧ slots + 6 ≤ room_1.slots) (next : Lnx p l e s m below meth c (cells + 1) (slots + 6) Q Γ ac am ao b n) : W p l e room_1 s m #[Value.ref b] below meth c H locs cells slots Q (F0 m 1468 ls []) := by
  obtain ⟨r, Sc', Sm', x', im', sh', e1, e2, R'⟩ := t_copy R (xs (6 * n + 1)) (xs (6 * n + 2)) (xs (6 * n + 3)) (xs (6 * n + 4)) (xs (6 * n + 5))
  have hx := F.1.1
  have hb := F.1.2.1
  refine W.widen (k := cells + 1) (n := slots + 6) (Nat.le_add_right _ _) (Nat.le_add_right _ _) ?_
  refine lv_aload_n hx hb dL_law_1468 rfl (lv_at hl 1 rfl) ?_
  refine L_rd (n := n) (j := 1) F hH.2.2.2 (lv_at hl 0 rfl) (lv_at hl 4 rfl) (by omega) hL dL_law_1469 dL_law_1470 dL_law_1472 rfl dL_law_1473 dL_law_1474 ?_
  refine L_rd (n := n) (j := 2) F hH.2.2.2 (lv_at hl 0 rfl) (lv_at hl 4 rfl) (by omega) hL dL_law_1475 dL_law_1476 dL_law_1478 rfl dL_law_1479 dL_law_1480 ?_
  refine L_rd (n := n) (j := 3) F hH.2.2.2 (lv_at hl 0 rfl) (lv_at hl 4 rfl) (by omega) hL dL_law_1481 dL_law_1482 dL_law_1484 rfl dL_law_1485 dL_law_1486 ?_
  refine L_rd (n := n) (j := 4) F hH.2.2.2 (lv_at hl 0 rfl) (lv_at hl 4 rfl) (by omega) hL dL_law_1487 dL_law_1488 dL_law_1490 rfl dL_law_1491 dL_law_1492 ?_
  refine L_rd (n := n) (j := 5) F hH.2.2.2 (lv_at hl 0 rfl) (lv_at hl 4 rfl) (by omega) hL dL_law_1493 dL_law_1494 dL_law_1496 rfl dL_law_1497 dL_law_1498 ?_
  refine L_c (av := [.int (xs (6 * n + 1)), .int (xs (6 * n + 2)), .int (xs (6 * n + 3)), .int (xs (6 * n + 4)), .int (xs (6 * n + 5))]) (rest := []) F P hH (mX5_copy l (gA Γ ac) e1) hl.1 k3_144 qX5_copy rfl ⟨Nat.le_of_ble_eq_true rfl, Nat.le_of_ble_eq_true rfl⟩ hcs (Nat.le_of_ble_eq_true rfl) dL_law_1499 (fun H locs hH => ?_)
  refine lv_aload_n hx hb dL_law_1502 rfl (lv_at hl 2 rfl) ?_
  refine L_rd (n := n) (j := 1) F hH.2.2.2 (lv_at hl 0 rfl) (lv_at hl 4 rfl) (by omega) hL dL_law_1503 dL_law_1504 dL_law_1506 rfl dL_law_1507 dL_law_1508 ?_
  refine L_rd (n := n) (j := 2) F hH.2.2.2 (lv_at hl 0 rfl) (lv_at hl 4 rfl) (by omega) hL dL_law_1509 dL_law_1510 dL_law_1512 rfl dL_law_1513 dL_law_1514 ?_
  refine L_rd (n := n) (j := 3) F hH.2.2.2 (lv_at hl 0 rfl) (lv_at hl 4 rfl) (by omega) hL dL_law_1515 dL_law_1516 dL_law_1518 rfl dL_law_1519 dL_law_1520 ?_
  refine L_rd (n := n) (j := 4) F hH.2.2.2 (lv_at hl 0 rfl) (lv_at hl 4 rfl) (by omega) hL dL_law_1521 dL_law_1522 dL_law_1524 rfl dL_law_1525 dL_law_1526 ?_
  refine L_rd (n := n) (j := 5) F hH.2.2.2 (lv_at hl 0 rfl) (lv_at hl 4 rfl) (by omega) hL dL_law_1527 dL_law_1528 dL_law_1530 rfl dL_law_1531 dL_law_1532 ?_
  refine L_m (av := [.int (xs (6 * n + 1)), .int (xs (6 * n + 2)), .int (xs (6 * n + 3)), .int (xs (6 * n + 4)), .int (xs (6 * n + 5))]) (rest := [.int r]) F P hH (mX6_copy l (gA Γ am) e2) hl.1 k6_62 qX6_copy rfl ⟨Nat.le_of_ble_eq_true rfl, Nat.le_of_ble_eq_true rfl⟩ hcs (Nat.le_of_ble_eq_true rfl) dL_law_1533 (fun H locs hH => ?_)
  exact lv_icmp_eq (tgt := 1591) hx hb dL_law_1536 (by decide) (fun _ => next _ _ _ _ _ _ _ _ _ R' hH hl) (fun h => absurd rfl h)
set_option maxHeartbeats 4000000 in
set_option maxRecDepth 100000 in
theorem L_toll (F : Lf Γ p s m meth c b L xs) (P : Lp Γ s ac am ao) (hH : Lh Γ s ac am ao Sc Sm o H locs) (R : Rl Sc Sm x im sh) (hL : L ≤ 384) (hn : 6 * n + 5 < L) (hl : lv_has ls 8 (lws b ac am ao n)) (hcs : cells + 1 ≤ room_1.cells ∧ slots + 6 ≤ room_1.slots) (next : Lnx p l e s m below meth c (cells + 1) (slots + 6) Q Γ ac am ao b n) : W p l e room_1 s m #[Value.ref b] below meth c H locs cells slots Q (F0 m 1541 ls []) := by
  obtain ⟨r, Sc', Sm', x', im', sh', e1, e2, R'⟩ := t_toll R (xs (6 * n + 1))
  have hx := F.1.1
  have hb := F.1.2.1
  refine W.widen (k := cells + 1) (n := slots + 6) (Nat.le_add_right _ _) (Nat.le_add_right _ _) ?_
  refine lv_aload_n hx hb dL_law_1541 rfl (lv_at hl 1 rfl) ?_
  refine L_rd (n := n) (j := 1) F hH.2.2.2 (lv_at hl 0 rfl) (lv_at hl 4 rfl) (by omega) hL dL_law_1542 dL_law_1543 dL_law_1545 rfl dL_law_1546 dL_law_1547 ?_
  refine L_c (av := [.int (xs (6 * n + 1))]) (rest := []) F P hH (mX5_toll l (gA Γ ac) e1) hl.1 k3_153 qX5_toll rfl ⟨Nat.le_of_ble_eq_true rfl, Nat.le_of_ble_eq_true rfl⟩ hcs (Nat.le_of_ble_eq_true rfl) dL_law_1548 (fun H locs hH => ?_)
  refine lv_aload_n hx hb dL_law_1551 rfl (lv_at hl 2 rfl) ?_
  refine L_rd (n := n) (j := 1) F hH.2.2.2 (lv_at hl 0 rfl) (lv_at hl 4 rfl) (by omega) hL dL_law_1552 dL_law_1553 dL_law_1555 rfl dL_law_1556 dL_law_1557 ?_
  refine L_m (av := [.int (xs (6 * n + 1))]) (rest := [.int r]) F P hH (mX6_toll l (gA Γ am) e2) hl.1 k6_66 qX6_toll rfl ⟨Nat.le_of_ble_eq_true rfl, Nat.le_of_ble_eq_true rfl⟩ hcs (Nat.le_of_ble_eq_true rfl) dL_law_1558 (fun H locs hH => ?_)
  exact lv_icmp_eq (tgt := 1591) hx hb dL_law_1561 (by decide) (fun _ => next _ _ _ _ _ _ _ _ _ R' hH hl) (fun h => absurd rfl h)
set_option maxHeartbeats 4000000 in
set_option maxRecDepth 100000 in
theorem L_toss (hl0 : l.stackTraces = false) (F : Lf Γ p s m meth c b L xs) (P : Lp Γ s ac am ao) (hH : Lh Γ s ac am ao Sc Sm o H locs) (R : Rl Sc Sm x im sh) (hL : L ≤ 384) (hn : 6 * n + 5 < L) (hl : lv_has ls 8 (lws b ac am ao n)) (hcs : cells + 1 ≤ room_1.cells ∧ slots + 6 ≤ room_1.slots) (next : Lnx p l e s m below meth c (cells + 1) (slots + 6) Q Γ ac am ao b n) : W p l e room_1 s m #[Value.ref b] below meth c H locs cells slots Q (F0 m 1566 ls []) := by
  obtain ⟨r, Sc', Sm', x', im', sh', e1, e2, R'⟩ := t_toss R (xs (6 * n + 1))
  have hx := F.1.1
  have hb := F.1.2.1
  refine lv_aload_n hx hb dL_law_1566 rfl (lv_at hl 1 rfl) ?_
  refine L_rd (n := n) (j := 1) F hH.2.2.2 (lv_at hl 0 rfl) (lv_at hl 4 rfl) (by omega) hL dL_law_1567 dL_law_1568 dL_law_1570 rfl dL_law_1571 dL_law_1572 ?_
  refine L_t (av := [.int (xs (6 * n + 1))]) (rest := []) F P hH (x_toss l hl0 (gA Γ ac) e1) hl.1 k3_164 k3_165 k3_166 k1_1 k3_167 qX5_ts rfl ⟨Nat.le_of_ble_eq_true rfl, Nat.le_of_ble_eq_true rfl⟩ hcs (Nat.le_of_ble_eq_true rfl) dL_law_1573 (fun H locs hH => ?_)
  refine lv_aload_n hx hb dL_law_1576 rfl (lv_at hl 2 rfl) ?_
  refine L_rd (n := n) (j := 1) F hH.2.2.2 (lv_at hl 0 rfl) (lv_at hl 4 rfl) (by omega) hL dL_law_1577 dL_law_1578 dL_law_1580 rfl dL_law_1581 dL_law_1582 ?_
  refine L_m (av := [.int (xs (6 * n + 1))]) (rest := [.int r]) F P hH (mX6_toss l (gA Γ am) e2) hl.1 k6_78 qX6_toss rfl ⟨Nat.le_of_ble_eq_true rfl, Nat.le_of_ble_eq_true rfl⟩ hcs (Nat.le_of_ble_eq_true rfl) dL_law_1583 (fun H locs hH => ?_)
  exact lv_icmp_eq (tgt := 1591) hx hb dL_law_1586 (by decide) (fun _ => next _ _ _ _ _ _ _ _ _ R' hH hl) (fun h => absurd rfl h)
set_option maxHeartbeats 4000000 in
set_option maxRecDepth 100000 in
theorem L_element (hl0 : l.stackTraces = false) (F : Lf Γ p s m meth c b L xs) (P : Lp Γ s ac am ao) (hH : Lh Γ s ac am ao Sc Sm o H locs) (R : Rl Sc Sm x im sh) (hL : L ≤ 384) (hn : 6 * n + 5 < L) (hl : lv_has ls 8 (lws b ac am ao n)) (hcs : cells + 1 ≤ room_1.cells ∧ slots + 6 ≤ room_1.slots) (next : Lnx p l e s m below meth c (cells + 1) (slots + 6) Q Γ ac am ao b n) : W p l e room_1 s m #[Value.ref b] below meth c H locs cells slots Q (F0 m 1401 ls []) := by
  obtain ⟨k, v, w, Sm', e1, e2, e3, hk, hvw, R'⟩ := t_element R (xs (6 * n + 1)) (xs (6 * n + 2))
  have e4 : fX6_thrown Sm' = some (nI k, Sm') := by unfold fX6_thrown; rw [e3]
  have hx := F.1.1
  have hb := F.1.2.1
  refine lv_aload_n hx hb dL_law_1401 rfl (lv_at hl 1 rfl) ?_
  refine L_rd (n := n) (j := 1) F hH.2.2.2 (lv_at hl 0 rfl) (lv_at hl 4 rfl) (by omega) hL dL_law_1402 dL_law_1403 dL_law_1405 rfl dL_law_1406 dL_law_1407 ?_
  refine L_rd (n := n) (j := 2) F hH.2.2.2 (lv_at hl 0 rfl) (lv_at hl 4 rfl) (by omega) hL dL_law_1408 dL_law_1409 dL_law_1411 rfl dL_law_1412 dL_law_1413 ?_
  refine lv_aload_n hx hb dL_law_1414 rfl (lv_at hl 3 rfl) ?_
  refine L_e (rest := []) hl0 F P hH hk e1 hl.1 k4_34 ⟨Nat.le_of_ble_eq_true rfl, Nat.le_of_ble_eq_true rfl⟩ hcs (Nat.le_of_ble_eq_true rfl) dL_law_1415 (fun u H locs hu hH => ?_)
  refine lv_istore (lv' := [(5, .int (nI k)), (0, .ref b), (1, .ref (ac 0)), (2, .ref (am 0)), (3, .ref ao), (4, .int (nI (6 * n)))]) hx hb dL_law_1418 hl (by decide) rfl (fun ls hl => ?_)
  refine lv_aload_n hx hb dL_law_1420 rfl (lv_at hl 3 rfl) ?_
  refine L_rd (n := n) (j := 1) F hH.2.2.2 (lv_at hl 1 rfl) (lv_at hl 5 rfl) (by omega) hL dL_law_1421 dL_law_1422 dL_law_1424 rfl dL_law_1425 dL_law_1426 ?_
  refine L_rd (n := n) (j := 2) F hH.2.2.2 (lv_at hl 1 rfl) (lv_at hl 5 rfl) (by omega) hL dL_law_1427 dL_law_1428 dL_law_1430 rfl dL_law_1431 dL_law_1432 ?_
  refine L_ml (av := [.int (xs (6 * n + 1)), .int (xs (6 * n + 2))]) (rest := []) F P hH (mX6_element l (gA Γ am) e2) hl.1 k6_58 qX6_element rfl ⟨Nat.le_of_ble_eq_true rfl, Nat.le_of_ble_eq_true rfl⟩ hcs (Nat.le_of_ble_eq_true rfl) dL_law_1433 (fun H locs hH => ?_)
  refine lv_lstore (lv' := [(6, .long w), (5, .int (nI k)), (0, .ref b), (1, .ref (ac 0)), (2, .ref (am 0)), (3, .ref ao), (4, .int (nI (6 * n)))]) hx hb dL_law_1436 hl (by decide) rfl (fun ls hl => ?_)
  refine lv_aload_n hx hb dL_law_1438 rfl (lv_at hl 4 rfl) ?_
  refine L_m (av := []) (rest := []) F P hH (mX6_thrown l (gA Γ am) e4) hl.1 k4_182 qX6_thrown rfl ⟨Nat.le_of_ble_eq_true rfl, Nat.le_of_ble_eq_true rfl⟩ hcs (Nat.le_of_ble_eq_true rfl) dL_law_1439 (fun H locs hH => ?_)
  refine lv_iload hx hb dL_law_1442 (lv_at hl 1 rfl) ?_
  refine lv_icmp_eq (tgt := 1449) hx hb dL_law_1444 (by decide) (fun _ => ?_) (fun h => absurd rfl h)
  refine lv_iload hx hb dL_law_1449 (lv_at hl 1 rfl) ?_
  have hl' : lv_has ls 8 (lws b ac am ao n) := lv_sub hl [2, 3, 4, 5, 6] rfl
  have fin : ∀ (ls : Array Slot), lv_has ls 8 (lws b ac am ao n) → W p l e room_1 s m #[Value.ref b] below meth c H locs (cells + 1) (slots + 6) Q (F0 m 1465 ls []) := fun ls hl => lv_goto (tgt := 1591) hx hb dL_law_1465 (by decide) (next _ _ _ _ _ _ _ _ _ R' hH hl)
  refine lv_if_ne (tgt := 1465) hx hb dL_law_1451 (by decide) (fun _ => fin ls hl') (fun h0 => ?_)
  have hk0 : k = 0 := by
    rcases (show k = 0 ∨ k = 1 ∨ k = 2 by omega) with rfl | rfl | rfl
    · rfl
    · exact absurd h0 (by decide)
    · exact absurd h0 (by decide)
  refine lv_aload_n hx hb dL_law_1454 rfl (lv_at hl 5 rfl) ?_
  refine lv_iconst (v := 0) hx hb dL_law_1455 rfl ?_
  refine va_lald (D := Γ.1) (cl := vwCl) (tys := gty Γ) (ws := oW Γ ao u) hx hb F.2.2.2.1.1 hH.2.2.1 0 3 rfl rfl (by unfold vp_in; decide) dL_law_1456 ?_
  refine lv_lload hx hb dL_law_1457 (lv_at hl 0 rfl) ?_
  refine W.lcmp hx hb dL_law_1459 ?_
  have hz : lg_cmp (u (0 : Int32).toNatClampNeg) w = 0 := by
    have hu0 : u (0 : Int32).toNatClampNeg = w := (hu hk0).trans (hvw hk0)
    rw [hu0]
    simp [lg_cmp]
  rw [hz]
  exact lv_if_eq (tgt := 1465) hx hb dL_law_1460 (by decide) (fun _ => fin ls hl') (fun h => absurd rfl h)
end Lc
