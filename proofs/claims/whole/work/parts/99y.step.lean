/-! B: the step. -/
section
variable {T : Knd} {A : Rfs} {I J K M : Mem} {O O' : Ofc} {nx : Nat} {op a1 a2 a3 a4 a5 : Int}
theorem hs_67 (b : Bas T A O I) (c : Cch O I) (r : Rst4 T A nx I) (n2 : cn a2) (n4 : cn a4) (n5 : cn a5) : Nxt (lst_67 1 129 op a1 a2 a3 a4 a5 T A nx I) := by
  unfold lst_67
  by_cases d : op = 67
  · rw [if_pos d]
    have z := st_l b c r (q_paste (a1 := a1) (a3 := a3) b.1 r.2.2.1 n2 n4 n5)
    exact z
  · rw [if_neg d]
    exact ⟨_, rfl, O, b, c, r⟩
theorem hs_66 (b : Bas T A O I) (c : Cch O I) (r : Rst4 T A nx I) (n2 : cn a2) (n4 : cn a4) (n5 : cn a5) : Nxt (lst_66 1 129 op a1 a2 a3 a4 a5 T A nx I) := by
  unfold lst_66
  by_cases d : op = 66
  · rw [if_pos d]
    have z := st_l b c r (q_write b.1 r.2.2.1 a1 a2 (ilor (ilshl a3 32) (iland a4 4294967295)))
    exact z
  · rw [if_neg d]
    exact hs_67 b c r n2 n4 n5
theorem hs_65 (b : Bas T A O I) (c : Cch O I) (r : Rst4 T A nx I) (n2 : cn a2) (n4 : cn a4) (n5 : cn a5) : Nxt (lst_65 1 129 op a1 a2 a3 a4 a5 T A nx I) := by
  unfold lst_65
  by_cases d : op = 65
  · rw [if_pos d]
    have z := st_l b c r (q_row b.1 r.2.2.1 a1 a2 a3)
    exact z
  · rw [if_neg d]
    exact hs_66 b c r n2 n4 n5
theorem hs_64 (b : Bas T A O I) (c : Cch O I) (r : Rst4 T A nx I) (n2 : cn a2) (n4 : cn a4) (n5 : cn a5) : Nxt (lst_64 1 129 op a1 a2 a3 a4 a5 T A nx I) := by
  unfold lst_64
  by_cases d : op = 64
  · rw [if_pos d]
    have z := st_b r (s_back b c r.2.2.2 a1)
    exact z
  · rw [if_neg d]
    exact hs_65 b c r n2 n4 n5
theorem hs_63 (b : Bas T A O I) (c : Cch O I) (r : Rst4 T A nx I) (n2 : cn a2) (n4 : cn a4) (n5 : cn a5) : Nxt (lst_63 1 129 op a1 a2 a3 a4 a5 T A nx I) := by
  unfold lst_63
  by_cases d : op = 63
  · rw [if_pos d]
    have z := st_p (s_keep b c r.1 r.2.1 r.2.2.1 r.2.2.2 a1)
    exact z
  · rw [if_neg d]
    exact hs_64 b c r n2 n4 n5
theorem hs_62 (b : Bas T A O I) (c : Cch O I) (r : Rst4 T A nx I) (n2 : cn a2) (n4 : cn a4) (n5 : cn a5) : Nxt (lst_62 1 129 op a1 a2 a3 a4 a5 T A nx I) := by
  unfold lst_62
  by_cases d : op = 62
  · rw [if_pos d]
    have z := st_q b c r (q_count b r.1 r.2.2.1 a1)
    exact z
  · rw [if_neg d]
    exact hs_63 b c r n2 n4 n5
theorem hs_61 (b : Bas T A O I) (c : Cch O I) (r : Rst4 T A nx I) (n2 : cn a2) (n4 : cn a4) (n5 : cn a5) : Nxt (lst_61 1 129 op a1 a2 a3 a4 a5 T A nx I) := by
  unfold lst_61
  by_cases d : op = 61
  · rw [if_pos d]
    have z := st_o c r (s_wants b a1)
    exact z
  · rw [if_neg d]
    exact hs_62 b c r n2 n4 n5
theorem hs_60 (b : Bas T A O I) (c : Cch O I) (r : Rst4 T A nx I) (n2 : cn a2) (n4 : cn a4) (n5 : cn a5) : Nxt (lst_60 1 129 op a1 a2 a3 a4 a5 T A nx I) := by
  unfold lst_60
  by_cases d : op = 60
  · rw [if_pos d]
    have z := st_o c r (s_leave b a1 a2 a3)
    exact z
  · rw [if_neg d]
    exact hs_61 b c r n2 n4 n5
theorem hs_59 (b : Bas T A O I) (c : Cch O I) (r : Rst4 T A nx I) (n2 : cn a2) (n4 : cn a4) (n5 : cn a5) : Nxt (lst_59 1 129 op a1 a2 a3 a4 a5 T A nx I) := by
  unfold lst_59
  by_cases d : op = 59
  · rw [if_pos d]
    have z := st_o c r (s_ask b a1 a2 a3 a4)
    exact z
  · rw [if_neg d]
    exact hs_60 b c r n2 n4 n5
theorem hs_58 (b : Bas T A O I) (c : Cch O I) (r : Rst4 T A nx I) (n2 : cn a2) (n4 : cn a4) (n5 : cn a5) : Nxt (lst_58 1 129 op a1 a2 a3 a4 a5 T A nx I) := by
  unfold lst_58
  by_cases d : op = 58
  · rw [if_pos d]
    have z := st_s r (s_worth b c a1 a2 a3)
    exact z
  · rw [if_neg d]
    exact hs_59 b c r n2 n4 n5
theorem hs_57 (b : Bas T A O I) (c : Cch O I) (r : Rst4 T A nx I) (n2 : cn a2) (n4 : cn a4) (n5 : cn a5) : Nxt (lst_57 1 129 op a1 a2 a3 a4 a5 T A nx I) := by
  unfold lst_57
  by_cases d : op = 57
  · rw [if_pos d]
    have z := st_2 b c r (q_luck b a1 a2)
    exact z
  · rw [if_neg d]
    exact hs_58 b c r n2 n4 n5
theorem hs_56 (b : Bas T A O I) (c : Cch O I) (r : Rst4 T A nx I) (n2 : cn a2) (n4 : cn a4) (n5 : cn a5) : Nxt (lst_56 1 129 op a1 a2 a3 a4 a5 T A nx I) := by
  unfold lst_56
  by_cases d : op = 56
  · rw [if_pos d]
    have z := st_2 b c r (q_tries b a1)
    exact z
  · rw [if_neg d]
    exact hs_57 b c r n2 n4 n5
theorem hs_55 (b : Bas T A O I) (c : Cch O I) (r : Rst4 T A nx I) (n2 : cn a2) (n4 : cn a4) (n5 : cn a5) : Nxt (lst_55 1 129 op a1 a2 a3 a4 a5 T A nx I) := by
  unfold lst_55
  by_cases d : op = 55
  · rw [if_pos d]
    have z := st_2 b c r (q_blind b a1)
    exact z
  · rw [if_neg d]
    exact hs_56 b c r n2 n4 n5
theorem hs_54 (b : Bas T A O I) (c : Cch O I) (r : Rst4 T A nx I) (n2 : cn a2) (n4 : cn a4) (n5 : cn a5) : Nxt (lst_54 1 129 op a1 a2 a3 a4 a5 T A nx I) := by
  unfold lst_54
  by_cases d : op = 54
  · rw [if_pos d]
    have z := st_2 b c r (q_chair b r.2.2.1 a1)
    exact z
  · rw [if_neg d]
    exact hs_55 b c r n2 n4 n5
theorem hs_53 (b : Bas T A O I) (c : Cch O I) (r : Rst4 T A nx I) (n2 : cn a2) (n4 : cn a4) (n5 : cn a5) : Nxt (lst_53 1 129 op a1 a2 a3 a4 a5 T A nx I) := by
  unfold lst_53
  by_cases d : op = 53
  · rw [if_pos d]
    have z := st_2 b c r (q_served b r.2.2.1 a1 a2)
    exact z
  · rw [if_neg d]
    exact hs_54 b c r n2 n4 n5
theorem hs_52 (b : Bas T A O I) (c : Cch O I) (r : Rst4 T A nx I) (n2 : cn a2) (n4 : cn a4) (n5 : cn a5) : Nxt (lst_52 1 129 op a1 a2 a3 a4 a5 T A nx I) := by
  unfold lst_52
  by_cases d : op = 52
  · rw [if_pos d]
    have z := st_2 b c r (q_queue b r.2.2.1 a1 a2)
    exact z
  · rw [if_neg d]
    exact hs_53 b c r n2 n4 n5
theorem hs_51 (b : Bas T A O I) (c : Cch O I) (r : Rst4 T A nx I) (n2 : cn a2) (n4 : cn a4) (n5 : cn a5) : Nxt (lst_51 1 129 op a1 a2 a3 a4 a5 T A nx I) := by
  unfold lst_51
  by_cases d : op = 51
  · rw [if_pos d]
    have z := st_2 b c r (q_run b r.2.2.1 a1)
    exact z
  · rw [if_neg d]
    exact hs_52 b c r n2 n4 n5
theorem hs_50 (b : Bas T A O I) (c : Cch O I) (r : Rst4 T A nx I) (n2 : cn a2) (n4 : cn a4) (n5 : cn a5) : Nxt (lst_50 1 129 op a1 a2 a3 a4 a5 T A nx I) := by
  unfold lst_50
  by_cases d : op = 50
  · rw [if_pos d]
    have z := st_q b c r (q_bribed b r.2.2.1 a1)
    exact z
  · rw [if_neg d]
    exact hs_51 b c r n2 n4 n5
theorem hs_49 (b : Bas T A O I) (c : Cch O I) (r : Rst4 T A nx I) (n2 : cn a2) (n4 : cn a4) (n5 : cn a5) : Nxt (lst_49 1 129 op a1 a2 a3 a4 a5 T A nx I) := by
  unfold lst_49
  by_cases d : op = 49
  · rw [if_pos d]
    have z := st_q b c r (q_judge b r.2.2.1 a1)
    exact z
  · rw [if_neg d]
    exact hs_50 b c r n2 n4 n5
theorem hs_48 (b : Bas T A O I) (c : Cch O I) (r : Rst4 T A nx I) (n2 : cn a2) (n4 : cn a4) (n5 : cn a5) : Nxt (lst_48 1 129 op a1 a2 a3 a4 a5 T A nx I) := by
  unfold lst_48
  by_cases d : op = 48
  · rw [if_pos d]
    have z := st_2 b c r (q_parted b)
    exact z
  · rw [if_neg d]
    exact hs_49 b c r n2 n4 n5
theorem hs_47 (b : Bas T A O I) (c : Cch O I) (r : Rst4 T A nx I) (n2 : cn a2) (n4 : cn a4) (n5 : cn a5) : Nxt (lst_47 1 129 op a1 a2 a3 a4 a5 T A nx I) := by
  unfold lst_47
  by_cases d : op = 47
  · rw [if_pos d]
    have z := st_2 b c r (q_loosely b a1)
    exact z
  · rw [if_neg d]
    exact hs_48 b c r n2 n4 n5
theorem hs_46 (b : Bas T A O I) (c : Cch O I) (r : Rst4 T A nx I) (n2 : cn a2) (n4 : cn a4) (n5 : cn a5) : Nxt (lst_46 1 129 op a1 a2 a3 a4 a5 T A nx I) := by
  unfold lst_46
  by_cases d : op = 46
  · rw [if_pos d]
    have z := st_2 b c r (q_loose b)
    exact z
  · rw [if_neg d]
    exact hs_47 b c r n2 n4 n5
theorem hs_45 (b : Bas T A O I) (c : Cch O I) (r : Rst4 T A nx I) (n2 : cn a2) (n4 : cn a4) (n5 : cn a5) : Nxt (lst_45 1 129 op a1 a2 a3 a4 a5 T A nx I) := by
  unfold lst_45
  by_cases d : op = 45
  · rw [if_pos d]
    have z := st_2 b c r (q_orders b a1)
    exact z
  · rw [if_neg d]
    exact hs_46 b c r n2 n4 n5
theorem hs_44 (b : Bas T A O I) (c : Cch O I) (r : Rst4 T A nx I) (n2 : cn a2) (n4 : cn a4) (n5 : cn a5) : Nxt (lst_44 1 129 op a1 a2 a3 a4 a5 T A nx I) := by
  unfold lst_44
  by_cases d : op = 44
  · rw [if_pos d]
    have z := st_2 b c r (q_depth b a1)
    exact z
  · rw [if_neg d]
    exact hs_45 b c r n2 n4 n5
theorem hs_43 (b : Bas T A O I) (c : Cch O I) (r : Rst4 T A nx I) (n2 : cn a2) (n4 : cn a4) (n5 : cn a5) : Nxt (lst_43 1 129 op a1 a2 a3 a4 a5 T A nx I) := by
  unfold lst_43
  by_cases d : op = 43
  · rw [if_pos d]
    have z := st_2 b c r (q_ring b)
    exact z
  · rw [if_neg d]
    exact hs_44 b c r n2 n4 n5
theorem hs_42 (b : Bas T A O I) (c : Cch O I) (r : Rst4 T A nx I) (n2 : cn a2) (n4 : cn a4) (n5 : cn a5) : Nxt (lst_42 1 129 op a1 a2 a3 a4 a5 T A nx I) := by
  unfold lst_42
  by_cases d : op = 42
  · rw [if_pos d]
    have z := st_2 b c r (q_never b)
    exact z
  · rw [if_neg d]
    exact hs_43 b c r n2 n4 n5
theorem hs_41 (b : Bas T A O I) (c : Cch O I) (r : Rst4 T A nx I) (n2 : cn a2) (n4 : cn a4) (n5 : cn a5) : Nxt (lst_41 1 129 op a1 a2 a3 a4 a5 T A nx I) := by
  unfold lst_41
  by_cases d : op = 41
  · rw [if_pos d]
    have z := st_2 b c r (q_sets b)
    exact z
  · rw [if_neg d]
    exact hs_42 b c r n2 n4 n5
theorem hs_40 (b : Bas T A O I) (c : Cch O I) (r : Rst4 T A nx I) (n2 : cn a2) (n4 : cn a4) (n5 : cn a5) : Nxt (lst_40 1 129 op a1 a2 a3 a4 a5 T A nx I) := by
  unfold lst_40
  by_cases d : op = 40
  · rw [if_pos d]
    have z := st_2 b c r (q_possible b a1)
    exact z
  · rw [if_neg d]
    exact hs_41 b c r n2 n4 n5
theorem hs_39 (b : Bas T A O I) (c : Cch O I) (r : Rst4 T A nx I) (n2 : cn a2) (n4 : cn a4) (n5 : cn a5) : Nxt (lst_39 1 129 op a1 a2 a3 a4 a5 T A nx I) := by
  unfold lst_39
  by_cases d : op = 39
  · rw [if_pos d]
    have z := st_s r (s_fake b c)
    exact z
  · rw [if_neg d]
    exact hs_40 b c r n2 n4 n5
theorem hs_38 (b : Bas T A O I) (c : Cch O I) (r : Rst4 T A nx I) (n2 : cn a2) (n4 : cn a4) (n5 : cn a5) : Nxt (lst_38 1 129 op a1 a2 a3 a4 a5 T A nx I) := by
  unfold lst_38
  by_cases d : op = 38
  · rw [if_pos d]
    have z := st_s r (s_forged b c a1)
    exact z
  · rw [if_neg d]
    exact hs_39 b c r n2 n4 n5
theorem hs_37 (b : Bas T A O I) (c : Cch O I) (r : Rst4 T A nx I) (n2 : cn a2) (n4 : cn a4) (n5 : cn a5) : Nxt (lst_37 1 129 op a1 a2 a3 a4 a5 T A nx I) := by
  unfold lst_37
  by_cases d : op = 37
  · rw [if_pos d]
    have z := st_s r (s_start b c a1)
    exact z
  · rw [if_neg d]
    exact hs_38 b c r n2 n4 n5
theorem hs_36 (b : Bas T A O I) (c : Cch O I) (r : Rst4 T A nx I) (n2 : cn a2) (n4 : cn a4) (n5 : cn a5) : Nxt (lst_36 1 129 op a1 a2 a3 a4 a5 T A nx I) := by
  unfold lst_36
  by_cases d : op = 36
  · rw [if_pos d]
    have z := st_s r (s_slack b c a1)
    exact z
  · rw [if_neg d]
    exact hs_37 b c r n2 n4 n5
theorem hs_35 (b : Bas T A O I) (c : Cch O I) (r : Rst4 T A nx I) (n2 : cn a2) (n4 : cn a4) (n5 : cn a5) : Nxt (lst_35 1 129 op a1 a2 a3 a4 a5 T A nx I) := by
  unfold lst_35
  by_cases d : op = 35
  · rw [if_pos d]
    have z := st_s r (s_always b c a1)
    exact z
  · rw [if_neg d]
    exact hs_36 b c r n2 n4 n5
theorem hs_34 (b : Bas T A O I) (c : Cch O I) (r : Rst4 T A nx I) (n2 : cn a2) (n4 : cn a4) (n5 : cn a5) : Nxt (lst_34 1 129 op a1 a2 a3 a4 a5 T A nx I) := by
  unfold lst_34
  by_cases d : op = 34
  · rw [if_pos d]
    have z := st_s r (s_ways b c)
    exact z
  · rw [if_neg d]
    exact hs_35 b c r n2 n4 n5
theorem hs_33 (b : Bas T A O I) (c : Cch O I) (r : Rst4 T A nx I) (n2 : cn a2) (n4 : cn a4) (n5 : cn a5) : Nxt (lst_33 1 129 op a1 a2 a3 a4 a5 T A nx I) := by
  unfold lst_33
  by_cases d : op = 33
  · rw [if_pos d]
    have z := st_s r (s_whom b c)
    exact z
  · rw [if_neg d]
    exact hs_34 b c r n2 n4 n5
theorem hs_32 (b : Bas T A O I) (c : Cch O I) (r : Rst4 T A nx I) (n2 : cn a2) (n4 : cn a4) (n5 : cn a5) : Nxt (lst_32 1 129 op a1 a2 a3 a4 a5 T A nx I) := by
  unfold lst_32
  by_cases d : op = 32
  · rw [if_pos d]
    have z := st_s r (s_cheapest b c)
    exact z
  · rw [if_neg d]
    exact hs_33 b c r n2 n4 n5
theorem hs_31 (b : Bas T A O I) (c : Cch O I) (r : Rst4 T A nx I) (n2 : cn a2) (n4 : cn a4) (n5 : cn a5) : Nxt (lst_31 1 129 op a1 a2 a3 a4 a5 T A nx I) := by
  unfold lst_31
  by_cases d : op = 31
  · rw [if_pos d]
    have z := st_s r (s_tread b c a1)
    exact z
  · rw [if_neg d]
    exact hs_32 b c r n2 n4 n5
theorem hs_30 (b : Bas T A O I) (c : Cch O I) (r : Rst4 T A nx I) (n2 : cn a2) (n4 : cn a4) (n5 : cn a5) : Nxt (lst_30 1 129 op a1 a2 a3 a4 a5 T A nx I) := by
  unfold lst_30
  by_cases d : op = 30
  · rw [if_pos d]
    have z := st_s r (s_least b c)
    exact z
  · rw [if_neg d]
    exact hs_31 b c r n2 n4 n5
theorem hs_29 (b : Bas T A O I) (c : Cch O I) (r : Rst4 T A nx I) (n2 : cn a2) (n4 : cn a4) (n5 : cn a5) : Nxt (lst_29 1 129 op a1 a2 a3 a4 a5 T A nx I) := by
  unfold lst_29
  by_cases d : op = 29
  · rw [if_pos d]
    have z := st_s r (s_fewest b c)
    exact z
  · rw [if_neg d]
    exact hs_30 b c r n2 n4 n5
theorem hs_28 (b : Bas T A O I) (c : Cch O I) (r : Rst4 T A nx I) (n2 : cn a2) (n4 : cn a4) (n5 : cn a5) : Nxt (lst_28 1 129 op a1 a2 a3 a4 a5 T A nx I) := by
  unfold lst_28
  by_cases d : op = 28
  · rw [if_pos d]
    have z := st_s r (s_step b c a1)
    exact z
  · rw [if_neg d]
    exact hs_29 b c r n2 n4 n5
theorem hs_27 (b : Bas T A O I) (c : Cch O I) (r : Rst4 T A nx I) (n2 : cn a2) (n4 : cn a4) (n5 : cn a5) : Nxt (lst_27 1 129 op a1 a2 a3 a4 a5 T A nx I) := by
  unfold lst_27
  by_cases d : op = 27
  · rw [if_pos d]
    have z := st_s r (s_soonest b c)
    exact z
  · rw [if_neg d]
    exact hs_28 b c r n2 n4 n5
theorem hs_26 (b : Bas T A O I) (c : Cch O I) (r : Rst4 T A nx I) (n2 : cn a2) (n4 : cn a4) (n5 : cn a5) : Nxt (lst_26 1 129 op a1 a2 a3 a4 a5 T A nx I) := by
  unfold lst_26
  by_cases d : op = 26
  · rw [if_pos d]
    have z := st_q b c r (q_done b)
    exact z
  · rw [if_neg d]
    exact hs_27 b c r n2 n4 n5
theorem hs_25 (b : Bas T A O I) (c : Cch O I) (r : Rst4 T A nx I) (n2 : cn a2) (n4 : cn a4) (n5 : cn a5) : Nxt (lst_25 1 129 op a1 a2 a3 a4 a5 T A nx I) := by
  unfold lst_25
  by_cases d : op = 25
  · rw [if_pos d]
    have z := st_q b c r (q_paid b)
    exact z
  · rw [if_neg d]
    exact hs_26 b c r n2 n4 n5
theorem hs_24 (b : Bas T A O I) (c : Cch O I) (r : Rst4 T A nx I) (n2 : cn a2) (n4 : cn a4) (n5 : cn a5) : Nxt (lst_24 1 129 op a1 a2 a3 a4 a5 T A nx I) := by
  unfold lst_24
  by_cases d : op = 24
  · rw [if_pos d]
    have z := st_q b c r (q_shoes b)
    exact z
  · rw [if_neg d]
    exact hs_25 b c r n2 n4 n5
theorem hs_23 (b : Bas T A O I) (c : Cch O I) (r : Rst4 T A nx I) (n2 : cn a2) (n4 : cn a4) (n5 : cn a5) : Nxt (lst_23 1 129 op a1 a2 a3 a4 a5 T A nx I) := by
  unfold lst_23
  by_cases d : op = 23
  · rw [if_pos d]
    have z := st_q b c r (q_led b.1 b.2.1 b.2.2.1 b.2.2.2.1 a1)
    exact z
  · rw [if_neg d]
    exact hs_24 b c r n2 n4 n5
theorem hs_22 (b : Bas T A O I) (c : Cch O I) (r : Rst4 T A nx I) (n2 : cn a2) (n4 : cn a4) (n5 : cn a5) : Nxt (lst_22 1 129 op a1 a2 a3 a4 a5 T A nx I) := by
  unfold lst_22
  by_cases d : op = 22
  · rw [if_pos d]
    have z := st_o c r (s_anew b)
    exact z
  · rw [if_neg d]
    exact hs_23 b c r n2 n4 n5
theorem hs_21 (b : Bas T A O I) (c : Cch O I) (r : Rst4 T A nx I) (n2 : cn a2) (n4 : cn a4) (n5 : cn a5) : Nxt (lst_21 1 129 op a1 a2 a3 a4 a5 T A nx I) := by
  unfold lst_21
  by_cases d : op = 21
  · rw [if_pos d]
    have z := st_o c r (s_undo b)
    exact z
  · rw [if_neg d]
    exact hs_22 b c r n2 n4 n5
theorem hs_20 (b : Bas T A O I) (c : Cch O I) (r : Rst4 T A nx I) (n2 : cn a2) (n4 : cn a4) (n5 : cn a5) : Nxt (lst_20 1 129 op a1 a2 a3 a4 a5 T A nx I) := by
  unfold lst_20
  by_cases d : op = 20
  · rw [if_pos d]
    have z := st_o c r (s_waits b a1)
    exact z
  · rw [if_neg d]
    exact hs_21 b c r n2 n4 n5
theorem hs_19 (b : Bas T A O I) (c : Cch O I) (r : Rst4 T A nx I) (n2 : cn a2) (n4 : cn a4) (n5 : cn a5) : Nxt (lst_19 1 129 op a1 a2 a3 a4 a5 T A nx I) := by
  unfold lst_19
  by_cases d : op = 19
  · rw [if_pos d]
    have z := st_o c r (s_go b a1)
    exact z
  · rw [if_neg d]
    exact hs_20 b c r n2 n4 n5
theorem hs_18 (b : Bas T A O I) (c : Cch O I) (r : Rst4 T A nx I) (n2 : cn a2) (n4 : cn a4) (n5 : cn a5) : Nxt (lst_18 1 129 op a1 a2 a3 a4 a5 T A nx I) := by
  unfold lst_18
  by_cases d : op = 18
  · rw [if_pos d]
    have z := st_q b c r (q_can b)
    exact z
  · rw [if_neg d]
    exact hs_19 b c r n2 n4 n5
theorem hs_17 (b : Bas T A O I) (c : Cch O I) (r : Rst4 T A nx I) (n2 : cn a2) (n4 : cn a4) (n5 : cn a5) : Nxt (lst_17 1 129 op a1 a2 a3 a4 a5 T A nx I) := by
  unfold lst_17
  by_cases d : op = 17
  · rw [if_pos d]
    have z := st_q b c r (q_why b a1)
    exact z
  · rw [if_neg d]
    exact hs_18 b c r n2 n4 n5
theorem hs_16 (b : Bas T A O I) (c : Cch O I) (r : Rst4 T A nx I) (n2 : cn a2) (n4 : cn a4) (n5 : cn a5) : Nxt (lst_16 1 129 op a1 a2 a3 a4 a5 T A nx I) := by
  unfold lst_16
  by_cases d : op = 16
  · rw [if_pos d]
    have z := st_q b c r (q_when b a1)
    exact z
  · rw [if_neg d]
    exact hs_17 b c r n2 n4 n5
theorem hs_15 (b : Bas T A O I) (c : Cch O I) (r : Rst4 T A nx I) (n2 : cn a2) (n4 : cn a4) (n5 : cn a5) : Nxt (lst_15 1 129 op a1 a2 a3 a4 a5 T A nx I) := by
  unfold lst_15
  by_cases d : op = 15
  · rw [if_pos d]
    have z := st_q b c r (q_until b a1)
    exact z
  · rw [if_neg d]
    exact hs_16 b c r n2 n4 n5
theorem hs_14 (b : Bas T A O I) (c : Cch O I) (r : Rst4 T A nx I) (n2 : cn a2) (n4 : cn a4) (n5 : cn a5) : Nxt (lst_14 1 129 op a1 a2 a3 a4 a5 T A nx I) := by
  unfold lst_14
  by_cases d : op = 14
  · rw [if_pos d]
    have z := st_q b c r (q_held b)
    exact z
  · rw [if_neg d]
    exact hs_15 b c r n2 n4 n5
theorem hs_13 (b : Bas T A O I) (c : Cch O I) (r : Rst4 T A nx I) (n2 : cn a2) (n4 : cn a4) (n5 : cn a5) : Nxt (lst_13 1 129 op a1 a2 a3 a4 a5 T A nx I) := by
  unfold lst_13
  by_cases d : op = 13
  · rw [if_pos d]
    have z := st_q b c r (q_room b)
    exact z
  · rw [if_neg d]
    exact hs_14 b c r n2 n4 n5
theorem hs_12 (b : Bas T A O I) (c : Cch O I) (r : Rst4 T A nx I) (n2 : cn a2) (n4 : cn a4) (n5 : cn a5) : Nxt (lst_12 1 129 op a1 a2 a3 a4 a5 T A nx I) := by
  unfold lst_12
  by_cases d : op = 12
  · rw [if_pos d]
    have z := st_q b c r (q_now b)
    exact z
  · rw [if_neg d]
    exact hs_13 b c r n2 n4 n5
theorem hs_11 (b : Bas T A O I) (c : Cch O I) (r : Rst4 T A nx I) (n2 : cn a2) (n4 : cn a4) (n5 : cn a5) : Nxt (lst_11 1 129 op a1 a2 a3 a4 a5 T A nx I) := by
  unfold lst_11
  by_cases d : op = 11
  · rw [if_pos d]
    have z := st_q b c r (q_permit b.1 b.2.2.1 b.2.2.2.1)
    exact z
  · rw [if_neg d]
    exact hs_12 b c r n2 n4 n5
theorem hs_10 (b : Bas T A O I) (c : Cch O I) (r : Rst4 T A nx I) (n2 : cn a2) (n4 : cn a4) (n5 : cn a5) : Nxt (lst_10 1 129 op a1 a2 a3 a4 a5 T A nx I) := by
  unfold lst_10
  by_cases d : op = 10
  · rw [if_pos d]
    have z := st_q b c r (q_walk b.1 b.2.1 b.2.2.1 b.2.2.2.1 b.2.2.2.2.2.1 a1 a2)
    exact z
  · rw [if_neg d]
    exact hs_11 b c r n2 n4 n5
theorem hs_9 (b : Bas T A O I) (c : Cch O I) (r : Rst4 T A nx I) (n2 : cn a2) (n4 : cn a4) (n5 : cn a5) : Nxt (lst_9 1 129 op a1 a2 a3 a4 a5 T A nx I) := by
  unfold lst_9
  by_cases d : op = 9
  · rw [if_pos d]
    have z := st_q b c r (q_week b.1 b.2.1 b.2.2.1 b.2.2.2.1 a1)
    exact z
  · rw [if_neg d]
    exact hs_10 b c r n2 n4 n5
theorem hs_8 (b : Bas T A O I) (c : Cch O I) (r : Rst4 T A nx I) (n2 : cn a2) (n4 : cn a4) (n5 : cn a5) : Nxt (lst_8 1 129 op a1 a2 a3 a4 a5 T A nx I) := by
  unfold lst_8
  by_cases d : op = 8
  · rw [if_pos d]
    have z := st_q b c r (q_opens b.1 b.2.1 b.2.2.1 b.2.2.2.1 b.2.2.2.2.2.2.1 a1 a2)
    exact z
  · rw [if_neg d]
    exact hs_9 b c r n2 n4 n5
theorem hs_7 (b : Bas T A O I) (c : Cch O I) (r : Rst4 T A nx I) (n2 : cn a2) (n4 : cn a4) (n5 : cn a5) : Nxt (lst_7 1 129 op a1 a2 a3 a4 a5 T A nx I) := by
  unfold lst_7
  by_cases d : op = 7
  · rw [if_pos d]
    have z := st_q b c r (q_open b.1 b.2.1 b.2.2.1 b.2.2.2.1 a1 a2)
    exact z
  · rw [if_neg d]
    exact hs_8 b c r n2 n4 n5
theorem hs_6 (b : Bas T A O I) (c : Cch O I) (r : Rst4 T A nx I) (n2 : cn a2) (n4 : cn a4) (n5 : cn a5) : Nxt (lst_6 1 129 op a1 a2 a3 a4 a5 T A nx I) := by
  unfold lst_6
  by_cases d : op = 6
  · rw [if_pos d]
    have z := st_q b c r (q_asked b.1 b.2.1 b.2.2.1 b.2.2.2.1 a1 a2)
    exact z
  · rw [if_neg d]
    exact hs_7 b c r n2 n4 n5
theorem hs_5 (b : Bas T A O I) (c : Cch O I) (r : Rst4 T A nx I) (n2 : cn a2) (n4 : cn a4) (n5 : cn a5) : Nxt (lst_5 1 129 op a1 a2 a3 a4 a5 T A nx I) := by
  unfold lst_5
  by_cases d : op = 5
  · rw [if_pos d]
    have z := st_q b c r (q_asks b.1 b.2.1 b.2.2.1 b.2.2.2.1 a1 a2)
    exact z
  · rw [if_neg d]
    exact hs_6 b c r n2 n4 n5
theorem hs_4 (b : Bas T A O I) (c : Cch O I) (r : Rst4 T A nx I) (n2 : cn a2) (n4 : cn a4) (n5 : cn a5) : Nxt (lst_4 1 129 op a1 a2 a3 a4 a5 T A nx I) := by
  unfold lst_4
  by_cases d : op = 4
  · rw [if_pos d]
    have z := st_q b c r (q_official b.1 b.2.1 b.2.2.1 b.2.2.2.1 a1 a2)
    exact z
  · rw [if_neg d]
    exact hs_5 b c r n2 n4 n5
theorem hs_3 (b : Bas T A O I) (c : Cch O I) (r : Rst4 T A nx I) (n2 : cn a2) (n4 : cn a4) (n5 : cn a5) : Nxt (lst_3 1 129 op a1 a2 a3 a4 a5 T A nx I) := by
  unfold lst_3
  by_cases d : op = 3
  · rw [if_pos d]
    have z := st_q b c r (q_fault b.1 r.2.1 a1)
    exact z
  · rw [if_neg d]
    exact hs_4 b c r n2 n4 n5
theorem hs_2 (b : Bas T A O I) (c : Cch O I) (r : Rst4 T A nx I) (n2 : cn a2) (n4 : cn a4) (n5 : cn a5) : Nxt (lst_2 1 129 op a1 a2 a3 a4 a5 T A nx I) := by
  unfold lst_2
  by_cases d : op = 2
  · rw [if_pos d]
    have z := st_f r (s_office b c r.1)
    exact z
  · rw [if_neg d]
    exact hs_3 b c r n2 n4 n5
theorem hs_1 (b : Bas T A O I) (c : Cch O I) (r : Rst4 T A nx I) (n2 : cn a2) (n4 : cn a4) (n5 : cn a5) : Nxt (lst_1 1 129 op a1 a2 a3 a4 a5 T A nx I) := by
  unfold lst_1
  by_cases d : op = 1
  · rw [if_pos d]
    have z := st_t b c r (q_end b.1 r.1 a1)
    exact z
  · rw [if_neg d]
    exact hs_2 b c r n2 n4 n5
theorem hs_0 (b : Bas T A O I) (c : Cch O I) (r : Rst4 T A nx I) (n2 : cn a2) (n4 : cn a4) (n5 : cn a5) : Nxt (lst_0 1 129 op a1 a2 a3 a4 a5 T A nx I) := by
  unfold lst_0
  by_cases d : op = 0
  · rw [if_pos d]
    have z := st_t b c r (q_feed b.1 r.1 a1 a2 a3 a4 a5)
    exact z
  · rw [if_neg d]
    exact hs_1 b c r n2 n4 n5
theorem hstep_B (op a1 a2 a3 a4 a5 : Int) (T : Knd) (A : Rfs) (nx : Nat) (I : Mem) (_ : cn a1) (n2 : cn a2) (_ : cn a3) (n4 : cn a4) (n5 : cn a5) (i : InvB T A nx I) : ∃ S3 : St, lstep (0 + 1) (S1v.2.2.1 + 1) op a1 a2 a3 a4 a5 T A nx I = some S3 ∧ InvB S3.1 S3.2.1 S3.2.2.1 S3.2.2.2 := by
  obtain ⟨O, b, c, r⟩ := i
  rw [s1_nx]
  exact hs_0 b c r n2 n4 n5
end
